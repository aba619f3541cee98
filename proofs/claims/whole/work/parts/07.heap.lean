-- EACH ROW OF THE INTERPRETER IS THE MACHINE'S: fields and rows of numbers
theorem zF_mem {o i ci k : Nat} (h : zF o i = some (ci, k)) : (o, i, ci, k) ∈ zFl := by
  unfold zF at h
  cases hf : zFl.find? (fun q => q.1 == o && q.2.1 == i) with
  | none => rw [hf] at h; cases h
  | some q =>
    rw [hf] at h
    have h1 := List.mem_of_find?_eq_some hf
    have h2 := List.find?_some hf
    simp only [Bool.and_eq_true, beq_iff_eq] at h2
    obtain ⟨a, b, x⟩ := q
    cases h
    obtain ⟨rfl, rfl⟩ := h2
    exact h1
theorem zF_lt {o i ci k : Nat} (h : zF o i = some (ci, k)) : ci < 13 ∧ k < zNf ci := by
  have h1 := List.all_eq_true.mp zFl_lt _ (zF_mem h)
  simp only [Bool.and_eq_true, decide_eq_true_eq] at h1
  exact ⟨h1.2, h1.1⟩
theorem z_lay2 {c : Nat} (h : c < 13) : ∀ w ∈ u_ws (zCn c) (zT c) (zNf c), w ∈ zTbl := by
  intro w hw
  refine z_in (z_lay h w hw) ?_
  obtain ⟨k, -, rfl⟩ := List.mem_map.mp hw
  unfold u_lay
  split <;> rfl
theorem zCell_obj {dA : Nat → ClassId} {w : ZW} {ad : Nat → Nat} {o ci : Nat} (h : w.2.2.2.1 o = (10 + ci, zNf ci)) : zCell dA w ad o = .inr (ci, (List.range (zNf ci)).map (fun k => zFv ci w.2.2.2.2.1 w.2.2.2.2.2 ad o k)) := by
  unfold zCell
  rw [h]
  dsimp only
  rw [if_neg (by omega), if_neg (by omega), if_neg (by omega), if_neg (by omega), Nat.add_sub_cancel_left]
theorem zCell_i {dA : Nat → ClassId} {w : ZW} {ad : Nat → Nat} {o : Nat} (h : (w.2.2.2.1 o).1 = 0) : zCell dA w ad o = .inl (dA 0, (w.2.2.2.1 o).2, .inl (fun k => Int32.ofInt (w.2.2.2.2.2 o k))) := by
  unfold zCell
  rw [if_pos h]
theorem zCell_b {dA : Nat → ClassId} {w : ZW} {ad : Nat → Nat} {o : Nat} (h : (w.2.2.2.1 o).1 = 1) : zCell dA w ad o = .inl (dA 1, (w.2.2.2.1 o).2, .inl (fun k => Int32.ofInt (w.2.2.2.2.2 o k))) := by
  unfold zCell
  rw [if_neg (by omega), if_pos h]
theorem zCell_r {dA : Nat → ClassId} {w : ZW} {ad : Nat → Nat} {o : Nat} (h : (w.2.2.2.1 o).1 = 2) : zCell dA w ad o = .inl (dA 2, (w.2.2.2.1 o).2, .inr (.inr (.inr (.inr (fun k => if w.2.2.2.2.1 o k = 0 then none else some (ad (w.2.2.2.2.1 o k))))))) := by
  unfold zCell
  rw [if_neg (by omega), if_neg (by omega), if_pos h]
theorem zCell_l {dA : Nat → ClassId} {w : ZW} {ad : Nat → Nat} {o : Nat} (h : (w.2.2.2.1 o).1 = 5) : zCell dA w ad o = .inl (dA 3, (w.2.2.2.1 o).2, .inr (.inl (fun k => zLg (fun j => w.2.2.2.2.2 o (16 * k + j))))) := by
  unfold zCell
  rw [if_neg (by omega), if_neg (by omega), if_neg (by omega), if_pos h]
theorem zCell_put {dA : Nat → ClassId} {w : ZW} {ad : Nat → Nat} {o a k : Nat} {x : Int} (h : a ≠ o) : zCell dA (zset w (zup w.2.2.2.2.2 o k x)) ad a = zCell dA w ad a := by
  have e : ∀ b, zup w.2.2.2.2.2 o k x a b = w.2.2.2.2.2 a b := fun b => by unfold zup; rw [if_neg (fun q => h q.1)]
  unfold zCell zset zFv
  simp only [e]
theorem zCell_putR {dA : Nat → ClassId} {w : ZW} {ad : Nat → Nat} {o a k r : Nat} (h : a ≠ o) : zCell dA (zsetR w (zup w.2.2.2.2.1 o k r)) ad a = zCell dA w ad a := by
  have e : ∀ b, zup w.2.2.2.2.1 o k r a b = w.2.2.2.2.1 a b := fun b => by unfold zup; rw [if_neg (fun q => h q.1)]
  unfold zCell zsetR zFv
  simp only [e]
theorem z_map_set {f g : Nat → Value} {n k : Nat} {v : Value} (hk : g k = v) (ho : ∀ b, b ≠ k → g b = f b) : ((List.range n).map f).set k v = (List.range n).map g := by
  apply List.ext_getElem?
  intro i
  by_cases hi : i < n
  · by_cases hik : k = i
    · subst hik
      rw [List.getElem?_set_self (by rw [List.length_map, List.length_range]; exact hi), List.getElem?_map, List.getElem?_range hi, ← hk]
      rfl
    · rw [List.getElem?_set_ne hik, List.getElem?_map, List.getElem?_map, List.getElem?_range hi]
      show some _ = some _
      rw [ho i (Ne.symm hik)]
  · rw [List.getElem?_eq_none (by rw [List.length_set, List.length_map, List.length_range]; omega), List.getElem?_eq_none (by rw [List.length_map, List.length_range]; omega)]
section Z7
variable {p : Program} {l : Launch} {e : Env} {R : Room} {s : State} {m : MethodId} {args : Array Value} {below : List Frame} {meth : Method} {c : Code} {H : Heap} {locs : List Loc} {cells slots C1 S1 : Nat} {Q : State → Prop}
variable {X0 : (Nat × Nat) × (Nat → Int) × (Nat × Nat)} {D : va_G} {dA : Nat → ClassId} {A : Nat → Prop} {mid pc pc2 len : Nat} {lls lls2 : ZL} {st st2 : List AV} {w w2 : ZW} {ad : Nat → Nat} {ls : Array Slot}
theorem zc_get {i : Nat} (CX : zCx p s m args meth c mid) (hK : va_K D vwCl (zTys dA) s) (hd : decode (zB mid) pc = .ok (.getfield i, 3)) (hs : zget (zO mid) i pc lls st w = some (pc2, lls2, st2, w2)) (Z : zAt X0 D dA A s ad lls st w H locs cells slots C1 S1) (hv : lv_has ls (zL mid) (zLv ad lls)) (hl : lls.length = zL mid)
    (kk : zNx p l e R s m args below meth c Q X0 D dA A mid C1 S1 ad w.2.2.1 pc2 lls2 st2 w2) : W p l e R s m args below meth c H locs cells slots Q (F0 m pc ls (st.map (zVal ad))) := by
  unfold zget at hs
  split at hs
  · rename_i o t ci k hf
    split at hs
    · rename_i ho
      obtain ⟨hc, hk⟩ := zF_lt hf
      have hZ := Z.2.2.2.2.2.2.2.1
      have ht := zst_t hZ
      have hb := zOK_at Z.1 (o := o) (by rw [ho]; show 10 + ci ≠ 9; omega) (by rw [ho]; show 10 + ci ≠ 3; omega) (by rw [ho]; show 10 + ci ≠ 4; omega)
      have hat := zWl_at (dA := dA) (ad := ad) hb.1 hb.2
      rw [zCell_obj ho] at hat
      have hts := CX.2.2.2.2.1
      have hlink : (zFw (zO mid, i, ci, k)).before args s = true := hts _ (z_in (zFl_ok _ (zF_mem hf)) rfl)
      have row : ∀ v : Value, zFv ci w.2.2.2.2.1 w.2.2.2.2.2 ad o k = v → W p l e R s m args below meth c H locs cells slots Q (F0 m (pc + 3) ls (v :: t.map (zVal ad))) → W p l e R s m args below meth c H locs cells slots Q (F0 m pc ls (.ref (ad o) :: t.map (zVal ad))) := by
        intro v hv0 kk0
        refine va_get (D := D) (ci := ci) (v := v) (C := zCn ci) (T := zT ci) (N := zNf ci) CX.1 CX.2.1 hts (z_lay2 hc) CX.2.2.2.1 hK Z.2.1 (o - 1) hat (z_cl hc) k hk hlink (fun _ h9 => h9) ?_ hd kk0
        rw [List.getElem?_map, List.getElem?_range hk, ← hv0]
        rfl
      split at hs
      · rename_i hr
        split at hs
        · cases hs
        · rename_i h0
          cases hs
          refine row (.ref (ad (w.2.2.2.2.1 o k))) (by unfold zFv; rw [if_pos hr, if_neg h0]) (zN1 Z hv hl (zst_c ?_ ht) kk)
          rcases Z.1.2.1 o k with h | h
          · exact absurd h h0
          · exact h
      · rename_i hr
        cases hs
        exact row (.int (Int32.ofInt (w.2.2.2.2.2 o k))) (by unfold zFv; rw [if_neg hr]) (zN1 Z hv hl (zst_c (v := .inl (w.2.2.2.2.2 o k)) (Z.1.1 o k) ht) kk)
    · cases hs
  · cases hs
theorem zsc_ne (Z : zAt X0 D dA A s ad lls st w H locs cells slots C1 S1) {o : Nat} (h : o ≤ w.2.2.1) : o ≠ zSc := by
  have h1 := Z.1.2.2.2.2.2.1
  unfold zSx at h1
  unfold zSc
  omega
/-- an int is put: what else holds stays -/
theorem zAt_put {H1 : Heap} {locs1 : List Loc} {o k : Nat} {x : Int} {t : List AV} (Z : zAt X0 D dA A s ad lls st w H locs cells slots C1 S1) (hsc : o ≠ zSc) (hx : zr x) (ht : ∀ v ∈ t, zOv w.2.2.1 v) (e : va_E) (he : zCell dA (zset w (zup w.2.2.2.2.2 o k x)) ad o = e) (h1 : 1 ≤ o)
    (hP : va_P D vwCl ((zWl dA w ad).set (o - 1) (ad o, e)) H1) (hD : va_D A ((zWl dA w ad).set (o - 1) (ad o, e))) (hS : va_S A s.heap H1 locs1) : zAt X0 D dA A s ad lls t (zset w (zup w.2.2.2.2.2 o k x)) H1 locs1 cells slots C1 S1 := by
  obtain ⟨⟨a1, a2, a3, a4, a5, a6, a7⟩, -, -, -, ⟨x1, x2, x3⟩, c1, s1, -, l1⟩ := Z
  have hw := zWl_set (dA := dA) (w := w) (w2 := zset w (zup w.2.2.2.2.2 o k x)) (ad := ad) h1 rfl he (fun a ha => zCell_put ha)
  rw [hw] at hP hD
  refine ⟨⟨fun a b => ?_, a2, a3, a4, a5, a6, a7⟩, hP, hD, hS, ⟨x1, fun b => ?_, x3⟩, c1, s1, ht, l1⟩
  · show zr (zup w.2.2.2.2.2 o k x a b)
    unfold zup
    split
    · exact hx
    · exact a1 a b
  · show zup w.2.2.2.2.2 o k x zSc b = X0.2.1 b
    unfold zup
    rw [if_neg (fun q => hsc q.1.symm)]
    exact x2 b
theorem zAt_putR {H1 : Heap} {locs1 : List Loc} {o k r : Nat} {t : List AV} (Z : zAt X0 D dA A s ad lls st w H locs cells slots C1 S1) (hr : zOv w.2.2.1 (.inr r)) (ht : ∀ v ∈ t, zOv w.2.2.1 v) (e : va_E) (he : zCell dA (zsetR w (zup w.2.2.2.2.1 o k r)) ad o = e) (h1 : 1 ≤ o)
    (hP : va_P D vwCl ((zWl dA w ad).set (o - 1) (ad o, e)) H1) (hD : va_D A ((zWl dA w ad).set (o - 1) (ad o, e))) (hS : va_S A s.heap H1 locs1) : zAt X0 D dA A s ad lls t (zsetR w (zup w.2.2.2.2.1 o k r)) H1 locs1 cells slots C1 S1 := by
  obtain ⟨⟨a1, a2, a3, a4, a5, a6, a7⟩, -, -, -, x1, c1, s1, -, l1⟩ := Z
  have hw := zWl_set (dA := dA) (w := w) (w2 := zsetR w (zup w.2.2.2.2.1 o k r)) (ad := ad) h1 rfl he (fun a ha => zCell_putR ha)
  rw [hw] at hP hD
  refine ⟨⟨a1, fun a b => ?_, a3, a4, a5, a6, a7⟩, hP, hD, hS, x1, c1, s1, ht, l1⟩
  show zup w.2.2.2.2.1 o k r a b = 0 ∨ zOv w.2.2.1 (.inr (zup w.2.2.2.2.1 o k r a b))
  unfold zup
  split
  · exact Or.inr hr
  · exact a2 a b
theorem zc_put {i : Nat} (CX : zCx p s m args meth c mid) (hK : va_K D vwCl (zTys dA) s) (hd : decode (zB mid) pc = .ok (.putfield i, 3)) (hs : zput mid i pc lls st w = some (pc2, lls2, st2, w2)) (Z : zAt X0 D dA A s ad lls st w H locs cells slots C1 S1) (hv : lv_has ls (zL mid) (zLv ad lls)) (hl : lls.length = zL mid)
    (kk : zNx p l e R s m args below meth c Q X0 D dA A mid C1 S1 ad w.2.2.1 pc2 lls2 st2 w2) : W p l e R s m args below meth c H locs cells slots Q (F0 m pc ls (st.map (zVal ad))) := by
  unfold zput at hs
  split at hs
  · rename_i v o t ci k hf
    split at hs
    · rename_i ho
      obtain ⟨ho, hfin⟩ := ho
      obtain ⟨hc, hk⟩ := zF_lt hf
      have hZ := Z.2.2.2.2.2.2.2.1
      have hv1 := zst_h hZ
      have ht := zst_t (zst_t hZ)
      have h3 : (w.2.2.2.1 o).1 ≠ 3 := by rw [ho]; show 10 + ci ≠ 3; omega
      have hb := zOK_at Z.1 (o := o) (by rw [ho]; show 10 + ci ≠ 9; omega) h3 (by rw [ho]; show 10 + ci ≠ 4; omega)
      have hsc : o ≠ zSc := zsc_ne Z hb.2
      have hat := zWl_at (dA := dA) (ad := ad) hb.1 hb.2
      rw [zCell_obj ho] at hat
      have hts := CX.2.2.2.2.1
      have hlink : (zFw (zO mid, i, ci, k)).before args s = true := hts _ (z_in (zFl_ok _ (zF_mem hf)) rfl)
      have hln : k < ((List.range (zNf ci)).map (fun k => zFv ci w.2.2.2.2.1 w.2.2.2.2.2 ad o k)).length := by rw [List.length_map, List.length_range]; exact hk
      have hpd := z_ty hc k hk
      have row : ∀ (ty : FieldType) (V : Value), zTy ci k = ty → narrow ty V = V → fits ty V = true → (∀ (H1 : Heap) (locs1 : List Loc), va_P D vwCl ((zWl dA w ad).set (o - 1) (ad o, .inr (ci, ((List.range (zNf ci)).map (fun k => zFv ci w.2.2.2.2.1 w.2.2.2.2.2 ad o k)).set k V))) H1 → va_D A ((zWl dA w ad).set (o - 1) (ad o, .inr (ci, ((List.range (zNf ci)).map (fun k => zFv ci w.2.2.2.2.1 w.2.2.2.2.2 ad o k)).set k V))) → va_S A s.heap H1 locs1 → W p l e R s m args below meth c H1 locs1 cells slots Q (F0 m (pc + 3) ls (t.map (zVal ad)))) → W p l e R s m args below meth c H locs cells slots Q (F0 m pc ls (V :: .ref (ad o) :: t.map (zVal ad))) := by
        intro ty V hty hn hft kk0
        rw [hty] at hpd
        by_cases hfl : (zT ci k).2.2.2 = false
        · exact va_put (D := D) (ci := ci) (v := V) (ty := ty) (C := zCn ci) (T := zT ci) (N := zNf ci) CX.1 CX.2.1 hts (z_lay2 hc) (zTy ci) (z_ty hc) (z_nm hc) CX.2.2.2.1 hK Z.2.1 Z.2.2.1 Z.2.2.2.1 (o - 1) hat (z_cl hc) k hk hlink (fun _ h9 => h9) hfl hpd hn hft hln hd kk0
        · have hft2 : (zT ci k).2.2.2 = true := by simpa using hfl
          unfold zfin at hfin
          rw [hft2] at hfin
          simp only [Bool.not_true, Bool.false_or, Bool.and_eq_true, decide_eq_true_eq] at hfin
          exact va_putF (D := D) (ci := ci) (v := V) (ty := ty) (C := zCn ci) (T := zT ci) (N := zNf ci) CX.1 CX.2.1 hts (z_lay2 hc) (zTy ci) (z_ty hc) (z_nm hc) CX.2.2.2.1 hK Z.2.1 Z.2.2.1 Z.2.2.2.1 (o - 1) hat (z_cl hc) k hk hlink (fun _ h9 => h9) hft2 (CX.2.2.2.2.2.1 hfin.1) hfin.2 hpd hn hft hln hd kk0
      have rowI : ∀ (x : Int) (ty : FieldType), zTy ci k = ty → zIsR ty = false → narrow ty (.int (Int32.ofInt x)) = .int (Int32.ofInt x) → fits ty (.int (Int32.ofInt x)) = true → zr x → zNx p l e R s m args below meth c Q X0 D dA A mid C1 S1 ad w.2.2.1 (pc + 3) lls t (zset w (zup w.2.2.2.2.2 o k x)) → W p l e R s m args below meth c H locs cells slots Q (F0 m pc ls (.int (Int32.ofInt x) :: .ref (ad o) :: t.map (zVal ad))) := by
        intro x ty hty hr hn hft hx kk0
        refine row ty _ hty hn hft (fun H1 locs1 hP hD hS => kk0 ad H1 locs1 cells slots ls (fun _ _ => rfl) (zAt_put Z hsc hx ht _ ?_ hb.1 hP hD hS) hv hl)
        rw [zCell_obj (w := zset w (zup w.2.2.2.2.2 o k x)) ho]
        congr 2
        refine (z_map_set ?_ (fun b hbk => ?_)).symm
        · unfold zFv
          rw [hty, hr]
          show Value.int (Int32.ofInt (zup w.2.2.2.2.2 o k x o k)) = _
          unfold zup
          rw [if_pos ⟨rfl, rfl⟩]
        · unfold zFv
          show (if _ then _ else Value.int (Int32.ofInt (zup w.2.2.2.2.2 o k x o b))) = _
          unfold zup
          rw [if_neg (c := o = o ∧ b = k) (fun q => hbk q.2)]
          rfl
      have rowR : ∀ (r : Nat) (ty : FieldType), zTy ci k = ty → zIsR ty = true → narrow ty (.ref (ad r)) = .ref (ad r) → fits ty (.ref (ad r)) = true → zOv w.2.2.1 (.inr r) → zNx p l e R s m args below meth c Q X0 D dA A mid C1 S1 ad w.2.2.1 (pc + 3) lls t (zsetR w (zup w.2.2.2.2.1 o k r)) → W p l e R s m args below meth c H locs cells slots Q (F0 m pc ls (.ref (ad r) :: .ref (ad o) :: t.map (zVal ad))) := by
        intro r ty hty hr hn hft hx kk0
        refine row ty _ hty hn hft (fun H1 locs1 hP hD hS => kk0 ad H1 locs1 cells slots ls (fun _ _ => rfl) (zAt_putR Z hx ht _ ?_ hb.1 hP hD hS) hv hl)
        rw [zCell_obj (w := zsetR w (zup w.2.2.2.2.1 o k r)) ho]
        congr 2
        refine (z_map_set ?_ (fun b hbk => ?_)).symm
        · unfold zFv
          rw [hty, hr]
          show (if zup w.2.2.2.2.1 o k r o k = 0 then Value.null else Value.ref (ad (zup w.2.2.2.2.1 o k r o k))) = _
          unfold zup
          rw [if_pos (c := o = o ∧ k = k) ⟨rfl, rfl⟩]
          have h0 : ¬ r = 0 := by
            rcases hx with h | h
            · omega
            · unfold zSx at h; omega
          rw [if_neg h0]
        · unfold zFv
          show (if _ then (if zup w.2.2.2.2.1 o k r o b = 0 then Value.null else Value.ref (ad (zup w.2.2.2.2.1 o k r o b))) else _) = _
          unfold zup
          rw [if_neg (c := o = o ∧ b = k) (fun q => hbk q.2)]
          rfl
      split at hs
      · rename_i x hty
        cases hs
        exact rowI x .int hty rfl rfl rfl hv1 kk
      · rename_i x hty
        split at hs
        · rename_i h01
          cases hs
          refine rowI x .boolean hty rfl ?_ ?_ hv1 kk
          · rcases h01 with rfl | rfl <;> rfl
          · rcases h01 with rfl | rfl <;> rfl
        · cases hs
      · rename_i r nm hty
        cases hs
        exact rowR r _ hty rfl rfl rfl hv1 kk
      · rename_i r nm hty
        cases hs
        exact rowR r _ hty rfl rfl rfl hv1 kk
      · cases hs
    · cases hs
  · cases hs
end Z7
