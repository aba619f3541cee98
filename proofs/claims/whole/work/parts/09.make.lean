-- EACH ROW OF THE INTERPRETER IS THE MACHINE'S: what makes cells
theorem zCell_cong {dA : Nat → ClassId} {w w2 : ZW} {ad ad2 : Nat → Nat} {o : Nat} (h1 : w2.2.2.2.1 o = w.2.2.2.1 o) (h2 : ∀ k, w2.2.2.2.2.1 o k = w.2.2.2.2.1 o k) (h3 : ∀ k, w2.2.2.2.2.2 o k = w.2.2.2.2.2 o k) (h4 : ∀ k, w.2.2.2.2.1 o k = 0 ∨ ad2 (w.2.2.2.2.1 o k) = ad (w.2.2.2.2.1 o k)) : zCell dA w2 ad2 o = zCell dA w ad o := by
  have hA : ∀ k, (if w.2.2.2.2.1 o k = 0 then (none : Option Nat) else some (ad2 (w.2.2.2.2.1 o k))) = (if w.2.2.2.2.1 o k = 0 then (none : Option Nat) else some (ad (w.2.2.2.2.1 o k))) := by
    intro k
    rcases h4 k with h | h
    · rw [if_pos h, if_pos h]
    · rw [h]
  have hB : ∀ k, (if w.2.2.2.2.1 o k = 0 then Value.null else Value.ref (ad2 (w.2.2.2.2.1 o k))) = (if w.2.2.2.2.1 o k = 0 then Value.null else Value.ref (ad (w.2.2.2.2.1 o k))) := by
    intro k
    rcases h4 k with h | h
    · rw [if_pos h, if_pos h]
    · rw [h]
  unfold zCell zFv
  simp only [h1, h2, h3, hA, hB]
def zTyOk : FieldType → Bool
  | .int => true
  | .boolean => true
  | .object _ => true
  | .array _ => true
  | _ => false
theorem z_tyok0 : (List.range 13).all (fun c => (List.range (zNf c)).all (fun k => zTyOk (zTy c k))) = true := by decide +kernel
theorem z_tyok {c k : Nat} (hc : c < 13) (hk : k < zNf c) : zTyOk (zTy c k) = true := List.all_eq_true.mp (List.all_eq_true.mp z_tyok0 c (List.mem_range.mpr hc)) k (List.mem_range.mpr hk)
theorem z_dflt {c k : Nat} (hc : c < 13) (hk : k < zNf c) : defaultValue (zTy c k) = if zIsR (zTy c k) then .null else .int 0 := by
  have h := z_tyok hc hk
  revert h
  cases zTy c k <;> first | (intro _; rfl) | (intro h; cases h)
theorem z_ini0 : (List.range 13).all (fun c => decide (Cond.initialized (zCn c) ∈ lw_tbl)) = true := by decide +kernel
theorem z_ini {c : Nat} (hc : c < 13) : Cond.initialized (zCn c) ∈ lw_tbl := by
  have h := List.all_eq_true.mp z_ini0 c (List.mem_range.mpr hc)
  simpa using h
theorem zN_mem {o i ci : Nat} (h : zN o i = some ci) : (o, i, ci) ∈ zNl1 := by
  unfold zN at h
  cases hf : zNl1.find? (fun q => q.1 == o && q.2.1 == i) with
  | none => rw [hf] at h; cases h
  | some q =>
    rw [hf] at h
    have h1 := List.mem_of_find?_eq_some hf
    have h2 := List.find?_some hf
    simp only [Bool.and_eq_true, beq_iff_eq] at h2
    obtain ⟨a, b, x⟩ := q
    cases h
    obtain ⟨rfl, rfl⟩ := h2
    exact h1
theorem zNl_lt : zNl1.all (fun q => decide (q.2.2 < 13)) = true := by decide +kernel
def zad (ad : Nat → Nat) (n q : Nat) : Nat → Nat := fun r => if r = n + 1 then q else ad r
section Z9
variable {p : Program} {l : Launch} {e : Env} {R : Room} {s : State} {m : MethodId} {args : Array Value} {below : List Frame} {meth : Method} {c : Code} {H : Heap} {locs : List Loc} {cells slots C1 S1 : Nat} {Q : State → Prop}
variable {X0 : (Nat × Nat) × (Nat → Int) × (Nat × Nat)} {D : va_G} {dA : Nat → ClassId} {A : Nat → Prop} {mid pc pc2 len : Nat} {lls lls2 : ZL} {st st2 : List AV} {w w2 : ZW} {ad : Nat → Nat} {ls : Array Slot}
/-- one cell more -/
theorem zAt_new1 {H1 : Heap} {locs1 : List Loc} {q kind ln : Nat} {cells2 slots2 : Nat} {t : List AV} {ec : va_E} (Z : zAt X0 D dA A s ad lls st w H locs cells slots C1 S1) (hk9 : kind ≠ 9) (hk3 : kind ≠ 3) (hln : ln < 2 ^ 31) (hb : 1 ≤ w.1 ∧ ln ≤ w.2.1 ∧ w.2.2.1 < 900000)
    (he : zCell dA (znew1 w kind ln) (zad ad w.2.2.1 q) (w.2.2.1 + 1) = ec) (hP : va_P D vwCl (zWl dA w ad ++ [(q, ec)]) H1) (hD : va_D A (zWl dA w ad ++ [(q, ec)])) (hS : va_S A s.heap H1 locs1) (hc2 : cells2 = cells + 1) (hs2 : slots2 = slots + ln) (ht : ∀ v ∈ t, zOv w.2.2.1 v) :
    zAt X0 D dA A s (zad ad w.2.2.1 q) lls (.inr (w.2.2.1 + 1) :: t) (znew1 w kind ln) H1 locs1 cells2 slots2 C1 S1 := by
  obtain ⟨⟨a1, a2, a3, a4, a5, a6, a7⟩, -, -, -, ⟨x1, x2, x3, x4⟩, c1, s1, -, l1⟩ := Z
  have hw : zWl dA w ad ++ [(q, ec)] = zWl dA (znew1 w kind ln) (zad ad w.2.2.1 q) := by
    unfold zWl
    show _ = (List.range (w.2.2.1 + 1)).map _
    rw [List.range_succ, List.map_append]
    congr 1
    · apply List.map_congr_left
      intro i hi
      have hi := List.mem_range.mp hi
      have hne : i + 1 ≠ w.2.2.1 + 1 := by omega
      rw [Prod.mk.injEq]
      refine ⟨by unfold zad; rw [if_neg hne], (zCell_cong ?_ (fun k => ?_) (fun k => ?_) (fun k => ?_)).symm⟩
      · show (if i + 1 = w.2.2.1 + 1 then _ else _) = _
        rw [if_neg hne]
      · show (if i + 1 = w.2.2.1 + 1 then _ else _) = _
        rw [if_neg hne]
      · show (if i + 1 = w.2.2.1 + 1 then _ else _) = _
        rw [if_neg hne]
      · rcases a2 (i + 1) k with h | h
        · exact Or.inl h
        · refine Or.inr ?_
          unfold zad
          rw [if_neg]
          rcases h with h | h
          · omega
          · unfold zSx at h; omega
    · show [(q, ec)] = [(zad ad w.2.2.1 q (w.2.2.1 + 1), _)]
      rw [he]
      unfold zad
      rw [if_pos rfl]
  rw [hw] at hP hD
  have hsc : zSc ≠ w.2.2.1 + 1 := by unfold zSc; omega
  have hsx : zSx ≠ w.2.2.1 + 1 := by unfold zSx; omega
  have hadc : zad ad w.2.2.1 q zSc = ad zSc := by unfold zad; rw [if_neg hsc]
  have hadx : zad ad w.2.2.1 q zSx = ad zSx := by unfold zad; rw [if_neg hsx]
  have hshc : (znew1 w kind ln).2.2.2.1 zSc = w.2.2.2.1 zSc := by show (if zSc = w.2.2.1 + 1 then _ else _) = _; rw [if_neg hsc]
  have hshx : (znew1 w kind ln).2.2.2.1 zSx = w.2.2.2.1 zSx := by show (if zSx = w.2.2.1 + 1 then _ else _) = _; rw [if_neg hsx]
  refine ⟨⟨fun a b => ?_, fun a b => ?_, fun a ha => ?_, fun a ha => ?_, fun a => ?_, ?_, fun a ha => ?_⟩, hP, hD, hS, ⟨hshc.trans x1, fun k => ?_, hshx.trans x3, by unfold zXf; rw [hadc, hadx]; exact x4⟩, ?_, ?_, zst_c (Or.inl ⟨by omega, Nat.le_refl _⟩) (fun v hv => zOv_mono (ht v hv) (Nat.le_succ _)), fun v hv => zOv_mono (l1 v hv) (Nat.le_succ _)⟩
  · show zr (if a = w.2.2.1 + 1 then 0 else _)
    split
    · exact zr_0
    · exact a1 a b
  · show (if a = w.2.2.1 + 1 then 0 else _) = 0 ∨ zOv (w.2.2.1 + 1) (.inr (if a = w.2.2.1 + 1 then 0 else _))
    split
    · exact Or.inl rfl
    · rcases a2 a b with h | h
      · exact Or.inl h
      · exact Or.inr (zOv_mono h (Nat.le_succ _))
  · by_cases h : a = w.2.2.1 + 1
    · exact Or.inl ⟨by omega, by show a ≤ w.2.2.1 + 1; omega⟩
    · have e : (znew1 w kind ln).2.2.2.1 a = w.2.2.2.1 a := by show (if a = w.2.2.1 + 1 then _ else _) = _; rw [if_neg h]
      rw [e] at ha
      rcases a3 a ha with h1 | h1
      · exact Or.inl ⟨h1.1, by show a ≤ w.2.2.1 + 1; omega⟩
      · exact Or.inr h1
  · have h : a ≠ w.2.2.1 + 1 := by unfold zSx at ha; omega
    have e : (znew1 w kind ln).2.2.2.1 a = w.2.2.2.1 a := by show (if a = w.2.2.1 + 1 then _ else _) = _; rw [if_neg h]
    rw [e]
    exact a4 a ha
  · show (if a = w.2.2.1 + 1 then (kind, ln) else _).2 < 2 ^ 31
    split
    · exact hln
    · exact a5 a
  · show w.2.2.1 + 1 < zSx
    unfold zSx; omega
  · by_cases h : a = w.2.2.1 + 1
    · exfalso
      have e : (znew1 w kind ln).2.2.2.1 a = (kind, ln) := by show (if a = w.2.2.1 + 1 then _ else _) = _; rw [if_pos h]
      rw [e] at ha
      exact hk3 ha
    · have e : (znew1 w kind ln).2.2.2.1 a = w.2.2.2.1 a := by show (if a = w.2.2.1 + 1 then _ else _) = _; rw [if_neg h]
      rw [e] at ha
      exact a7 a ha
  · show (if zSc = w.2.2.1 + 1 then 0 else _) = _
    rw [if_neg hsc]
    exact x2 k
  · show cells2 + (w.1 - 1) = C1
    omega
  · show slots2 + (w.2.1 - ln) = S1
    omega
theorem zN3 {H1 : Heap} {locs1 : List Loc} {q cells2 slots2 : Nat} {t : List AV} (Z : zAt X0 D dA A s ad lls st w H locs cells slots C1 S1) (Z2 : zAt X0 D dA A s (zad ad w.2.2.1 q) lls (.inr (w.2.2.1 + 1) :: t) w2 H1 locs1 cells2 slots2 C1 S1) (hn9 : w.2.2.1 + 1 < zSx) (ht : ∀ v ∈ t, zOv w.2.2.1 v) (hv : lv_has ls (zL mid) (zLv ad lls)) (hl : lls.length = zL mid)
    (kk : zNx p l e R s m args below meth c Q X0 D dA A mid C1 S1 ad w.2.2.1 pc2 lls (.inr (w.2.2.1 + 1) :: t) w2) : W p l e R s m args below meth c H1 locs1 cells2 slots2 Q (F0 m pc2 ls (.ref q :: t.map (zVal ad))) := by
  have hadr : ∀ r, r ≤ w.2.2.1 ∨ zSx ≤ r → zad ad w.2.2.1 q r = ad r := fun r h => by
    unfold zad
    rw [if_neg]
    rcases h with h | h
    · exact Nat.ne_of_lt (Nat.lt_succ_of_le h)
    · exact Nat.ne_of_gt (Nat.lt_of_lt_of_le hn9 h)
  have h := kk _ H1 locs1 cells2 slots2 ls hadr Z2 (by rw [zLv_ad Z.2.2.2.2.2.2.2.2 hadr]; exact hv) hl
  have e : (List.map (zVal (zad ad w.2.2.1 q)) (.inr (w.2.2.1 + 1) :: t)) = .ref q :: t.map (zVal ad) := by
    rw [List.map_cons, zSt_ad ht hadr]
    congr 1
    show Value.ref (zad ad w.2.2.1 q (w.2.2.1 + 1)) = _
    unfold zad
    rw [if_pos rfl]
  rw [e] at h
  exact h
theorem zc_new {i : Nat} (CX : zCx p s m args meth c mid) (hK : va_K D vwCl (zTys dA) s) (hA : ∀ q, s.heap.size ≤ q → A q) (hC1 : C1 ≤ R.cells) (hS1 : S1 ≤ R.slots) (hd : decode (zB mid) pc = .ok (.new i, 3)) (hs : znew (zO mid) i pc lls st w = some (pc2, lls2, st2, w2)) (Z : zAt X0 D dA A s ad lls st w H locs cells slots C1 S1) (hv : lv_has ls (zL mid) (zLv ad lls)) (hl : lls.length = zL mid)
    (kk : zNx p l e R s m args below meth c Q X0 D dA A mid C1 S1 ad w.2.2.1 pc2 lls2 st2 w2) : W p l e R s m args below meth c H locs cells slots Q (F0 m pc ls (st.map (zVal ad))) := by
  unfold znew at hs
  split at hs
  · rename_i ci hn
    split at hs
    · rename_i hb
      cases hs
      have hts := CX.2.2.2.2.1
      have hm := zN_mem hn
      have hc : ci < 13 := by
        have h1 := List.all_eq_true.mp zNl_lt _ hm
        simpa using h1
      have hcl : (zNw (zO mid, i, ci)).before args s = true := hts _ (z_in (zNl_ok _ hm) rfl)
      have hin : (zIsw ci).before args s = true := hts _ (z_in (z_inst ci (List.mem_range.mpr hc)) rfl)
      have hini : (Cond.initialized (zCn ci)).before args s = true := hts _ (z_in (z_ini hc) rfl)
      have hc1 := Z.2.2.2.2.2.1
      have hs1 := Z.2.2.2.2.2.2.1
      have hZ := Z.2.2.2.2.2.2.2.1
      refine va_new (D := D) (ci := ci) (fs := (List.range (zNf ci)).map (fun k => if zIsR (zTy ci k) then .null else .int 0)) (C := zCn ci) (T := zT ci) (N := zNf ci) CX.1 CX.2.1 hts (z_lay2 hc) (zTy ci) (z_ty hc) CX.2.2.2.1 hcl hin hini hK Z.2.1 Z.2.2.1 Z.2.2.2.1 hA (z_cl hc) (fun j hj => ?_) (by omega) (by omega) hd (fun q H1 hP hD hS => ?_)
      · rw [z_dflt hc hj]
        unfold vp_V
        rw [List.getD_eq_getElem?_getD, List.getElem?_map, List.getElem?_range hj]
        rfl
      · have hln : zNf ci < 2 ^ 31 := by
          have h1 : (List.range 13).all (fun c => decide (zNf c < 2 ^ 31)) = true := by decide +kernel
          have h2 := List.all_eq_true.mp h1 ci (List.mem_range.mpr hc)
          simpa using h2
        refine zN3 Z (zAt_new1 Z (by omega) (by omega) hln hb ?_ hP hD hS rfl rfl hZ) (by unfold zSx; omega) hZ hv hl kk
        have hsh : (znew1 w (10 + ci) (zNf ci)).2.2.2.1 (w.2.2.1 + 1) = (10 + ci, zNf ci) := by show (if w.2.2.1 + 1 = w.2.2.1 + 1 then _ else _) = _; rw [if_pos rfl]
        rw [zCell_obj hsh]
        congr 2
        apply List.map_congr_left
        intro k _
        have eR : (znew1 w (10 + ci) (zNf ci)).2.2.2.2.1 (w.2.2.1 + 1) k = 0 := by show (if w.2.2.1 + 1 = w.2.2.1 + 1 then 0 else _) = 0; rw [if_pos rfl]
        have eI : (znew1 w (10 + ci) (zNf ci)).2.2.2.2.2 (w.2.2.1 + 1) k = 0 := by show (if w.2.2.1 + 1 = w.2.2.1 + 1 then 0 else _) = 0; rw [if_pos rfl]
        unfold zFv
        rw [eR, eI]
        rfl
    · cases hs
  · cases hs
theorem zK_ty {k : Nat} {cA : ClassId} {ty : FieldType} (hK : va_K D vwCl (zTys dA) s) (hK2 : va_K D vwCl (zTys dA ++ [(cA, ty)]) s) (hk : (zTys dA)[k]? = some (dA k, ty)) (hne : ∀ n, ty ≠ .object n) : cA = dA k := by
  have h1 := (hK.2 k _ hk).2
  have h2 := (hK2.2 4 (cA, ty) rfl).2
  unfold va_RA at h1 h2
  revert h1 h2
  cases ty with
  | object n => exact absurd rfl (hne n)
  | _ => intro h1 h2; exact Option.some.inj (h2.symm.trans h1)
theorem zc_newa {t : ArrayType} (CX : zCx p s m args meth c mid) (hK : va_K D vwCl (zTys dA) s) (hA : ∀ q, s.heap.size ≤ q → A q) (hC1 : C1 ≤ R.cells) (hS1 : S1 ≤ R.slots) (hd : decode (zB mid) pc = .ok (.newarray t, 2)) (hs : znewa t pc lls st w = some (pc2, lls2, st2, w2)) (Z : zAt X0 D dA A s ad lls st w H locs cells slots C1 S1) (hv : lv_has ls (zL mid) (zLv ad lls)) (hl : lls.length = zL mid)
    (kk : zNx p l e R s m args below meth c Q X0 D dA A mid C1 S1 ad w.2.2.1 pc2 lls2 st2 w2) : W p l e R s m args below meth c H locs cells slots Q (F0 m pc ls (st.map (zVal ad))) := by
  unfold znewa at hs
  split at hs
  · rename_i n s0
    split at hs
    · rename_i hb
      obtain ⟨h0, h1, hb⟩ := hb
      have hts := CX.2.2.2.2.1
      have hc1 := Z.2.2.2.2.2.1
      have hs1 := Z.2.2.2.2.2.2.1
      have hZ := Z.2.2.2.2.2.2.2.1
      have hn : zr n := zst_h hZ
      have ht := zst_t hZ
      have hN : (Int32.ofInt n).toNatClampNeg = n.toNat := z_clamp hn
      have hn0 := z_nn hn h0
      have hln : n.toNat < 2 ^ 31 := by omega
      split at hs
      · cases hs
        have harr : (Cond.arrayClass .int).before args s = true := hts _ (z_in (List.mem_of_getElem? (i := 157) (by decide +kernel)) rfl)
        refine va_newa (atype := .int) (D := D) (ty := .int) (a0 := (n.toNat, .inl (fun _ => 0))) CX.1 CX.2.1 harr rfl hK Z.2.1 Z.2.2.1 Z.2.2.2.1 hA (fun _ => rfl) hn0 hN (by show n.toNat * 4 ≤ _; omega) (by omega) (by omega) hd (fun q cA H1 hK2 hP hD hS => ?_)
        have hcA : cA = dA 0 := zK_ty (k := 0) hK hK2 rfl (fun _ h => by cases h)
        subst hcA
        refine zN3 Z (zAt_new1 Z (by omega) (by omega) hln hb ?_ hP hD hS rfl rfl ht) (by unfold zSx; omega) ht hv hl kk
        have hsh : ((znew1 w 0 n.toNat).2.2.2.1 (w.2.2.1 + 1)) = (0, n.toNat) := by show (if w.2.2.1 + 1 = w.2.2.1 + 1 then _ else _) = _; rw [if_pos rfl]
        rw [zCell_i (by rw [hsh]), hsh]
        congr 4
        funext k
        show Int32.ofInt (if w.2.2.1 + 1 = w.2.2.1 + 1 then 0 else _) = _
        rw [if_pos rfl]
        rfl
      · cases hs
        have harr : (Cond.arrayClass .byte).before args s = true := hts _ (z_in (List.mem_of_getElem? (i := 354) (by decide +kernel)) rfl)
        refine va_newa (atype := .byte) (D := D) (ty := .byte) (a0 := (n.toNat, .inl (fun _ => 0))) CX.1 CX.2.1 harr rfl hK Z.2.1 Z.2.2.1 Z.2.2.2.1 hA (fun _ => rfl) hn0 hN (by show n.toNat * 1 ≤ _; omega) (by omega) (by omega) hd (fun q cA H1 hK2 hP hD hS => ?_)
        have hcA : cA = dA 1 := zK_ty (k := 1) hK hK2 rfl (fun _ h => by cases h)
        subst hcA
        refine zN3 Z (zAt_new1 Z (by omega) (by omega) hln hb ?_ hP hD hS rfl rfl ht) (by unfold zSx; omega) ht hv hl kk
        have hsh : ((znew1 w 1 n.toNat).2.2.2.1 (w.2.2.1 + 1)) = (1, n.toNat) := by show (if w.2.2.1 + 1 = w.2.2.1 + 1 then _ else _) = _; rw [if_pos rfl]
        rw [zCell_b (by rw [hsh]), hsh]
        congr 4
        funext k
        show Int32.ofInt (if w.2.2.1 + 1 = w.2.2.1 + 1 then 0 else _) = _
        rw [if_pos rfl]
        rfl
      · cases hs
        have harr : (Cond.arrayClass .long).before args s = true := hts _ (z_in (List.mem_of_getElem? (i := 491) (by decide +kernel)) rfl)
        refine va_newa (atype := .long) (D := D) (ty := .long) (a0 := (n.toNat, .inr (.inl (fun _ => 0)))) CX.1 CX.2.1 harr rfl hK Z.2.1 Z.2.2.1 Z.2.2.2.1 hA (fun _ => rfl) hn0 hN (by show n.toNat * 8 ≤ _; omega) (by omega) (by omega) hd (fun q cA H1 hK2 hP hD hS => ?_)
        have hcA : cA = dA 3 := zK_ty (k := 3) hK hK2 rfl (fun _ h => by cases h)
        subst hcA
        refine zN3 Z (zAt_new1 Z (by omega) (by omega) hln hb ?_ hP hD hS rfl rfl ht) (by unfold zSx; omega) ht hv hl kk
        have hsh : ((znew1 w 5 n.toNat).2.2.2.1 (w.2.2.1 + 1)) = (5, n.toNat) := by show (if w.2.2.1 + 1 = w.2.2.1 + 1 then _ else _) = _; rw [if_pos rfl]
        rw [zCell_l (by rw [hsh]), hsh]
        have e9 : (fun k => zLg (fun j => (znew1 w 5 n.toNat).2.2.2.2.2 (w.2.2.1 + 1) (16 * k + j))) = fun _ => 0 := by
          funext k
          refine zLg_0 (fun j _ => ?_)
          show (if w.2.2.1 + 1 = w.2.2.1 + 1 then (0 : Int) else _) = 0
          rw [if_pos rfl]
        rw [e9]
      · cases hs
    · cases hs
  · cases hs
end Z9
