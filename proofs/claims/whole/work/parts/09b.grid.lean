section Z9b
variable {p : Program} {l : Launch} {e : Env} {R : Room} {s : State} {m : MethodId} {args : Array Value} {below : List Frame} {meth : Method} {c : Code} {H : Heap} {locs : List Loc} {cells slots C1 S1 : Nat} {Q : State → Prop}
variable {X0 : (Nat × Nat) × (Nat → Int) × (Nat × Nat)} {D : va_G} {dA : Nat → ClassId} {A : Nat → Prop} {mid pc pc2 len : Nat} {lls lls2 : ZL} {st st2 : List AV} {w w2 : ZW} {ad : Nat → Nat} {ls : Array Slot}
def zad2 (ad : Nat → Nat) (n N q : Nat) (r : Nat → Nat) : Nat → Nat := fun a => if a = n + 1 then q else if n + 1 < a ∧ a ≤ n + 1 + N then r (a - (n + 2)) else ad a
theorem zWl_new2 {N K q : Nat} {r : Nat → Nat} {f : Nat → va_E} (Z : zOK w) (hb : w.2.2.1 < 900000) (hN : N ≤ 1000) :
    (zWl dA w ad ++ [(q, .inl (dA 2, N, .inr (.inr (.inr (.inr (fun i => if i < N then some (r i) else none))))))]) ++ va_pl ([] ++ (List.range N).map r) (vr_up f ((List.range N).map r) (.inl (dA 0, K, .inl (fun _ => 0)))) = zWl dA (znew2 w N K) (zad2 ad w.2.2.1 N q r) := by
  obtain ⟨a1, a2, a3, a4, a5, a6, a7⟩ := Z
  have hl : (zWl dA w ad).length = w.2.2.1 := by unfold zWl; rw [List.length_map, List.length_range]
  have hr : ∀ i, (zWl dA (znew2 w N K) (zad2 ad w.2.2.1 N q r))[i]? = if i < w.2.2.1 + 1 + N then some (zad2 ad w.2.2.1 N q r (i + 1), zCell dA (znew2 w N K) (zad2 ad w.2.2.1 N q r) (i + 1)) else none := by
    intro i
    unfold zWl
    show ((List.range (w.2.2.1 + 1 + N)).map _)[i]? = _
    rw [List.getElem?_map]
    split
    · rename_i h
      rw [List.getElem?_range h]; rfl
    · rename_i h
      rw [List.getElem?_eq_none (by rw [List.length_range]; omega)]; rfl
  apply List.ext_getElem?
  intro i
  rw [hr i]
  by_cases h1 : i < w.2.2.1
  · rw [if_pos (by omega), List.getElem?_append_left (by rw [List.length_append, hl]; show i < w.2.2.1 + 1; omega), List.getElem?_append_left (by rw [hl]; exact h1)]
    unfold zWl
    rw [List.getElem?_map, List.getElem?_range h1]
    show some _ = some _
    congr 1
    have n1 : i + 1 ≠ w.2.2.1 + 1 := by omega
    have n2 : ¬ (w.2.2.1 + 1 < i + 1 ∧ i + 1 ≤ w.2.2.1 + 1 + N) := by omega
    have n3 : ¬ (w.2.2.1 < i + 1 ∧ i + 1 ≤ w.2.2.1 + 1 + N) := by omega
    rw [Prod.mk.injEq]
    refine ⟨by unfold zad2; rw [if_neg n1, if_neg n2], (zCell_cong ?_ (fun k => ?_) (fun k => ?_) (fun k => ?_)).symm⟩
    · show (if i + 1 = w.2.2.1 + 1 then _ else if w.2.2.1 + 1 < i + 1 ∧ i + 1 ≤ w.2.2.1 + 1 + N then _ else _) = _
      rw [if_neg n1, if_neg n2]
    · show (if i + 1 = w.2.2.1 + 1 then _ else if w.2.2.1 + 1 < i + 1 ∧ i + 1 ≤ w.2.2.1 + 1 + N then _ else _) = _
      rw [if_neg n1, if_neg n2]
    · show (if w.2.2.1 < i + 1 ∧ i + 1 ≤ w.2.2.1 + 1 + N then _ else _) = _
      rw [if_neg n3]
    · rcases a2 (i + 1) k with h | h
      · exact Or.inl h
      · refine Or.inr ?_
        have hh : w.2.2.2.2.1 (i + 1) k ≤ w.2.2.1 ∨ zSx ≤ w.2.2.2.2.1 (i + 1) k := by
          rcases h with h | h
          · exact Or.inl h.2
          · exact Or.inr h
        unfold zSx at hh
        unfold zad2
        rw [if_neg (by omega), if_neg (by omega)]
  · by_cases h2 : i = w.2.2.1
    · subst h2
      rw [if_pos (by omega), List.getElem?_append_left (by rw [List.length_append, hl]; show w.2.2.1 < w.2.2.1 + 1; omega), List.getElem?_append_right (by rw [hl]; exact Nat.le_refl _), hl, Nat.sub_self]
      show some _ = some _
      congr 1
      rw [Prod.mk.injEq]
      refine ⟨by unfold zad2; rw [if_pos rfl], ?_⟩
      have hsh : (znew2 w N K).2.2.2.1 (w.2.2.1 + 1) = (2, N) := by show (if w.2.2.1 + 1 = w.2.2.1 + 1 then _ else _) = _; rw [if_pos rfl]
      rw [zCell_r (by rw [hsh]), hsh]
      congr 7
      funext k
      have e : (znew2 w N K).2.2.2.2.1 (w.2.2.1 + 1) k = if k < N then w.2.2.1 + 2 + k else 0 := by show (if w.2.2.1 + 1 = w.2.2.1 + 1 then _ else _) = _; rw [if_pos rfl]
      rw [e]
      by_cases hk : k < N
      · rw [if_pos hk, if_pos hk, if_neg (by omega)]
        unfold zad2
        rw [if_neg (by omega), if_pos (by omega), show w.2.2.1 + 2 + k - (w.2.2.1 + 2) = k by omega]
      · rw [if_neg hk, if_neg hk, if_pos rfl]
    · rw [List.getElem?_append_right (by rw [List.length_append, hl]; show w.2.2.1 + 1 ≤ i; omega), List.length_append, hl]
      show (va_pl ([] ++ (List.range N).map r) _)[i - (w.2.2.1 + 1)]? = _
      unfold va_pl
      rw [List.nil_append, List.getElem?_map, List.getElem?_map]
      by_cases h3 : i < w.2.2.1 + 1 + N
      · rw [if_pos h3, List.getElem?_range (by omega)]
        show some (r (i - (w.2.2.1 + 1)), vr_up _ _ _ (r (i - (w.2.2.1 + 1)))) = _
        rw [vr_up_in (List.mem_map.mpr ⟨i - (w.2.2.1 + 1), List.mem_range.mpr (by omega), rfl⟩)]
        congr 1
        rw [Prod.mk.injEq]
        have n1 : i + 1 ≠ w.2.2.1 + 1 := by omega
        have n2 : w.2.2.1 + 1 < i + 1 ∧ i + 1 ≤ w.2.2.1 + 1 + N := by omega
        refine ⟨by unfold zad2; rw [if_neg n1, if_pos n2, show i + 1 - (w.2.2.1 + 2) = i - (w.2.2.1 + 1) by omega], ?_⟩
        have hsh : (znew2 w N K).2.2.2.1 (i + 1) = (0, K) := by
          show (if i + 1 = w.2.2.1 + 1 then _ else if w.2.2.1 + 1 < i + 1 ∧ i + 1 ≤ w.2.2.1 + 1 + N then _ else _) = _
          rw [if_neg n1, if_pos n2]
        rw [zCell_i (by rw [hsh]), hsh]
        congr 4
        funext k
        show _ = Int32.ofInt (if w.2.2.1 < i + 1 ∧ i + 1 ≤ w.2.2.1 + 1 + N then 0 else _)
        rw [if_pos (by omega)]
        rfl
      · rw [if_neg h3, List.getElem?_eq_none (by rw [List.length_range]; omega)]
        rfl
theorem zc_mna {i d : Nat} (CX : zCx p s m args meth c mid) (hK : va_K D vwCl (zTys dA) s) (hG : zG (ad zSx) s) (hA : ∀ q, s.heap.size ≤ q → A q) (hC1 : C1 ≤ R.cells) (hS1 : S1 ≤ R.slots) (hd : decode (zB mid) pc = .ok (.multianewarray i d, 4)) (hs : zmna (zO mid) i d pc lls st w = some (pc2, lls2, st2, w2)) (Z : zAt X0 D dA A s ad lls st w H locs cells slots C1 S1) (hv : lv_has ls (zL mid) (zLv ad lls)) (hl : lls.length = zL mid)
    (kk : zNx p l e R s m args below meth c Q X0 D dA A mid C1 S1 ad w.2.2.1 pc2 lls2 st2 w2) : W p l e R s m args below meth c H locs cells slots Q (F0 m pc ls (st.map (zVal ad))) := by
  unfold zmna at hs
  split at hs
  · rename_i k n s0
    split at hs
    · rename_i hb
      obtain ⟨ho, hi, hdm, hn0, hk0, hn1, hk1, hb1, hb2, hb3⟩ := hb
      cases hs
      subst hi
      subst hdm
      have hts := CX.2.2.2.2.1
      have hc1 := Z.2.2.2.2.2.1
      have hs1 := Z.2.2.2.2.2.2.1
      have hZ := Z.2.2.2.2.2.2.2.1
      have hk : zr k := zst_h hZ
      have hn : zr n := zst_h (zst_t hZ)
      have ht := zst_t (zst_t hZ)
      have hK2 : (n.toNat : Nat) ≤ 1000 := by omega
      have hK3 : (k.toNat : Nat) ≤ 1000 := by omega
      have hcx := CX.2.2.2.1
      rw [ho] at hcx
      have hcy : s.vm.findClass (FieldType.array .int).toString = some (dA 0) := (hK.2 0 (dA 0, .int) rfl).2
      have hP0 : va_P D vwCl (zWl dA w ad ++ va_pl [] (fun _ => .inl (0, 0, .inl (fun _ => 0)))) H := by
        show va_P D vwCl (zWl dA w ad ++ []) H
        rw [List.append_nil]; exact Z.2.1
      have hD0 : va_D A (zWl dA w ad ++ va_pl [] (fun _ => .inl (0, 0, .inl (fun _ => 0)))) := by
        show va_D A (zWl dA w ad ++ [])
        rw [List.append_nil]; exact Z.2.2.1
      refine va_mna (D := D) (ty := .int) (cy := dA 0) (z := (k.toNat, .inl (fun _ => 0))) (N' := n.toNat) (K' := k.toNat) CX.1 CX.2.1 hcx (hts _ (z_in z_jgr rfl)) hG.2.1 (hts _ (z_in (List.mem_of_getElem? (i := 157) (by decide +kernel)) rfl)) hcy hK hP0 hD0 Z.2.2.2.1 hA (z_nn hn hn0) (z_nn hk hk0) (z_clamp hn) (z_clamp hk) (by omega) (by show k.toNat * 4 ≤ _; omega) (by omega) rfl rfl (by omega) (by omega) (fun cc => arrV_new cc k.toNat (.int 0)) hd (fun q r cA H1 hinj _ hK9 hP hD hS => ?_)
      have hcA : cA = dA 2 := by
        have h1 := (hK.2 2 (dA 2, .array .int) rfl).2
        have h2 := (hK9.2 4 (cA, .array .int) rfl).2
        exact Option.some.inj (h2.symm.trans h1)
      subst hcA
      rw [zWl_new2 Z.1 hb3 hK2] at hP hD
      have hadr : ∀ x, x ≤ w.2.2.1 ∨ zSx ≤ x → zad2 ad w.2.2.1 n.toNat q r x = ad x := fun x h => by
        unfold zSx at h
        unfold zad2
        rw [if_neg (by omega), if_neg (by omega)]
      have hst : (List.map (zVal (zad2 ad w.2.2.1 n.toNat q r)) (.inr (w.2.2.1 + 1) :: s0)) = .ref q :: s0.map (zVal ad) := by
        rw [List.map_cons, zSt_ad ht hadr]
        congr 1
        show Value.ref (zad2 ad w.2.2.1 n.toNat q r (w.2.2.1 + 1)) = _
        unfold zad2
        rw [if_pos rfl]
      obtain ⟨⟨a1, a2, a3, a4, a5, a6, a7⟩, -, -, -, ⟨x1, x2, x3, x4⟩, -, -, -, l1⟩ := Z
      have hle : w.2.2.1 ≤ (znew2 w n.toNat k.toNat).2.2.1 := by show w.2.2.1 ≤ w.2.2.1 + 1 + n.toNat; omega
      have hsh : ∀ a, (a ≤ w.2.2.1 ∨ w.2.2.1 + 1 + n.toNat < a) → (znew2 w n.toNat k.toNat).2.2.2.1 a = w.2.2.2.1 a := fun a h => by
        show (if a = w.2.2.1 + 1 then _ else if w.2.2.1 + 1 < a ∧ a ≤ w.2.2.1 + 1 + n.toNat then _ else _) = _
        rw [if_neg (by omega), if_neg (by omega)]
      have hnew : ∀ a, ¬ (a ≤ w.2.2.1 ∨ w.2.2.1 + 1 + n.toNat < a) → ((znew2 w n.toNat k.toNat).2.2.2.1 a).1 ≠ 3 ∧ ((znew2 w n.toNat k.toNat).2.2.2.1 a).2 < 2 ^ 31 := fun a h => by
        show (if a = w.2.2.1 + 1 then (2, n.toNat) else if w.2.2.1 + 1 < a ∧ a ≤ w.2.2.1 + 1 + n.toNat then (0, k.toNat) else _).1 ≠ 3 ∧ (if a = w.2.2.1 + 1 then (2, n.toNat) else if w.2.2.1 + 1 < a ∧ a ≤ w.2.2.1 + 1 + n.toNat then (0, k.toNat) else _).2 < 2 ^ 31
        by_cases h9 : a = w.2.2.1 + 1
        · rw [if_pos h9]; exact ⟨by omega, by show n.toNat < _; omega⟩
        · rw [if_neg h9, if_pos (by omega)]; exact ⟨by omega, by show k.toNat < _; omega⟩
      have hsx : zSx = 1000000 := rfl
      have hscv : zSc = 1000001 := rfl
      have h := kk (zad2 ad w.2.2.1 n.toNat q r) H1 locs (cells + 1 + n.toNat) (slots + n.toNat + n.toNat * k.toNat) ls hadr ⟨⟨fun a b => ?_, fun a b => ?_, fun a ha => ?_, fun a ha => ?_, fun a => ?_, ?_, fun a ha => ?_⟩, hP, hD, hS, ⟨(hsh zSc (by omega)).trans x1, fun b => ?_, (hsh zSx (by omega)).trans x3, by unfold zXf; rw [hadr zSc (Or.inr (by omega)), hadr zSx (Or.inr (by omega))]; exact x4⟩, ?_, ?_, zst_c (Or.inl ⟨by omega, by show w.2.2.1 + 1 ≤ w.2.2.1 + 1 + n.toNat; omega⟩) (fun v hv => zOv_mono (ht v hv) hle), fun v hv => zOv_mono (l1 v hv) hle⟩ (by rw [zLv_ad l1 hadr]; exact hv) hl
      · rw [hst] at h
        exact h
      · show zr (if _ then 0 else _)
        split
        · exact zr_0
        · exact a1 a b
      · show (if a = w.2.2.1 + 1 then (if b < n.toNat then w.2.2.1 + 2 + b else 0) else if w.2.2.1 + 1 < a ∧ a ≤ w.2.2.1 + 1 + n.toNat then 0 else w.2.2.2.2.1 a b) = 0 ∨ zOv (w.2.2.1 + 1 + n.toNat) (.inr (if a = w.2.2.1 + 1 then (if b < n.toNat then w.2.2.1 + 2 + b else 0) else if w.2.2.1 + 1 < a ∧ a ≤ w.2.2.1 + 1 + n.toNat then 0 else w.2.2.2.2.1 a b))
        split
        · split
          · exact Or.inr (Or.inl ⟨by omega, by omega⟩)
          · exact Or.inl rfl
        · split
          · exact Or.inl rfl
          · rcases a2 a b with h | h
            · exact Or.inl h
            · exact Or.inr (zOv_mono h hle)
      · by_cases h9 : a ≤ w.2.2.1 ∨ w.2.2.1 + 1 + n.toNat < a
        · rw [hsh a h9] at ha
          rcases a3 a ha with h1 | h1
          · exact Or.inl ⟨h1.1, by omega⟩
          · exact Or.inr h1
        · exact Or.inl ⟨by omega, by show a ≤ w.2.2.1 + 1 + n.toNat; omega⟩
      · rw [hsh a (by omega)]
        exact a4 a ha
      · by_cases h9 : a ≤ w.2.2.1 ∨ w.2.2.1 + 1 + n.toNat < a
        · rw [hsh a h9]; exact a5 a
        · exact (hnew a h9).2
      · show w.2.2.1 + 1 + n.toNat < zSx
        omega
      · by_cases h9 : a ≤ w.2.2.1 ∨ w.2.2.1 + 1 + n.toNat < a
        · rw [hsh a h9] at ha; exact a7 a ha
        · exact absurd ha (hnew a h9).1
      · show (if w.2.2.1 < zSc ∧ zSc ≤ w.2.2.1 + 1 + n.toNat then 0 else _) = _
        rw [if_neg (by omega)]
        exact x2 b
      · show cells + 1 + n.toNat + (w.1 - (1 + n.toNat)) = C1
        omega
      · show slots + n.toNat + n.toNat * k.toNat + (w.2.1 - (n.toNat + n.toNat * k.toNat)) = S1
        omega
    · cases hs
  · cases hs
end Z9b
