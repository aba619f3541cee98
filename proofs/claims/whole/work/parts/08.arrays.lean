-- EACH ROW OF THE INTERPRETER IS THE MACHINE'S: arrays
section Z8
variable {p : Program} {l : Launch} {e : Env} {R : Room} {s : State} {m : MethodId} {args : Array Value} {below : List Frame} {meth : Method} {c : Code} {H : Heap} {locs : List Loc} {cells slots C1 S1 : Nat} {Q : State → Prop}
variable {X0 : (Nat × Nat) × (Nat → Int) × (Nat × Nat)} {D : va_G} {dA : Nat → ClassId} {A : Nat → Prop} {mid pc pc2 len : Nat} {lls lls2 : ZL} {st st2 : List AV} {w w2 : ZW} {ad : Nat → Nat} {ls : Array Slot}
theorem zsc_sh (Z : zAt X0 D dA A s ad lls st w H locs cells slots C1 S1) {r : Nat} (h3 : (w.2.2.2.1 r).1 = 3) : r = zSc ∧ w.2.2.2.1 zSc = (3, (w.2.2.2.1 r).2) := by
  have h := Z.1.2.2.2.2.2.2 r h3
  subst h
  exact ⟨rfl, by rw [← h3]⟩
theorem zc_iald (CX : zCx p s m args meth c mid) (hK : va_K D vwCl (zTys dA) s) (hd : decode (zB mid) pc = .ok (.iaload, 1)) (hs : zald 0 pc lls st w = some (pc2, lls2, st2, w2)) (Z : zAt X0 D dA A s ad lls st w H locs cells slots C1 S1) (hv : lv_has ls (zL mid) (zLv ad lls)) (hl : lls.length = zL mid)
    (kk : zNx p l e R s m args below meth c Q X0 D dA A mid C1 S1 ad w.2.2.1 pc2 lls2 st2 w2) : W p l e R s m args below meth c H locs cells slots Q (F0 m pc ls (st.map (zVal ad))) := by
  unfold zald at hs
  split at hs
  · rename_i j r t
    split at hs
    · rename_i hc
      obtain ⟨hkd, h0, h1⟩ := hc
      cases hs
      have hZ := Z.2.2.2.2.2.2.2.1
      have hj : zr j := zst_h hZ
      have ht := zst_t (zst_t hZ)
      have hcl := z_clamp hj
      rcases hkd with hk0 | ⟨hk3, -⟩
      · have hb := zOK_at Z.1 (o := r) (by omega) (by omega) (by omega)
        have hat := zWl_at (dA := dA) (ad := ad) hb.1 hb.2
        rw [zCell_i hk0] at hat
        refine va_iald (D := D) CX.1 CX.2.1 hK Z.2.1 (r - 1) 0 hat rfl (z_vin hj h0 h1) hd ?_
        rw [hcl]
        exact zN1 Z hv hl (zst_c (v := .inl (w.2.2.2.2.2 r j.toNat)) (Z.1.1 r _) ht) kk
      · obtain ⟨rfl, hsh⟩ := zsc_sh Z hk3
        obtain ⟨hX, hbl, hbA⟩ := Z.2.2.2.2.1.2.2.2.1 _ (Z.2.2.2.2.1.1.symm.trans hsh)
        refine va_sld CX.1 CX.2.1 hX hbl hbA Z.2.2.2.1 (z_vin hj h0 h1) hd ?_
        rw [hcl, ← Z.2.2.2.2.1.2.1]
        exact zN1 Z hv hl (zst_c (v := .inl (w.2.2.2.2.2 zSc j.toNat)) (Z.1.1 zSc _) ht) kk
    · cases hs
  · cases hs
theorem zc_bald (CX : zCx p s m args meth c mid) (hK : va_K D vwCl (zTys dA) s) (hd : decode (zB mid) pc = .ok (.baload, 1)) (hs : zald 1 pc lls st w = some (pc2, lls2, st2, w2)) (Z : zAt X0 D dA A s ad lls st w H locs cells slots C1 S1) (hv : lv_has ls (zL mid) (zLv ad lls)) (hl : lls.length = zL mid)
    (kk : zNx p l e R s m args below meth c Q X0 D dA A mid C1 S1 ad w.2.2.1 pc2 lls2 st2 w2) : W p l e R s m args below meth c H locs cells slots Q (F0 m pc ls (st.map (zVal ad))) := by
  unfold zald at hs
  split at hs
  · rename_i j r t
    split at hs
    · rename_i hc
      obtain ⟨hkd, h0, h1⟩ := hc
      cases hs
      have hZ := Z.2.2.2.2.2.2.2.1
      have hj : zr j := zst_h hZ
      have ht := zst_t (zst_t hZ)
      have hcl := z_clamp hj
      rcases hkd with hk0 | ⟨-, hk3⟩
      · have hb := zOK_at Z.1 (o := r) (by omega) (by omega) (by omega)
        have hat := zWl_at (dA := dA) (ad := ad) hb.1 hb.2
        rw [zCell_b hk0] at hat
        refine va_bald (D := D) CX.1 CX.2.1 hK Z.2.1 (r - 1) 1 hat rfl (z_vin hj h0 h1) hd ?_
        rw [hcl]
        exact zN1 Z hv hl (zst_c (v := .inl (w.2.2.2.2.2 r j.toNat)) (Z.1.1 r _) ht) kk
      · omega
    · cases hs
  · cases hs
theorem zc_aald (CX : zCx p s m args meth c mid) (hK : va_K D vwCl (zTys dA) s) (hd : decode (zB mid) pc = .ok (.aaload, 1)) (hs : zaldR pc lls st w = some (pc2, lls2, st2, w2)) (Z : zAt X0 D dA A s ad lls st w H locs cells slots C1 S1) (hv : lv_has ls (zL mid) (zLv ad lls)) (hl : lls.length = zL mid)
    (kk : zNx p l e R s m args below meth c Q X0 D dA A mid C1 S1 ad w.2.2.1 pc2 lls2 st2 w2) : W p l e R s m args below meth c H locs cells slots Q (F0 m pc ls (st.map (zVal ad))) := by
  unfold zaldR at hs
  split at hs
  · rename_i j r t
    split at hs
    · rename_i hc
      obtain ⟨hkd, h0, h1, hne⟩ := hc
      cases hs
      have hZ := Z.2.2.2.2.2.2.2.1
      have hj : zr j := zst_h hZ
      have ht := zst_t (zst_t hZ)
      have hcl := z_clamp hj
      have hb := zOK_at Z.1 (o := r) (by omega) (by omega) (by omega)
      have hat := zWl_at (dA := dA) (ad := ad) hb.1 hb.2
      rw [zCell_r hkd] at hat
      have hin := z_vin hj h0 h1
      have hlt : (Int32.ofInt j).toNatClampNeg < (w.2.2.2.1 r).2 := Nat.not_le.mp fun q => hin (Or.inr q)
      refine W.aald (v := .ref (ad (w.2.2.2.2.1 r j.toNat))) (ty := .array .int) CX.1 CX.2.1 (Z.2.1 (r - 1) _ hat) ((hK.2 2 _ rfl).1 (w.2.2.2.1 r).2 (fun b => va_rf (if w.2.2.2.2.1 r b = 0 then none else some (ad (w.2.2.2.2.1 r b))))) rfl (fun q => by cases q) (by show ¬ (Int32.ofInt j < 0 ∨ (arrV _ _ _).slots.size ≤ _); rw [arrV_size]; exact hin) (by
        show (arrV _ _ _).slots[_]? = _
        rw [arrV_read _ _ hlt, hcl]
        show some (va_rf (if w.2.2.2.2.1 r j.toNat = 0 then none else some (ad (w.2.2.2.2.1 r j.toNat)))) = _
        rw [if_neg hne]
        rfl) rfl rfl hd ?_
      refine zN1 Z hv hl (zst_c ?_ ht) kk
      rcases Z.1.2.1 r j.toNat with h | h
      · exact absurd h hne
      · exact h
    · cases hs
  · cases hs
theorem zup_row {I : ZI} {o k : Nat} {x : Int} : (fun b => Int32.ofInt (zup I o k x o b)) = upd (fun b => Int32.ofInt (I o b)) k (Int32.ofInt x) := by
  funext b
  unfold zup upd
  by_cases h : b = k
  · rw [if_pos ⟨rfl, h⟩, if_pos h]
  · rw [if_neg (fun q => h q.2), if_neg h]
theorem zc_iast (CX : zCx p s m args meth c mid) (hK : va_K D vwCl (zTys dA) s) (hd : decode (zB mid) pc = .ok (.iastore, 1)) (hs : zast 0 (fun x => x) pc lls st w = some (pc2, lls2, st2, w2)) (Z : zAt X0 D dA A s ad lls st w H locs cells slots C1 S1) (hv : lv_has ls (zL mid) (zLv ad lls)) (hl : lls.length = zL mid)
    (kk : zNx p l e R s m args below meth c Q X0 D dA A mid C1 S1 ad w.2.2.1 pc2 lls2 st2 w2) : W p l e R s m args below meth c H locs cells slots Q (F0 m pc ls (st.map (zVal ad))) := by
  unfold zast at hs
  split at hs
  · rename_i x j r t
    split at hs
    · rename_i hc
      obtain ⟨hk0, h0, h1⟩ := hc
      cases hs
      have hZ := Z.2.2.2.2.2.2.2.1
      have hx : zr x := zst_h hZ
      have hj : zr j := zst_h (zst_t hZ)
      have ht := zst_t (zst_t (zst_t hZ))
      have hcl := z_clamp hj
      have hb := zOK_at Z.1 (o := r) (by omega) (by omega) (by omega)
      have hat := zWl_at (dA := dA) (ad := ad) hb.1 hb.2
      rw [zCell_i hk0] at hat
      refine va_iast (D := D) CX.1 CX.2.1 hK Z.2.1 Z.2.2.1 Z.2.2.2.1 (r - 1) 0 hat rfl (i := Int32.ofInt j) (x := Int32.ofInt x) (z_vin hj h0 h1) hd (fun H1 locs1 hP hD hS => ?_)
      rw [hcl, ← zup_row] at hP hD
      exact kk ad H1 locs1 cells slots ls (fun _ _ => rfl) (zAt_put Z (zsc_ne Z hb.2) hx ht _ (zCell_i (w := zset w (zup w.2.2.2.2.2 r j.toNat x)) hk0) hb.1 hP hD hS) hv hl
    · cases hs
  · cases hs
theorem zc_bast (CX : zCx p s m args meth c mid) (hK : va_K D vwCl (zTys dA) s) (hd : decode (zB mid) pc = .ok (.bastore, 1)) (hs : zast 1 zi2b pc lls st w = some (pc2, lls2, st2, w2)) (Z : zAt X0 D dA A s ad lls st w H locs cells slots C1 S1) (hv : lv_has ls (zL mid) (zLv ad lls)) (hl : lls.length = zL mid)
    (kk : zNx p l e R s m args below meth c Q X0 D dA A mid C1 S1 ad w.2.2.1 pc2 lls2 st2 w2) : W p l e R s m args below meth c H locs cells slots Q (F0 m pc ls (st.map (zVal ad))) := by
  unfold zast at hs
  split at hs
  · rename_i x j r t
    split at hs
    · rename_i hc
      obtain ⟨hk0, h0, h1⟩ := hc
      cases hs
      have hZ := Z.2.2.2.2.2.2.2.1
      have hx : zr x := zst_h hZ
      have hj : zr j := zst_h (zst_t hZ)
      have ht := zst_t (zst_t (zst_t hZ))
      have hcl := z_clamp hj
      have hb := zOK_at Z.1 (o := r) (by omega) (by omega) (by omega)
      have hat := zWl_at (dA := dA) (ad := ad) hb.1 hb.2
      rw [zCell_b hk0] at hat
      refine va_bast (D := D) CX.1 CX.2.1 hK Z.2.1 Z.2.2.1 Z.2.2.2.1 (r - 1) 1 hat rfl (i := Int32.ofInt j) (x := Int32.ofInt x) (z_vin hj h0 h1) hd (fun H1 locs1 hP hD hS => ?_)
      have hxb : vp_nar .byte (Int32.ofInt x) = Int32.ofInt (zi2b x) := by
        rw [vp_nar_byte]
        exact (z_oft _).symm
      rw [hcl, hxb, ← zup_row] at hP hD
      exact kk ad H1 locs1 cells slots ls (fun _ _ => rfl) (zAt_put Z (zsc_ne Z hb.2) (zr_i2b x) ht _ (zCell_b (w := zset w (zup w.2.2.2.2.2 r j.toNat (zi2b x))) hk0) hb.1 hP hD hS) hv hl
    · cases hs
  · cases hs
theorem zc_len (CX : zCx p s m args meth c mid) (hK : va_K D vwCl (zTys dA) s) (hd : decode (zB mid) pc = .ok (.arraylength, 1)) (hs : zlen pc lls st w = some (pc2, lls2, st2, w2)) (Z : zAt X0 D dA A s ad lls st w H locs cells slots C1 S1) (hv : lv_has ls (zL mid) (zLv ad lls)) (hl : lls.length = zL mid)
    (kk : zNx p l e R s m args below meth c Q X0 D dA A mid C1 S1 ad w.2.2.1 pc2 lls2 st2 w2) : W p l e R s m args below meth c H locs cells slots Q (F0 m pc ls (st.map (zVal ad))) := by
  unfold zlen at hs
  split at hs
  · rename_i r t
    split at hs
    · rename_i hc
      cases hs
      have hZ := Z.2.2.2.2.2.2.2.1
      have ht := zst_t hZ
      have hn := Z.1.2.2.2.2.1 r
      have hr : zr ((w.2.2.2.1 r).2 : Int) := by unfold zr; omega
      have kk1 := zN1 (cells := cells) (slots := slots) Z hv hl (zst_c (v := .inl ((w.2.2.2.1 r).2 : Int)) hr ht) kk
      have e9 : Int32.ofNat (w.2.2.2.1 r).2 = Int32.ofInt ((w.2.2.2.1 r).2 : Int) := Int32.ofInt_eq_ofNat.symm
      rcases (show (w.2.2.2.1 r).1 = 0 ∨ (w.2.2.2.1 r).1 = 1 ∨ (w.2.2.2.1 r).1 = 2 ∨ (w.2.2.2.1 r).1 = 3 by omega) with hk | hk | hk | hk
      · have hb := zOK_at Z.1 (o := r) (by omega) (by omega) (by omega)
        have hat := zWl_at (dA := dA) (ad := ad) hb.1 hb.2
        rw [zCell_i hk] at hat
        exact va_alen (D := D) CX.1 CX.2.1 hK Z.2.1 (r - 1) 0 hat rfl e9 hd kk1
      · have hb := zOK_at Z.1 (o := r) (by omega) (by omega) (by omega)
        have hat := zWl_at (dA := dA) (ad := ad) hb.1 hb.2
        rw [zCell_b hk] at hat
        exact va_alen (D := D) CX.1 CX.2.1 hK Z.2.1 (r - 1) 1 hat rfl e9 hd kk1
      · have hb := zOK_at Z.1 (o := r) (by omega) (by omega) (by omega)
        have hat := zWl_at (dA := dA) (ad := ad) hb.1 hb.2
        rw [zCell_r hk] at hat
        exact va_alen (D := D) CX.1 CX.2.1 hK Z.2.1 (r - 1) 2 hat rfl e9 hd kk1
      · obtain ⟨rfl, hsh⟩ := zsc_sh Z hk
        obtain ⟨hX, hbl, hbA⟩ := Z.2.2.2.2.1.2.2.2.1 _ (Z.2.2.2.2.1.1.symm.trans hsh)
        refine va_slen CX.1 CX.2.1 hX hbl hbA Z.2.2.2.1 hd ?_
        first | exact kk1 | (rw [e9]; exact kk1) | (rw [show ((w.2.2.2.1 zSc).2).toInt32 = Int32.ofInt ((w.2.2.2.1 zSc).2 : Int) from e9]; exact kk1)
    · cases hs
  · cases hs
end Z8
