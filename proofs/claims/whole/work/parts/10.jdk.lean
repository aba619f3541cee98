-- EACH ROW OF THE INTERPRETER IS THE MACHINE'S: the JDK's own
theorem zM_mem {o i k y : Nat} (h : zM o i = some (k, y)) : (o, i, k, y) ∈ zMl := by
  unfold zM at h
  cases hf : zMl.find? (fun q => q.1 == o && q.2.1 == i) with
  | none => rw [hf] at h; cases h
  | some q =>
    rw [hf] at h
    have h1 := List.mem_of_find?_eq_some hf
    have h2 := List.find?_some hf
    simp only [Bool.and_eq_true, beq_iff_eq] at h2
    obtain ⟨a, b, x⟩ := q
    cases h
    obtain ⟨rfl, rfl⟩ := h2
    exact h1
/-- indexOf of the text, length of the text: rows to be shown below -/
def zJ14 (l : Launch) : Prop := ∀ (p : Program) (e : Env) (R : Room) (s : State) (m : MethodId) (args : Array Value) (below : List Frame) (meth : Method) (c : Code) (H : Heap) (locs : List Loc) (cells slots : Nat) (Q : State → Prop) (A : Nat → Prop) (mid pc i y a : Nat) (ls : Array Slot) (rest : List Value) (x : Int),
  zCx p s m args meth c mid → zTx a A s s.heap → va_S A s.heap H locs → 6 ≤ R.frames → 240 ≤ R.locals → ls.size = zL mid → (rest.map fun v => v.category).sum ≤ 8 → cells ≤ R.cells → slots ≤ R.slots → zr x → zM (zO mid) i = some (14, y) → decode (zB mid) pc = .ok (.invokevirtual i, 3) →
  W p l e R s m args below meth c H locs cells slots Q (F0 m (pc + 3) ls (.int (Int32.ofInt (zIdx x)) :: rest)) → W p l e R s m args below meth c H locs cells slots Q (F0 m pc ls (.int (Int32.ofInt x) :: .ref a :: rest))
def zJ15 (l : Launch) : Prop := ∀ (p : Program) (e : Env) (R : Room) (s : State) (m : MethodId) (args : Array Value) (below : List Frame) (meth : Method) (c : Code) (H : Heap) (locs : List Loc) (cells slots : Nat) (Q : State → Prop) (A : Nat → Prop) (mid pc i y a : Nat) (ls : Array Slot) (rest : List Value),
  zCx p s m args meth c mid → zTx a A s s.heap → va_S A s.heap H locs → 6 ≤ R.frames → 240 ≤ R.locals → ls.size = zL mid → (rest.map fun v => v.category).sum ≤ 8 → cells ≤ R.cells → slots ≤ R.slots → zM (zO mid) i = some (15, y) → decode (zB mid) pc = .ok (.invokevirtual i, 3) →
  W p l e R s m args below meth c H locs cells slots Q (F0 m (pc + 3) ls (.int 8 :: rest)) → W p l e R s m args below meth c H locs cells slots Q (F0 m pc ls (.ref a :: rest))
theorem zCat_sum {ad : Nat → Nat} {t : List AV} (h : t.length ≤ 8) : ((t.map (zVal ad)).map fun v => v.category).sum ≤ 8 := by
  have e : ((t.map (zVal ad)).map fun v => v.category) = t.map (fun _ => 1) := by
    rw [List.map_map]
    apply List.map_congr_left
    intro v _
    exact zVal_cat ad v
  rw [e]
  have e2 : ∀ t : List AV, (t.map (fun _ => 1)).sum = t.length := by
    intro t
    induction t with
    | nil => rfl
    | cons a t ih => rw [List.map_cons, List.sum_cons, ih, List.length_cons]; omega
  rw [e2]; exact h
theorem z_min {x y : Int} (hx : zr x) (hy : zr y) : (if Int32.ofInt x < Int32.ofInt y then Int32.ofInt x else Int32.ofInt y) = Int32.ofInt (if x < y then x else y) := by
  by_cases h : x < y
  · rw [if_pos h, if_pos ((z_lt hx hy).mpr h)]
  · rw [if_neg h, if_neg (fun q => h ((z_lt hx hy).mp q))]
section Z10
variable {p : Program} {l : Launch} {e : Env} {R : Room} {s : State} {m : MethodId} {args : Array Value} {below : List Frame} {meth : Method} {c : Code} {H : Heap} {locs : List Loc} {cells slots C1 S1 : Nat} {Q : State → Prop}
variable {X0 : (Nat × Nat) × (Nat → Int) × (Nat × Nat)} {D : va_G} {dA : Nat → ClassId} {A : Nat → Prop} {mid pc pc2 len : Nat} {lls lls2 : ZL} {st st2 : List AV} {w w2 : ZW} {ad : Nat → Nat} {ls : Array Slot}
theorem zcpy_row {I : ZI} {a b sp dp n : Nat} : (fun k => Int32.ofInt (zcpy I a sp b dp n b k)) = va_cpy (fun k => Int32.ofInt (I a k)) (fun k => Int32.ofInt (I b k)) sp dp n := by
  funext k
  unfold zcpy va_cpy
  by_cases h : dp ≤ k ∧ k < dp + n
  · rw [if_pos ⟨rfl, h⟩, if_pos h]
  · rw [if_neg (fun q => h q.2), if_neg h]
theorem zAt_cpy {H1 : Heap} {locs1 : List Loc} {a b sp dp n : Nat} {t : List AV} (Z : zAt X0 D dA A s ad lls st w H locs cells slots C1 S1) (hb0 : (w.2.2.2.1 b).1 = 0) (hsc : b ≠ zSc) (ht : ∀ v ∈ t, zOv w.2.2.1 v) (h1 : 1 ≤ b)
    (hP : va_P D vwCl ((zWl dA w ad).set (b - 1) (ad b, .inl (dA 0, (w.2.2.2.1 b).2, .inl (fun k => Int32.ofInt (zcpy w.2.2.2.2.2 a sp b dp n b k))))) H1) (hD : va_D A ((zWl dA w ad).set (b - 1) (ad b, .inl (dA 0, (w.2.2.2.1 b).2, .inl (fun k => Int32.ofInt (zcpy w.2.2.2.2.2 a sp b dp n b k)))))) (hS : va_S A s.heap H1 locs1) : zAt X0 D dA A s ad lls t (zset w (zcpy w.2.2.2.2.2 a sp b dp n)) H1 locs1 cells slots C1 S1 := by
  obtain ⟨⟨a1, a2, a3, a4, a5, a6, a7⟩, -, -, -, ⟨x1, x2, x3⟩, c1, s1, -, l1⟩ := Z
  have ho : ∀ o, o ≠ b → ∀ k, zcpy w.2.2.2.2.2 a sp b dp n o k = w.2.2.2.2.2 o k := fun o h k => by unfold zcpy; rw [if_neg (fun q => h q.1)]
  have hw := zWl_set (dA := dA) (w := w) (w2 := zset w (zcpy w.2.2.2.2.2 a sp b dp n)) (ad := ad) h1 rfl (zCell_i (w := zset w (zcpy w.2.2.2.2.2 a sp b dp n)) hb0) (fun o h => zCell_cong rfl (fun _ => rfl) (fun k => ho o h k) (fun k => Or.inr rfl))
  have hP2 : va_P D vwCl (zWl dA (zset w (zcpy w.2.2.2.2.2 a sp b dp n)) ad) H1 := by rw [← hw]; exact hP
  have hD2 : va_D A (zWl dA (zset w (zcpy w.2.2.2.2.2 a sp b dp n)) ad) := by rw [← hw]; exact hD
  refine ⟨⟨fun o k => ?_, a2, a3, a4, a5, a6, a7⟩, hP2, hD2, hS, ⟨x1, fun k => (ho zSc (fun q => hsc q.symm) k).trans (x2 k), x3⟩, c1, s1, ht, l1⟩
  show zr (zcpy w.2.2.2.2.2 a sp b dp n o k)
  unfold zcpy
  split
  · exact a1 a _
  · exact a1 o k
theorem zJl {o i k y : Nat} (CX : zCx p s m args meth c mid) (h : zM (zO mid) i = some (k, y)) (hk : k = 10 ∨ k = 11 ∨ k = 12 ∨ k = 13 ∨ k = 14 ∨ k = 15 ∨ k = 16 ∨ k = 17) : (zJw (zO mid, i, k, y)).before args s = true :=
  CX.2.2.2.2.1 _ (z_in (zMl_jdk _ (List.mem_filter.mpr ⟨zM_mem h, by rcases hk with rfl | rfl | rfl | rfl | rfl | rfl | rfl | rfl <;> rfl⟩)) rfl)
theorem zc_jS {i : Nat} (CX : zCx p s m args meth c mid) (hK : va_K D vwCl (zTys dA) s) (hR : 6 ≤ R.frames ∧ 240 ≤ R.locals) (hC1 : C1 ≤ R.cells) (hS1 : S1 ≤ R.slots) (hd : decode (zB mid) pc = .ok (.invokestatic i, 3)) (hs : zjS (zO mid) i pc lls st w = some (pc2, lls2, st2, w2)) (Z : zAt X0 D dA A s ad lls st w H locs cells slots C1 S1) (hv : lv_has ls (zL mid) (zLv ad lls)) (hl : lls.length = zL mid)
    (kk : zNx p l e R s m args below meth c Q X0 D dA A mid C1 S1 ad w.2.2.1 pc2 lls2 st2 w2) : W p l e R s m args below meth c H locs cells slots Q (F0 m pc ls (st.map (zVal ad))) := by
  have hts := CX.2.2.2.2.1
  have hml : c.maxLocals = ls.size := by rw [CX.2.2.1, hv.1]
  have hc1 := Z.2.2.2.2.2.1
  have hs1 := Z.2.2.2.2.2.2.1
  have hZ := Z.2.2.2.2.2.2.2.1
  have T : ∀ w ∈ lw_tbl, goodWord w = true → w.before args s = true := fun w h g => hts w (z_in h g)
  unfold zjS at hs
  split at hs
  · rename_i y0 y x t hM
    split at hs
    · rename_i h8
      cases hs
      have hy : zr y := zst_h hZ
      have hx : zr x := zst_h (zst_t hZ)
      have ht := zst_t (zst_t hZ)
      have hsum := zCat_sum (ad := ad) h8
      refine va_mmax CX.1 CX.2.1 hml CX.2.2.2.1 (zJl (o := 0) CX hM (by omega)) (T _ z_jmax_s rfl) (T _ z_jmath rfl) (T _ z_jmax_c rfl) (by omega) (by omega) (by omega) (by omega) hd ?_
      rw [z_max hx hy]
      refine zN1 (st2 := .inl (if x < y then y else x) :: t) Z hv hl (zst_c ?_ ht) kk
      show zr (if x < y then y else x)
      split
      · exact hy
      · exact hx
    · cases hs
  · rename_i y0 y x t hM
    split at hs
    · rename_i h8
      cases hs
      have hy : zr y := zst_h hZ
      have hx : zr x := zst_h (zst_t hZ)
      have ht := zst_t (zst_t hZ)
      have hsum := zCat_sum (ad := ad) h8
      refine va_mmin CX.1 CX.2.1 hml CX.2.2.2.1 (zJl (o := 0) CX hM (by omega)) (T _ z_jmin_s rfl) (T _ z_jmath rfl) (T _ z_jmin_c rfl) (by omega) (by omega) (by omega) (by omega) hd ?_
      rw [z_min hy hx]
      refine zN1 (st2 := .inl (if y < x then y else x) :: t) Z hv hl (zst_c ?_ ht) kk
      show zr (if y < x then y else x)
      split
      · exact hy
      · exact hx
    · cases hs
  · rename_i y0 x t hM
    split at hs
    · rename_i h8
      cases hs
      have hx : zr x := zst_h hZ
      have ht := zst_t hZ
      have hsum := zCat_sum (ad := ad) h8
      refine va_mabs CX.1 CX.2.1 hml CX.2.2.2.1 (zJl (o := 0) CX hM (by omega)) (T _ z_jabs_s rfl) (T _ z_jmath rfl) (T _ z_jabs_c rfl) (by omega) (by omega) (by omega) (by omega) hd ?_
      rw [z_abs hx]
      refine zN1 (st2 := .inl (if 0 ≤ x then x else zw (0 - x)) :: t) Z hv hl (zst_c ?_ ht) kk
      show zr (if 0 ≤ x then x else zw (0 - x))
      split
      · exact hx
      · exact zr_zw _
    · cases hs
  · rename_i y0 n dp b sp a t hM
    split at hs
    · rename_i hb
      obtain ⟨ha0, hb0, hsp0, hdp0, hn0, h4, h5, h8⟩ := hb
      cases hs
      have hn : zr n := zst_h hZ
      have hdp : zr dp := zst_h (zst_t hZ)
      have hsp : zr sp := zst_h (zst_t (zst_t (zst_t hZ)))
      have ht := zst_t (zst_t (zst_t (zst_t (zst_t hZ))))
      have hsum := zCat_sum (ad := ad) h8
      have hba := zOK_at Z.1 (o := a) (by omega) (by omega) (by omega)
      have hbb := zOK_at Z.1 (o := b) (by omega) (by omega) (by omega)
      have hata := zWl_at (dA := dA) (ad := ad) hba.1 hba.2
      have hatb := zWl_at (dA := dA) (ad := ad) hbb.1 hbb.2
      rw [zCell_i ha0] at hata
      rw [zCell_i hb0] at hatb
      have en := z_clamp hn
      have ed := z_clamp hdp
      have es := z_clamp hsp
      refine va_copyi (D := D) CX.1 CX.2.1 hml CX.2.2.2.1 (zJl (o := 0) CX hM (by omega)) (T _ z_jac_n rfl) (T _ z_jac_s rfl) (T _ z_jsys rfl) hK Z.2.1 Z.2.2.1 Z.2.2.2.1 (a - 1) (b - 1) 0 0 (ty := .int) hata hatb rfl rfl rfl (z_nn hsp hsp0) (z_nn hdp hdp0) (z_nn hn hn0) (by rw [es, en]; omega) (by rw [ed, en]; omega) (fun _ _ => rfl) (by omega) ?_ hd (fun H1 locs1 hP hD hS => ?_)
      · have e1 : nativeFrameWords "java/lang/System" "arraycopy" 5 + 11 ≤ 200 := by decide +kernel
        omega
      · rw [es, ed, en, ← zcpy_row] at hP hD
        exact kk ad H1 locs1 cells slots ls (fun _ _ => rfl) (zAt_cpy Z hb0 (zsc_ne Z hbb.2) ht hbb.1 hP hD hS) hv hl
    · cases hs
  · cases hs
theorem zc_jV {i : Nat} (J14 : zJ14 l) (J15 : zJ15 l) (CX : zCx p s m args meth c mid) (hR : 6 ≤ R.frames ∧ 240 ≤ R.locals) (hC1 : C1 ≤ R.cells) (hS1 : S1 ≤ R.slots) (hd : decode (zB mid) pc = .ok (.invokevirtual i, 3)) (hs : zjV (zO mid) i pc lls st w = some (pc2, lls2, st2, w2)) (Z : zAt X0 D dA A s ad lls st w H locs cells slots C1 S1) (hv : lv_has ls (zL mid) (zLv ad lls)) (hl : lls.length = zL mid)
    (kk : zNx p l e R s m args below meth c Q X0 D dA A mid C1 S1 ad w.2.2.1 pc2 lls2 st2 w2) : W p l e R s m args below meth c H locs cells slots Q (F0 m pc ls (st.map (zVal ad))) := by
  have hc1 := Z.2.2.2.2.2.1
  have hs1 := Z.2.2.2.2.2.2.1
  have hZ := Z.2.2.2.2.2.2.2.1
  unfold zjV at hs
  split at hs
  · rename_i y0 x o t hM
    split at hs
    · rename_i hb
      obtain ⟨rfl, h4, h8⟩ := hb
      cases hs
      have hx : zr x := zst_h hZ
      have ht := zst_t (zst_t hZ)
      refine J14 p e R s m args below meth c H locs cells slots Q A mid pc i _ (ad zSx) ls _ x CX (Z.2.2.2.2.1.2.2.2.2 (by rw [← Z.2.2.2.2.1.2.2.1]; exact h4)) Z.2.2.2.1 hR.1 hR.2 hv.1 (zCat_sum h8) (by omega) (by omega) hx hM hd ?_
      refine zN1 (st2 := .inl (zIdx x) :: t) Z hv hl (zst_c ?_ ht) kk
      show zr (zIdx x)
      unfold zIdx zr
      repeat' split
      all_goals omega
    · cases hs
  · rename_i y0 o t hM
    split at hs
    · rename_i hb
      obtain ⟨rfl, h4, h8⟩ := hb
      cases hs
      have ht := zst_t hZ
      refine J15 p e R s m args below meth c H locs cells slots Q A mid pc i _ (ad zSx) ls _ CX (Z.2.2.2.2.1.2.2.2.2 (by rw [← Z.2.2.2.2.1.2.2.1]; exact h4)) Z.2.2.2.1 hR.1 hR.2 hv.1 (zCat_sum h8) (by omega) (by omega) hM hd ?_
      exact zN1 (st2 := .inl 8 :: t) Z hv hl (zst_c (by show zr 8; unfold zr; omega) ht) kk
    · cases hs
  · cases hs
theorem zc_jI {i : Nat} (CX : zCx p s m args meth c mid) (hR : 6 ≤ R.frames ∧ 240 ≤ R.locals) (hd : decode (zB mid) pc = .ok (.invokespecial i, 3)) (hs : zjI (zO mid) i pc lls st w = some (pc2, lls2, st2, w2)) (Z : zAt X0 D dA A s ad lls st w H locs cells slots C1 S1) (hv : lv_has ls (zL mid) (zLv ad lls)) (hl : lls.length = zL mid)
    (kk : zNx p l e R s m args below meth c Q X0 D dA A mid C1 S1 ad w.2.2.1 pc2 lls2 st2 w2) : W p l e R s m args below meth c H locs cells slots Q (F0 m pc ls (st.map (zVal ad))) := by
  have hts := CX.2.2.2.2.1
  have hZ := Z.2.2.2.2.2.2.2.1
  unfold zjI at hs
  split at hs
  · rename_i y0 o t hM
    split at hs
    · rename_i h8
      cases hs
      have ht := zst_t hZ
      have hsum := zCat_sum (ad := ad) h8
      refine W.objInit (g := F0 m pc ls (.ref (ad o) :: st2.map (zVal ad))) CX.1 CX.2.1 CX.2.2.2.1 (zJl (o := 0) CX hM (by omega)) (hts _ (z_in z_job_i rfl)) (hts _ (z_in z_job_c rfl)) rfl (by rw [CX.2.2.1]; exact hv.1) rfl hd (by omega) (by show 2 * 0 + _ + 12 ≤ _; omega) ?_
      exact zN1 Z hv hl ht kk
    · cases hs
  · cases hs
end Z10
