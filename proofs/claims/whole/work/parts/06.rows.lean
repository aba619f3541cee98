-- EACH ROW OF THE INTERPRETER IS THE MACHINE'S: rows that leave the world as it is
section Z6
variable {p : Program} {l : Launch} {e : Env} {R : Room} {s : State} {m : MethodId} {args : Array Value} {below : List Frame} {meth : Method} {c : Code} {H : Heap} {locs : List Loc} {cells slots C1 S1 : Nat} {Q : State → Prop}
variable {X0 : (Nat × Nat) × (Nat → Int) × (Nat × Nat)} {D : va_G} {dA : Nat → ClassId} {A : Nat → Prop} {mid pc pc2 len : Nat} {lls lls2 : ZL} {st st2 : List AV} {w w2 : ZW} {ad : Nat → Nat} {ls : Array Slot}
/-- how the walk goes on -/
def zNx (p : Program) (l : Launch) (e : Env) (R : Room) (s : State) (m : MethodId) (args : Array Value) (below : List Frame) (meth : Method) (c : Code) (Q : State → Prop) (X0 : (Nat × Nat) × (Nat → Int) × (Nat × Nat)) (D : va_G) (dA : Nat → ClassId) (A : Nat → Prop) (mid C1 S1 : Nat) (ad : Nat → Nat) (n : Nat) (pc2 : Nat) (lls2 : ZL) (st2 : List AV) (w2 : ZW) : Prop :=
  ∀ (ad2 : Nat → Nat) (H2 : Heap) (locs2 : List Loc) (cells2 slots2 : Nat) (ls2 : Array Slot), (∀ r, r ≤ n ∨ zSx ≤ r → ad2 r = ad r) → zAt X0 D dA A s ad2 lls2 st2 w2 H2 locs2 cells2 slots2 C1 S1 → lv_has ls2 (zL mid) (zLv ad2 lls2) → lls2.length = zL mid →
    W p l e R s m args below meth c H2 locs2 cells2 slots2 Q (F0 m pc2 ls2 (st2.map (zVal ad2)))
theorem zAt_st (Z : zAt X0 D dA A s ad lls st w H locs cells slots C1 S1) (h1 : ∀ v ∈ st2, zOv w.2.2.1 v) (h2 : ∀ v, some v ∈ lls2 → zOv w.2.2.1 v) : zAt X0 D dA A s ad lls2 st2 w H locs cells slots C1 S1 := by
  obtain ⟨a1, a2, a3, a4, a5, a6, a7, -, -⟩ := Z
  exact ⟨a1, a2, a3, a4, a5, a6, a7, h1, h2⟩
theorem zN1 (Z : zAt X0 D dA A s ad lls st w H locs cells slots C1 S1) (hv : lv_has ls (zL mid) (zLv ad lls)) (hl : lls.length = zL mid) (h1 : ∀ v ∈ st2, zOv w.2.2.1 v)
    (kk : zNx p l e R s m args below meth c Q X0 D dA A mid C1 S1 ad w.2.2.1 pc2 lls st2 w) : W p l e R s m args below meth c H locs cells slots Q (F0 m pc2 ls (st2.map (zVal ad))) :=
  kk ad H locs cells slots ls (fun _ _ => rfl) (zAt_st Z h1 Z.2.2.2.2.2.2.2.2) hv hl
theorem zN2 {i : Nat} {v : AV} {ls' : Array Slot} (Z : zAt X0 D dA A s ad lls st w H locs cells slots C1 S1) (hv : lv_has ls' (zL mid) (zLv ad (lls.set i (some v)))) (hl : lls.length = zL mid) (h1 : ∀ v ∈ st2, zOv w.2.2.1 v) (h2 : zOv w.2.2.1 v)
    (kk : zNx p l e R s m args below meth c Q X0 D dA A mid C1 S1 ad w.2.2.1 pc2 (lls.set i (some v)) st2 w) : W p l e R s m args below meth c H locs cells slots Q (F0 m pc2 ls' (st2.map (zVal ad))) := by
  refine kk ad H locs cells slots ls' (fun _ _ => rfl) (zAt_st Z h1 (fun u hu => ?_)) hv (by rw [List.length_set]; exact hl)
  rcases List.mem_or_eq_of_mem_set hu with h | h
  · exact Z.2.2.2.2.2.2.2.2 u h
  · cases h; exact h2
theorem zst_t {n : Nat} {v : AV} {t : List AV} (h : ∀ u ∈ v :: t, zOv n u) : ∀ u ∈ t, zOv n u := fun u hu => h u (List.mem_cons_of_mem _ hu)
theorem zst_h {n : Nat} {v : AV} {t : List AV} (h : ∀ u ∈ v :: t, zOv n u) : zOv n v := h v List.mem_cons_self
theorem zst_c {n : Nat} {v : AV} {t : List AV} (h1 : zOv n v) (h2 : ∀ u ∈ t, zOv n u) : ∀ u ∈ v :: t, zOv n u := by
  intro u hu
  rcases List.mem_cons.mp hu with rfl | h
  · exact h1
  · exact h2 u h
theorem zc_push {b : Bool} {v : Int} (row : zr v → W p l e R s m args below meth c H locs cells slots Q (F0 m (pc + len) ls ((.inl v :: st).map (zVal ad))) → W p l e R s m args below meth c H locs cells slots Q (F0 m pc ls (st.map (zVal ad))))
    (hb : b = true → zr v) (hs : zpushI b len v pc lls st w = some (pc2, lls2, st2, w2)) (Z : zAt X0 D dA A s ad lls st w H locs cells slots C1 S1) (hv : lv_has ls (zL mid) (zLv ad lls)) (hl : lls.length = zL mid)
    (kk : zNx p l e R s m args below meth c Q X0 D dA A mid C1 S1 ad w.2.2.1 pc2 lls2 st2 w2) : W p l e R s m args below meth c H locs cells slots Q (F0 m pc ls (st.map (zVal ad))) := by
  unfold zpushI at hs
  split at hs
  · rename_i h
    cases hs
    exact row (hb h) (zN1 Z hv hl (zst_c (hb h) Z.2.2.2.2.2.2.2.1) kk)
  · cases hs
theorem zc_iload {i : Nat} (row : ∀ x : Int, ls[i]? = some (.val (.int (Int32.ofInt x))) → W p l e R s m args below meth c H locs cells slots Q (F0 m (pc + len) ls ((.inl x :: st).map (zVal ad))) → W p l e R s m args below meth c H locs cells slots Q (F0 m pc ls (st.map (zVal ad))))
    (hs : ziload i len pc lls st w = some (pc2, lls2, st2, w2)) (Z : zAt X0 D dA A s ad lls st w H locs cells slots C1 S1) (hv : lv_has ls (zL mid) (zLv ad lls)) (hl : lls.length = zL mid)
    (kk : zNx p l e R s m args below meth c Q X0 D dA A mid C1 S1 ad w.2.2.1 pc2 lls2 st2 w2) : W p l e R s m args below meth c H locs cells slots Q (F0 m pc ls (st.map (zVal ad))) := by
  unfold ziload at hs
  split at hs
  · rename_i x h
    cases hs
    exact row x (zLv_at hv h) (zN1 Z hv hl (zst_c (Z.2.2.2.2.2.2.2.2 _ (List.mem_of_getElem? h)) Z.2.2.2.2.2.2.2.1) kk)
  · cases hs
theorem zc_aload {i : Nat} (row : ∀ x : Nat, ls[i]? = some (.val (.ref (ad x))) → W p l e R s m args below meth c H locs cells slots Q (F0 m (pc + len) ls ((.inr x :: st).map (zVal ad))) → W p l e R s m args below meth c H locs cells slots Q (F0 m pc ls (st.map (zVal ad))))
    (hs : zaload i len pc lls st w = some (pc2, lls2, st2, w2)) (Z : zAt X0 D dA A s ad lls st w H locs cells slots C1 S1) (hv : lv_has ls (zL mid) (zLv ad lls)) (hl : lls.length = zL mid)
    (kk : zNx p l e R s m args below meth c Q X0 D dA A mid C1 S1 ad w.2.2.1 pc2 lls2 st2 w2) : W p l e R s m args below meth c H locs cells slots Q (F0 m pc ls (st.map (zVal ad))) := by
  unfold zaload at hs
  split at hs
  · rename_i x h
    cases hs
    exact row x (zLv_at hv h) (zN1 Z hv hl (zst_c (Z.2.2.2.2.2.2.2.2 _ (List.mem_of_getElem? h)) Z.2.2.2.2.2.2.2.1) kk)
  · cases hs
theorem zc_istore {i : Nat} (row : ∀ (x : Int) (t : List AV), i < zL mid → (∀ ls' : Array Slot, lv_has ls' (zL mid) ((i, Value.int (Int32.ofInt x)) :: (zLv ad lls).filter (fun q => !(q.1 == i) && !(q.1 + 1 == i && q.2.category == 2))) → W p l e R s m args below meth c H locs cells slots Q (F0 m (pc + len) ls' (t.map (zVal ad)))) → W p l e R s m args below meth c H locs cells slots Q (F0 m pc ls ((.inl x :: t).map (zVal ad))))
    (hs : zistore i len pc lls st w = some (pc2, lls2, st2, w2)) (Z : zAt X0 D dA A s ad lls st w H locs cells slots C1 S1) (hl : lls.length = zL mid)
    (kk : zNx p l e R s m args below meth c Q X0 D dA A mid C1 S1 ad w.2.2.1 pc2 lls2 st2 w2) : W p l e R s m args below meth c H locs cells slots Q (F0 m pc ls (st.map (zVal ad))) := by
  unfold zistore at hs
  split at hs
  · rename_i x t
    split at hs
    · rename_i hi
      cases hs
      have hZ := Z.2.2.2.2.2.2.2.1
      exact row x _ (by omega) (fun ls' hv' => zN2 Z (zLv_store (v := .inl x) hv') hl (zst_t hZ) (zst_h hZ) kk)
    · cases hs
  · cases hs
theorem zc_astore {i : Nat} (row : ∀ (x : Nat) (t : List AV), i < zL mid → (∀ ls' : Array Slot, lv_has ls' (zL mid) ((i, Value.ref (ad x)) :: (zLv ad lls).filter (fun q => !(q.1 == i) && !(q.1 + 1 == i && q.2.category == 2))) → W p l e R s m args below meth c H locs cells slots Q (F0 m (pc + len) ls' (t.map (zVal ad)))) → W p l e R s m args below meth c H locs cells slots Q (F0 m pc ls ((.inr x :: t).map (zVal ad))))
    (hs : zastore i len pc lls st w = some (pc2, lls2, st2, w2)) (Z : zAt X0 D dA A s ad lls st w H locs cells slots C1 S1) (hl : lls.length = zL mid)
    (kk : zNx p l e R s m args below meth c Q X0 D dA A mid C1 S1 ad w.2.2.1 pc2 lls2 st2 w2) : W p l e R s m args below meth c H locs cells slots Q (F0 m pc ls (st.map (zVal ad))) := by
  unfold zastore at hs
  split at hs
  · rename_i x t
    split at hs
    · rename_i hi
      cases hs
      have hZ := Z.2.2.2.2.2.2.2.1
      exact row x _ (by omega) (fun ls' hv' => zN2 Z (zLv_store (v := .inr x) hv') hl (zst_t hZ) (zst_h hZ) kk)
    · cases hs
  · cases hs
theorem zc_iinc {i : Nat} {n : Int} (CX : zCx p s m args meth c mid) (hd : decode (zB mid) pc = .ok (.iinc i n, 3)) (hs : ziinc i n pc lls st w = some (pc2, lls2, st2, w2)) (Z : zAt X0 D dA A s ad lls st w H locs cells slots C1 S1) (hv : lv_has ls (zL mid) (zLv ad lls)) (hl : lls.length = zL mid)
    (kk : zNx p l e R s m args below meth c Q X0 D dA A mid C1 S1 ad w.2.2.1 pc2 lls2 st2 w2) : W p l e R s m args below meth c H locs cells slots Q (F0 m pc ls (st.map (zVal ad))) := by
  unfold ziinc at hs
  split at hs
  · rename_i x h
    cases hs
    obtain ⟨k, hk⟩ := List.getElem?_of_mem (zLv_mem.mpr ⟨_, h, rfl⟩ : (i, zVal ad (.inl x)) ∈ zLv ad lls)
    have hi : i < lls.length := (List.getElem?_eq_some_iff.mp h).1
    exact lv_iinc (v := Int32.ofInt (zw (x + n))) CX.1 CX.2.1 hd hv hk (z_add x n) (by omega) rfl (fun ls' hv' => zN2 Z (zLv_store (v := .inl (zw (x + n))) hv') hl Z.2.2.2.2.2.2.2.1 (zr_zw _) kk)
  · cases hs
theorem zc_bin {g : Int → Int → Int} (hg : ∀ a b, zr a → zr b → zr (g a b)) (row : ∀ (a b : Int) (t : List AV), zr a → zr b → W p l e R s m args below meth c H locs cells slots Q (F0 m (pc + 1) ls ((.inl (g a b) :: t).map (zVal ad))) → W p l e R s m args below meth c H locs cells slots Q (F0 m pc ls ((.inl b :: .inl a :: t).map (zVal ad))))
    (hs : zbin g pc lls st w = some (pc2, lls2, st2, w2)) (Z : zAt X0 D dA A s ad lls st w H locs cells slots C1 S1) (hv : lv_has ls (zL mid) (zLv ad lls)) (hl : lls.length = zL mid)
    (kk : zNx p l e R s m args below meth c Q X0 D dA A mid C1 S1 ad w.2.2.1 pc2 lls2 st2 w2) : W p l e R s m args below meth c H locs cells slots Q (F0 m pc ls (st.map (zVal ad))) := by
  unfold zbin at hs
  split at hs
  · rename_i b a t
    cases hs
    have hZ := Z.2.2.2.2.2.2.2.1
    have hb : zr b := zst_h hZ
    have ha : zr a := zst_h (zst_t hZ)
    exact row a b t ha hb (zN1 Z hv hl (zst_c (hg a b ha hb) (zst_t (zst_t hZ))) kk)
  · cases hs
theorem zc_div {g : Int → Int → Int} (hg : ∀ a b, zr a → zr b → ¬ b = 0 → zr (g a b)) (row : ∀ (a b : Int) (t : List AV), zr a → zr b → ¬ b = 0 → W p l e R s m args below meth c H locs cells slots Q (F0 m (pc + 1) ls ((.inl (g a b) :: t).map (zVal ad))) → W p l e R s m args below meth c H locs cells slots Q (F0 m pc ls ((.inl b :: .inl a :: t).map (zVal ad))))
    (hs : zdiv g pc lls st w = some (pc2, lls2, st2, w2)) (Z : zAt X0 D dA A s ad lls st w H locs cells slots C1 S1) (hv : lv_has ls (zL mid) (zLv ad lls)) (hl : lls.length = zL mid)
    (kk : zNx p l e R s m args below meth c Q X0 D dA A mid C1 S1 ad w.2.2.1 pc2 lls2 st2 w2) : W p l e R s m args below meth c H locs cells slots Q (F0 m pc ls (st.map (zVal ad))) := by
  unfold zdiv at hs
  split at hs
  · rename_i b a t
    split at hs
    · cases hs
    · rename_i hb0
      cases hs
      have hZ := Z.2.2.2.2.2.2.2.1
      have hb : zr b := zst_h hZ
      have ha : zr a := zst_h (zst_t hZ)
      exact row a b t ha hb hb0 (zN1 Z hv hl (zst_c (hg a b ha hb hb0) (zst_t (zst_t hZ))) kk)
  · cases hs
theorem zc_un {g : Int → Int} (hg : ∀ a, zr (g a)) (row : ∀ (a : Int) (t : List AV), W p l e R s m args below meth c H locs cells slots Q (F0 m (pc + 1) ls ((.inl (g a) :: t).map (zVal ad))) → W p l e R s m args below meth c H locs cells slots Q (F0 m pc ls ((.inl a :: t).map (zVal ad))))
    (hs : zun g pc lls st w = some (pc2, lls2, st2, w2)) (Z : zAt X0 D dA A s ad lls st w H locs cells slots C1 S1) (hv : lv_has ls (zL mid) (zLv ad lls)) (hl : lls.length = zL mid)
    (kk : zNx p l e R s m args below meth c Q X0 D dA A mid C1 S1 ad w.2.2.1 pc2 lls2 st2 w2) : W p l e R s m args below meth c H locs cells slots Q (F0 m pc ls (st.map (zVal ad))) := by
  unfold zun at hs
  split at hs
  · rename_i a t
    cases hs
    have hZ := Z.2.2.2.2.2.2.2.1
    exact row a t (zN1 Z hv hl (zst_c (hg a) (zst_t hZ)) kk)
  · cases hs
theorem zbr_some {pc : Nat} {off : Int} {q : Nat} (h : zbr pc off = some q) : (pc : Int) + off = (q : Int) := by
  unfold zbr at h
  split at h
  · cases h; omega
  · cases h
theorem zc_goto {off : Int} (CX : zCx p s m args meth c mid) (hd : decode (zB mid) pc = .ok (.goto off, 3)) (hs : zgoto pc off lls st w = some (pc2, lls2, st2, w2)) (Z : zAt X0 D dA A s ad lls st w H locs cells slots C1 S1) (hv : lv_has ls (zL mid) (zLv ad lls)) (hl : lls.length = zL mid)
    (kk : zNx p l e R s m args below meth c Q X0 D dA A mid C1 S1 ad w.2.2.1 pc2 lls2 st2 w2) : W p l e R s m args below meth c H locs cells slots Q (F0 m pc ls (st.map (zVal ad))) := by
  unfold zgoto at hs
  split at hs
  · rename_i q h
    cases hs
    exact lv_goto CX.1 CX.2.1 hd (zbr_some h) (zN1 Z hv hl Z.2.2.2.2.2.2.2.1 kk)
  · cases hs
theorem zc_if2 {cd : ClassFile.Cond} {off : Int} (CX : zCx p s m args meth c mid) (hd : decode (zB mid) pc = .ok (.if_icmp cd off, 3)) (hs : zif2 cd off pc lls st w = some (pc2, lls2, st2, w2)) (Z : zAt X0 D dA A s ad lls st w H locs cells slots C1 S1) (hv : lv_has ls (zL mid) (zLv ad lls)) (hl : lls.length = zL mid)
    (kk : zNx p l e R s m args below meth c Q X0 D dA A mid C1 S1 ad w.2.2.1 pc2 lls2 st2 w2) : W p l e R s m args below meth c H locs cells slots Q (F0 m pc ls (st.map (zVal ad))) := by
  unfold zif2 at hs
  split at hs
  · rename_i b a t
    split at hs
    · rename_i q h
      cases hs
      have hq := zbr_some h
      have hZ := Z.2.2.2.2.2.2.2.1
      have hb : zr b := zst_h hZ
      have ha : zr a := zst_h (zst_t hZ)
      have ht := zst_t (zst_t hZ)
      have T : ∀ (X : Prop), (X ↔ zcond cd a b) → (X → W p l e R s m args below meth c H locs cells slots Q (F0 m q ls (st2.map (zVal ad)))) ∧ (¬ X → W p l e R s m args below meth c H locs cells slots Q (F0 m (pc + 3) ls (st2.map (zVal ad)))) := by
        intro X hX
        refine ⟨fun hx => ?_, fun hx => ?_⟩
        · rw [if_pos (zcb_iff.mpr (hX.mp hx))] at kk
          exact zN1 Z hv hl ht kk
        · rw [if_neg (fun z => hx (hX.mpr (zcb_iff.mp z)))] at kk
          exact zN1 Z hv hl ht kk
      cases cd with
      | eq => exact lv_icmp_eq CX.1 CX.2.1 hd hq (T _ (z_eq ha hb)).1 (T _ (z_eq ha hb)).2
      | ne => exact lv_icmp_ne CX.1 CX.2.1 hd hq (T _ (not_congr (z_eq ha hb))).1 (fun q => (T _ (not_congr (z_eq ha hb))).2 (fun h => h q))
      | lt => exact lv_icmp_lt CX.1 CX.2.1 hd hq (T _ (z_lt ha hb)).1 (T _ (z_lt ha hb)).2
      | ge => exact lv_icmp_ge CX.1 CX.2.1 hd hq (T _ (z_le hb ha)).1 (T _ (z_le hb ha)).2
      | gt => exact lv_icmp_gt CX.1 CX.2.1 hd hq (T _ (z_lt hb ha)).1 (T _ (z_lt hb ha)).2
      | le => exact lv_icmp_le CX.1 CX.2.1 hd hq (T _ (z_le ha hb)).1 (T _ (z_le ha hb)).2
    · cases hs
  · cases hs
theorem zc_if1 {cd : ClassFile.Cond} {off : Int} (CX : zCx p s m args meth c mid) (hd : decode (zB mid) pc = .ok (.ifCond cd off, 3)) (hs : zif1 cd off pc lls st w = some (pc2, lls2, st2, w2)) (Z : zAt X0 D dA A s ad lls st w H locs cells slots C1 S1) (hv : lv_has ls (zL mid) (zLv ad lls)) (hl : lls.length = zL mid)
    (kk : zNx p l e R s m args below meth c Q X0 D dA A mid C1 S1 ad w.2.2.1 pc2 lls2 st2 w2) : W p l e R s m args below meth c H locs cells slots Q (F0 m pc ls (st.map (zVal ad))) := by
  unfold zif1 at hs
  split at hs
  · rename_i a t
    split at hs
    · rename_i q h
      cases hs
      have hq := zbr_some h
      have hZ := Z.2.2.2.2.2.2.2.1
      have ha : zr a := zst_h hZ
      have ht := zst_t hZ
      have T : ∀ (X : Prop), (X ↔ zcond cd a 0) → (X → W p l e R s m args below meth c H locs cells slots Q (F0 m q ls (st2.map (zVal ad)))) ∧ (¬ X → W p l e R s m args below meth c H locs cells slots Q (F0 m (pc + 3) ls (st2.map (zVal ad)))) := by
        intro X hX
        refine ⟨fun hx => ?_, fun hx => ?_⟩
        · rw [if_pos (zcb_iff.mpr (hX.mp hx))] at kk
          exact zN1 Z hv hl ht kk
        · rw [if_neg (fun z => hx (hX.mpr (zcb_iff.mp z)))] at kk
          exact zN1 Z hv hl ht kk
      cases cd with
      | eq => exact lv_if_eq CX.1 CX.2.1 hd hq (T _ (z_eq ha zr_0)).1 (T _ (z_eq ha zr_0)).2
      | ne => exact lv_if_ne CX.1 CX.2.1 hd hq (T _ (not_congr (z_eq ha zr_0))).1 (fun q => (T _ (not_congr (z_eq ha zr_0))).2 (fun h => h q))
      | lt => exact lv_if_lt CX.1 CX.2.1 hd hq (T _ (z_lt ha zr_0)).1 (T _ (z_lt ha zr_0)).2
      | ge => exact lv_if_ge CX.1 CX.2.1 hd hq (T _ (z_le zr_0 ha)).1 (T _ (z_le zr_0 ha)).2
      | gt => exact lv_if_gt CX.1 CX.2.1 hd hq (T _ (z_lt zr_0 ha)).1 (T _ (z_lt zr_0 ha)).2
      | le => exact lv_if_le CX.1 CX.2.1 hd hq (T _ (z_le ha zr_0)).1 (T _ (z_le ha zr_0)).2
    · cases hs
  · cases hs
theorem zc_tsw {d lo hi : Int} {offs : Array Int} (CX : zCx p s m args meth c mid) (hd : decode (zB mid) pc = .ok (.tableswitch d lo hi offs, len)) (hs : ztsw d lo hi offs pc lls st w = some (pc2, lls2, st2, w2)) (Z : zAt X0 D dA A s ad lls st w H locs cells slots C1 S1) (hv : lv_has ls (zL mid) (zLv ad lls)) (hl : lls.length = zL mid)
    (kk : zNx p l e R s m args below meth c Q X0 D dA A mid C1 S1 ad w.2.2.1 pc2 lls2 st2 w2) : W p l e R s m args below meth c H locs cells slots Q (F0 m pc ls (st.map (zVal ad))) := by
  unfold ztsw at hs
  split at hs
  · rename_i x t
    have hZ := Z.2.2.2.2.2.2.2.1
    have hx : zr x := zst_h hZ
    have ht := zst_t hZ
    split at hs
    · rename_i ho
      unfold zgoto at hs
      split at hs
      · rename_i q h
        cases hs
        exact lv_tableOut (x := Int32.ofInt x) CX.1 CX.2.1 hd (by rw [z_of hx]; exact ho) (zbr_some h) (zN1 Z hv hl ht kk)
      · cases hs
    · rename_i ho
      split at hs
      · rename_i off hof
        unfold zgoto at hs
        split at hs
        · rename_i q h
          cases hs
          exact lv_tableIn (x := Int32.ofInt x) CX.1 CX.2.1 hd (by rw [z_of hx]; exact fun z => ho (Or.inl z)) (by rw [z_of hx]; exact fun z => ho (Or.inr z)) (by rw [z_of hx]; exact hof) (zbr_some h) (zN1 Z hv hl ht kk)
        · cases hs
      · cases hs
  · cases hs
theorem zc_lsw {d : Int} {ps : Array (Int × Int)} (CX : zCx p s m args meth c mid) (hd : decode (zB mid) pc = .ok (.lookupswitch d ps, len)) (hs : zlsw d ps pc lls st w = some (pc2, lls2, st2, w2)) (Z : zAt X0 D dA A s ad lls st w H locs cells slots C1 S1) (hv : lv_has ls (zL mid) (zLv ad lls)) (hl : lls.length = zL mid)
    (kk : zNx p l e R s m args below meth c Q X0 D dA A mid C1 S1 ad w.2.2.1 pc2 lls2 st2 w2) : W p l e R s m args below meth c H locs cells slots Q (F0 m pc ls (st.map (zVal ad))) := by
  unfold zlsw at hs
  split at hs
  · rename_i x t
    have hZ := Z.2.2.2.2.2.2.2.1
    have hx : zr x := zst_h hZ
    have ht := zst_t hZ
    split at hs
    · rename_i ho
      unfold zgoto at hs
      split at hs
      · rename_i q h
        cases hs
        exact lv_lookup (x := Int32.ofInt x) CX.1 CX.2.1 hd ho (by rw [z_of hx]) (zbr_some h) (zN1 Z hv hl ht kk)
      · cases hs
    · cases hs
  · cases hs
theorem zc_dup (CX : zCx p s m args meth c mid) (hd : decode (zB mid) pc = .ok (.dup, 1)) (hs : zdup pc lls st w = some (pc2, lls2, st2, w2)) (Z : zAt X0 D dA A s ad lls st w H locs cells slots C1 S1) (hv : lv_has ls (zL mid) (zLv ad lls)) (hl : lls.length = zL mid)
    (kk : zNx p l e R s m args below meth c Q X0 D dA A mid C1 S1 ad w.2.2.1 pc2 lls2 st2 w2) : W p l e R s m args below meth c H locs cells slots Q (F0 m pc ls (st.map (zVal ad))) := by
  unfold zdup at hs
  split at hs
  · rename_i v t
    cases hs
    have hZ := Z.2.2.2.2.2.2.2.1
    exact lv_dup CX.1 CX.2.1 hd (zVal_cat _ _) (zN1 Z hv hl (zst_c (zst_h hZ) hZ) kk)
  · cases hs
theorem zc_dup2 (CX : zCx p s m args meth c mid) (hd : decode (zB mid) pc = .ok (.dup2, 1)) (hs : zdup2 pc lls st w = some (pc2, lls2, st2, w2)) (Z : zAt X0 D dA A s ad lls st w H locs cells slots C1 S1) (hv : lv_has ls (zL mid) (zLv ad lls)) (hl : lls.length = zL mid)
    (kk : zNx p l e R s m args below meth c Q X0 D dA A mid C1 S1 ad w.2.2.1 pc2 lls2 st2 w2) : W p l e R s m args below meth c H locs cells slots Q (F0 m pc ls (st.map (zVal ad))) := by
  unfold zdup2 at hs
  split at hs
  · rename_i v u t
    cases hs
    have hZ := Z.2.2.2.2.2.2.2.1
    exact lv_dup2_11 CX.1 CX.2.1 hd (zVal_cat _ _) (zVal_cat _ _) (zN1 Z hv hl (zst_c (zst_h hZ) (zst_c (zst_h (zst_t hZ)) hZ)) kk)
  · cases hs
theorem zc_pop (CX : zCx p s m args meth c mid) (hd : decode (zB mid) pc = .ok (.pop, 1)) (hs : zpop pc lls st w = some (pc2, lls2, st2, w2)) (Z : zAt X0 D dA A s ad lls st w H locs cells slots C1 S1) (hv : lv_has ls (zL mid) (zLv ad lls)) (hl : lls.length = zL mid)
    (kk : zNx p l e R s m args below meth c Q X0 D dA A mid C1 S1 ad w.2.2.1 pc2 lls2 st2 w2) : W p l e R s m args below meth c H locs cells slots Q (F0 m pc ls (st.map (zVal ad))) := by
  unfold zpop at hs
  split at hs
  · rename_i v t
    cases hs
    exact lv_pop CX.1 CX.2.1 hd (zVal_cat _ _) (zN1 Z hv hl (zst_t Z.2.2.2.2.2.2.2.1) kk)
  · cases hs
end Z6
