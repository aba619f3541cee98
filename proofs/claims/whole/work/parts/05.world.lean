-- the world's cells, and what holds of them
def zVal (ad : Nat → Nat) : AV → Value
  | .inl i => .int (Int32.ofInt i)
  | .inr r => .ref (ad r)
def zOv (n : Nat) : AV → Prop
  | .inl i => zr i
  | .inr r => (1 ≤ r ∧ r ≤ n) ∨ zSx ≤ r
def zOK (w : ZW) : Prop := (∀ o k, zr (w.2.2.2.2.2 o k)) ∧ (∀ o k, w.2.2.2.2.1 o k = 0 ∨ zOv w.2.2.1 (.inr (w.2.2.2.2.1 o k))) ∧ (∀ o, (w.2.2.2.1 o).1 ≠ 9 → (1 ≤ o ∧ o ≤ w.2.2.1) ∨ zSx ≤ o) ∧ (∀ o, zSx ≤ o → (w.2.2.2.1 o).1 = 3 ∨ (w.2.2.2.1 o).1 = 4 ∨ (w.2.2.2.1 o).1 = 9) ∧ (∀ o, (w.2.2.2.1 o).2 < 2 ^ 31) ∧ w.2.2.1 < zSx ∧ (∀ o, (w.2.2.2.1 o).1 = 3 → o = zSc)
def zFv (ci : Nat) (R : ZR) (I : ZI) (ad : Nat → Nat) (o k : Nat) : Value := if zIsR (zTy ci k) then (if R o k = 0 then .null else .ref (ad (R o k))) else .int (Int32.ofInt (I o k))
def zCell (dA : Nat → ClassId) (w : ZW) (ad : Nat → Nat) (o : Nat) : va_E :=
  if (w.2.2.2.1 o).1 = 0 then .inl (dA 0, (w.2.2.2.1 o).2, .inl (fun k => Int32.ofInt (w.2.2.2.2.2 o k)))
  else if (w.2.2.2.1 o).1 = 1 then .inl (dA 1, (w.2.2.2.1 o).2, .inl (fun k => Int32.ofInt (w.2.2.2.2.2 o k)))
  else if (w.2.2.2.1 o).1 = 2 then .inl (dA 2, (w.2.2.2.1 o).2, .inr (.inr (.inr (.inr (fun k => if w.2.2.2.2.1 o k = 0 then none else some (ad (w.2.2.2.2.1 o k)))))))
  else if (w.2.2.2.1 o).1 = 5 then .inl (dA 3, (w.2.2.2.1 o).2, .inr (.inl (fun k => zLg (fun j => w.2.2.2.2.2 o (16 * k + j)))))
  else .inr ((w.2.2.2.1 o).1 - 10, (List.range (w.2.2.2.1 o).2).map (fun k => zFv ((w.2.2.2.1 o).1 - 10) w.2.2.2.2.1 w.2.2.2.2.2 ad o k))
def zWl (dA : Nat → ClassId) (w : ZW) (ad : Nat → Nat) : va_W := (List.range w.2.2.1).map (fun i => (ad (i + 1), zCell dA w ad (i + 1)))
def zTys (dA : Nat → ClassId) : List (ClassId × FieldType) := [(dA 0, .int), (dA 1, .byte), (dA 2, .array .int), (dA 3, .long)]
/-- the text, which nobody changes -/
def zTx (a : Nat) (A : Nat → Prop) (s : State) (H : Heap) : Prop := ∃ aV : Nat, vk_S 1 [8] [[115, 114, 119, 105, 112, 103, 111, 110]] (fun _ => a) (fun _ => aV) A s H ∧ va_Z "java/lang/String" "COMPACT_STRINGS" "Z" (.int 1) A s H
/-- the script and the text: X0 is what the world says of them, from the start on -/
def zXf (X0 : (Nat × Nat) × (Nat → Int) × (Nat × Nat)) (ad : Nat → Nat) (A : Nat → Prop) (s : State) (H : Heap) : Prop :=
  (∀ L, X0.1 = (3, L) → va_X (ad zSc) L (fun k => Int32.ofInt (X0.2.1 k)) s H ∧ ad zSc < H.size ∧ ¬ A (ad zSc)) ∧ (X0.2.2.1 = 4 → zTx (ad zSx) A s H)
def zX (X0 : (Nat × Nat) × (Nat → Int) × (Nat × Nat)) (ad : Nat → Nat) (A : Nat → Prop) (w : ZW) (s : State) (H : Heap) : Prop :=
  w.2.2.2.1 zSc = X0.1 ∧ (∀ k, w.2.2.2.2.2 zSc k = X0.2.1 k) ∧ w.2.2.2.1 zSx = X0.2.2 ∧ zXf X0 ad A s H
/-- what the tables say beside the words -/
def zAOA (U : State) : Prop := (Cond.arrayOver (.array .int)).before #[] U = true
def zG (a : Nat) (U : State) : Prop := (∀ q ∈ zMl.filter (fun q => q.2.2.1 == 3), va_Nw (zMwN q) U) ∧ zAOA U ∧ ∀ q ∈ zSl, vk_R (zCn q.1) q.2 "srwipgon" a U
def zLv (ad : Nat → Nat) (lls : ZL) : List (Nat × Value) := (List.range lls.length).filterMap (fun i => match lls[i]? with
  | some (some v) => some (i, zVal ad v)
  | _ => none)
theorem zVal_cat (ad : Nat → Nat) (v : AV) : (zVal ad v).category = 1 := by cases v <;> rfl
theorem zLv_mem {ad : Nat → Nat} {lls : ZL} {i : Nat} {V : Value} : (i, V) ∈ zLv ad lls ↔ ∃ v, lls[i]? = some (some v) ∧ V = zVal ad v := by
  unfold zLv
  rw [List.mem_filterMap]
  constructor
  · rintro ⟨j, -, h⟩
    split at h
    · rename_i v hv
      cases h
      exact ⟨v, hv, rfl⟩
    · cases h
  · rintro ⟨v, hv, rfl⟩
    refine ⟨i, List.mem_range.mpr (List.getElem?_eq_some_iff.mp hv).1, ?_⟩
    rw [hv]
theorem zLv_at {ls : Array Slot} {nL i : Nat} {ad : Nat → Nat} {lls : ZL} {v : AV} (h : lv_has ls nL (zLv ad lls)) (hv : lls[i]? = some (some v)) : ls[i]? = some (.val (zVal ad v)) := h.2.2 (i, zVal ad v) (zLv_mem.mpr ⟨v, hv, rfl⟩)
theorem zLv_store {ls : Array Slot} {nL i : Nat} {ad : Nat → Nat} {lls : ZL} {v : AV} (h : lv_has ls nL ((i, zVal ad v) :: (zLv ad lls).filter (fun q => !(q.1 == i) && !(q.1 + 1 == i && q.2.category == 2)))) : lv_has ls nL (zLv ad (lls.set i (some v))) := by
  refine ⟨h.1, h.2.1, fun q hq => h.2.2 q ?_⟩
  obtain ⟨j, V⟩ := q
  obtain ⟨u, hu, rfl⟩ := zLv_mem.mp hq
  by_cases hij : i = j
  · subst hij
    have hl : i < lls.length := by
      have := (List.getElem?_eq_some_iff.mp hu).1
      rwa [List.length_set] at this
    rw [List.getElem?_set_self hl] at hu
    cases hu
    exact List.mem_cons_self
  · rw [List.getElem?_set_ne hij] at hu
    refine List.mem_cons_of_mem _ (List.mem_filter.mpr ⟨zLv_mem.mpr ⟨u, hu, rfl⟩, ?_⟩)
    have h1 : (j == i) = false := by simp; omega
    simp [h1, zVal_cat]
theorem zLv_ad {ad ad2 : Nat → Nat} {lls : ZL} {n : Nat} (hv : ∀ v, some v ∈ lls → zOv n v) (had : ∀ r, r ≤ n ∨ zSx ≤ r → ad2 r = ad r) : zLv ad2 lls = zLv ad lls := by
  unfold zLv
  congr 1
  funext i
  cases h : lls[i]? with
  | none => rfl
  | some o =>
    cases o with
    | none => rfl
    | some v =>
      have h1 := hv v (List.mem_of_getElem? h)
      cases v with
      | inl x => rfl
      | inr r =>
        have h2 : r ≤ n ∨ zSx ≤ r := by
          rcases h1 with h1 | h1
          · exact Or.inl h1.2
          · exact Or.inr h1
        show some (i, Value.ref (ad2 r)) = some (i, Value.ref (ad r))
        rw [had r h2]
theorem zVal_ad {ad ad2 : Nat → Nat} {v : AV} {n : Nat} (hv : zOv n v) (had : ∀ r, r ≤ n ∨ zSx ≤ r → ad2 r = ad r) : zVal ad2 v = zVal ad v := by
  cases v with
  | inl x => rfl
  | inr r =>
    show Value.ref (ad2 r) = Value.ref (ad r)
    rw [had r (by rcases hv with h | h; exact Or.inl h.2; exact Or.inr h)]
theorem zSt_ad {ad ad2 : Nat → Nat} {st : List AV} {n : Nat} (hv : ∀ v ∈ st, zOv n v) (had : ∀ r, r ≤ n ∨ zSx ≤ r → ad2 r = ad r) : st.map (zVal ad2) = st.map (zVal ad) := List.map_congr_left fun v h => zVal_ad (hv v h) had
theorem zOv_mono {n n2 : Nat} {v : AV} (h : zOv n v) (hn : n ≤ n2) : zOv n2 v := by
  cases v with
  | inl x => exact h
  | inr r =>
    rcases h with h | h
    · exact Or.inl ⟨h.1, by omega⟩
    · exact Or.inr h
/-- what holds at every row of a walk -/
def zAt (X0 : (Nat × Nat) × (Nat → Int) × (Nat × Nat)) (D : va_G) (dA : Nat → ClassId) (A : Nat → Prop) (s : State) (ad : Nat → Nat) (lls : ZL) (st : List AV) (w : ZW) (H : Heap) (locs : List Loc) (cells slots C1 S1 : Nat) : Prop :=
  zOK w ∧ va_P D vwCl (zWl dA w ad) H ∧ va_D A (zWl dA w ad) ∧ va_S A s.heap H locs ∧ zX X0 ad A w s s.heap ∧ cells + w.1 = C1 ∧ slots + w.2.1 = S1 ∧ (∀ v ∈ st, zOv w.2.2.1 v) ∧ (∀ v, some v ∈ lls → zOv w.2.2.1 v)
def zCx (p : Program) (s : State) (m : MethodId) (args : Array Value) (meth : Method) (c : Code) (mid : Nat) : Prop :=
  p.tables.exec = Jvm.exec ∧ c.code = zB mid ∧ c.maxLocals = zL mid ∧ s.vm.findClass (zCn (zO mid)) = some m.cls ∧ (∀ w ∈ zTbl, w.before args s = true) ∧ ((zY mid).name = "<init>" → meth.name = "<init>") ∧ meth.sig.returnType = zRt mid ∧ meth.locks = false
/-- a place of the world, and its cell -/
theorem zWl_at {dA : Nat → ClassId} {w : ZW} {ad : Nat → Nat} {o : Nat} (h1 : 1 ≤ o) (h2 : o ≤ w.2.2.1) : (zWl dA w ad)[o - 1]? = some (ad o, zCell dA w ad o) := by
  unfold zWl
  rw [List.getElem?_map, List.getElem?_range (by omega)]
  show some (ad (o - 1 + 1), zCell dA w ad (o - 1 + 1)) = _
  rw [show o - 1 + 1 = o by omega]
theorem zWl_set {dA : Nat → ClassId} {w w2 : ZW} {ad : Nat → Nat} {o : Nat} {e : va_E} (h1 : 1 ≤ o) (hn : w2.2.2.1 = w.2.2.1) (he : zCell dA w2 ad o = e) (ho : ∀ a, a ≠ o → zCell dA w2 ad a = zCell dA w ad a) : (zWl dA w ad).set (o - 1) (ad o, e) = zWl dA w2 ad := by
  apply List.ext_getElem?
  intro i
  unfold zWl
  rw [hn]
  by_cases hi : i < w.2.2.1
  · by_cases hio : o - 1 = i
    · subst hio
      rw [List.getElem?_set_self (by rw [List.length_map, List.length_range]; exact hi), List.getElem?_map, List.getElem?_range hi]
      show _ = some (ad (o - 1 + 1), zCell dA w2 ad (o - 1 + 1))
      rw [show o - 1 + 1 = o by omega, he]
    · rw [List.getElem?_set_ne hio, List.getElem?_map, List.getElem?_map, List.getElem?_range hi]
      show some (ad (i + 1), zCell dA w ad (i + 1)) = some (ad (i + 1), zCell dA w2 ad (i + 1))
      rw [ho (i + 1) (by omega)]
  · rw [List.getElem?_eq_none (by rw [List.length_set, List.length_map, List.length_range]; omega), List.getElem?_eq_none (by rw [List.length_map, List.length_range]; omega)]
theorem zOK_at {w : ZW} (h : zOK w) {o : Nat} (hk : (w.2.2.2.1 o).1 ≠ 9) (h3 : (w.2.2.2.1 o).1 ≠ 3) (h4 : (w.2.2.2.1 o).1 ≠ 4) : 1 ≤ o ∧ o ≤ w.2.2.1 := by
  rcases h.2.2.1 o hk with h1 | h1
  · exact h1
  · rcases h.2.2.2.1 o h1 with h2 | h2 | h2
    · exact absurd h2 h3
    · exact absurd h2 h4
    · exact absurd h2 hk
