/-! THE CLAIM OUT OF ONE WALK OF THE LAW'S BODY. Your part is whole_start (and what it stands on); all else here is the same for every law, but numbers. -/
def R_law : String := "NineHolesLaw"
def lw_P (b : Addr) (xs : List Int32) (args : Array Value) (s : State) : Prop := args = #[.ref b] ∧ s.IntsAt b xs ∧ xs.length ≤ 3072 ∧ (Jvm.Cond.and given_1 narrow_1).before args s = true
def lw_Q (_ : Array Value) (s : State) (o : Outcome) (t : State) : Prop := o = .returned (some (.int 1)) ∧ Framed s o t [] 600000 7302250
def lw_Z (below : List Frame) (a : Array Value) (s : State) : State → Prop := fun t => ∃ o, t.status = .running ∧ Ended t below o ∧ lw_Q a s o t
/-- the law's own end, with 1 on the stack, nothing written that was there before, its room as the claim has it -/
theorem lw_ret {p : Program} {l : Launch} {e : Env} {s : State} {m : MethodId} {below : List Frame} {meth : Method} {c : Code} {b : Nat} (hx : p.tables.exec = Jvm.exec) (hb : c.code = code) (hr : meth.sig.returnType = ret) (hlocks : meth.locks = false) {pc : Nat} {H : Heap} {ls : Array Slot} (hdg : decode code pc = .ok (.ireturn, 1)) : W p l e room_1 s m #[Value.ref b] below meth c H [] 600000 7302250 (lw_Z below #[Value.ref b] s) (F0 m pc ls [.int 1]) := by
  intro T hT X
  obtain ⟨fs, hret, hrun, hended, hW, hframe⟩ := X.leave (v := some (.int 1)) (hlocks := hlocks) (fun h => by rw [hr] at h; cases h)
  have hmeth' : T.vm.method? m = some meth := X.method'
  refine ⟨T.setFrames fs, ?_, .returned (some (.int 1)), hrun, hended, rfl, ⟨_, rfl⟩, hW, hframe⟩
  jvm_step X.here [X.here.top, hx, hb, hdg, hmeth', hr, ret, narrow_b1]
  (try refine ⟨rfl, ?_⟩); (try refine ⟨rfl, ?_⟩)
  first | (intro acts; rw [hret _ acts rfl rfl rfl]) | rw [hret _ _ rfl rfl rfl]
  exact Steps.refl _
/-- what holds at the law's entry: the machine, the code, the tables' words (any of lw_tbl by 'hts w (by decide +kernel)'), the script of L ints xs at the cell b, what the Statement gives of the start (any of its parts by flat_of_before) -/
def lw_At (p : Program) (s : State) (m : MethodId) (meth : Method) (c : Code) (b L : Nat) (xs : Nat → Int32) : Prop :=
  p.tables.exec = Jvm.exec ∧ c.code = code ∧ meth.sig.returnType = ret ∧ c.maxLocals = 4 ∧ s.vm.findClass R_law = some m.cls ∧ (∀ w ∈ lw_tbl, w.before #[Value.ref b] s = true) ∧ va_X b L xs s s.heap ∧ b < s.heap.size ∧ meth.locks = false ∧ (Jvm.Cond.and given_1 narrow_1).before #[Value.ref b] s = true
-- from the law's entry: its walk is a run of the interpreter
theorem z_arr {args : Array Value} {s : State} {ty : FieldType} (h : (Cond.arrayClass ty).before args s = true) (hne : ∀ n, ty ≠ .object n) : ∃ cA : ClassId, ArrOfT s cA ty ∧ va_RA s cA ty := by
  obtain ⟨c, k, comp, h1, h2, h3⟩ := Cond.arrayClass_spec h
  refine ⟨c, fun n z => ⟨(fun q hq => by cases hq), k, h2, comp, h3⟩, ?_⟩
  unfold va_RA
  cases ty with
  | object n => exact absurd rfl (hne n)
  | _ => exact h1
theorem z_arr2 {args : Array Value} {s : State} (h : (Cond.arrayOver (.array .int)).before args s = true) : ∃ cA : ClassId, ArrOfT s cA (.array .int) ∧ va_RA s cA (.array .int) := by
  obtain ⟨comp, c, k, h0, h2, h3, h4⟩ := Cond.arrayOver_specA h
  exact ⟨c, fun n z => ⟨(fun q hq => by cases hq), k, h2, comp, h3⟩, h4⟩
def zsh0 (L : Nat) : ZS := fun a => if a = zSc then (3, L) else if a = zSx then (4, 8) else (9, 0)
def zw0 (L : Nat) (xs : Nat → Int) : ZW := (200, 80000, 0, zsh0 L, fun _ _ => 0, fun o k => if o = zSc then xs k else 0)
def zLaw (L : Nat) (xs : Nat → Int) : Prop := ∃ (f : Nat) (w2 : ZW), zrun f 1000 zNl 0 [some (.inr zSc), none, none, none] [] (zw0 L xs) = some (some (.inl 1), w2)
set_option maxHeartbeats 4000000 in
/-- the law's walk, if the interpreter's run of it comes to 1 -/
theorem z_start {p : Program} {e : Env} {s : State} {m : MethodId} {below : List Frame} {meth : Method} {c : Code} (l : Launch) {b L : Nat} {xs : Nat → Int32} (hL : L ≤ 3072) (hrun : zLaw L (fun k => (xs k).toInt)) (C0 : lw_At p s m meth c b L xs) : W p l e room_1 s m #[Value.ref b] below meth c s.heap [] 0 0 (lw_Z below #[Value.ref b] s) (entryFrame m ([Value.ref b] : List Value).toArray 4) := by
  obtain ⟨hx, hb, hr, hml, hown, hts, hX, hbl, hlocks, hgv⟩ := id C0
  obtain ⟨f, w2, hrun⟩ := hrun
  have hA : ∀ q : Nat, s.heap.size ≤ q → (fun q : Nat => s.heap.size ≤ q) q := fun _ h => h
  have hAn : ∀ a : Nat, a < s.heap.size → ¬ (fun q : Nat => s.heap.size ≤ q) a := fun a h => Nat.not_le.mpr h
  have hbA : ¬ (fun q : Nat => s.heap.size ≤ q) b := Nat.not_le.mpr hbl
  have hgv2 := flat_of_before _ hgv
  -- classes
  have hk0 : ∀ k : Nat, ∃ q : ClassId × (Nat → Nat), k < 13 → u_Kn s (zCn k) (zT k) (zNf k) q.1 q.2 := by
    intro k
    by_cases hk : k < 13
    · obtain ⟨c0, i0, h0⟩ := u_known (C := zCn k) (T := zT k) (N := zNf k) (n := zNf k) hts (z_lay hk) (hts _ (z_inst k (List.mem_range.mpr hk)))
      exact ⟨(c0, i0), fun _ => h0⟩
    · exact ⟨(0, fun _ => 0), fun h => absurd h hk⟩
  obtain ⟨dD, hdD⟩ := Classical.axiomOfChoice hk0
  obtain ⟨cI, hI1, hI2⟩ := z_arr (ty := .int) (hts _ (List.mem_of_getElem? (i := 157) (by decide +kernel))) (fun _ h => by cases h)
  obtain ⟨cB, hB1, hB2⟩ := z_arr (ty := .byte) (hts _ (List.mem_of_getElem? (i := 354) (by decide +kernel))) (fun _ h => by cases h)
  obtain ⟨cJ, hJ1, hJ2⟩ := z_arr (ty := .long) (hts _ (List.mem_of_getElem? (i := 491) (by decide +kernel))) (fun _ h => by cases h)
  have hover := hts (.arrayOver (.array .int)) (List.mem_of_getElem? (i := 411) (by decide +kernel))
  obtain ⟨cR, hR1, hR2⟩ := z_arr2 hover
  have hK : va_K (fun k => (dD k).1, fun k => (dD k).2) vwCl (zTys (fun k => if k = 0 then cI else if k = 1 then cB else if k = 2 then cR else cJ)) s := by
    refine ⟨fun k q hq => ?_, fun k q hq => ?_⟩
    · have hk : k < 13 := (List.getElem?_eq_some_iff.mp hq).1
      rw [z_cl hk] at hq
      cases hq
      exact hdD k hk
    · match k, hq with
      | 0, hq => cases hq; exact ⟨hI1, hI2⟩
      | 1, hq => cases hq; exact ⟨hB1, hB2⟩
      | 2, hq => cases hq; exact ⟨hR1, hR2⟩
      | 3, hq => cases hq; exact ⟨hJ1, hJ2⟩
      | k + 4, hq => simp [zTys] at hq
  -- the text
  obtain ⟨adK, adV, hV, hev⟩ := vk_Sof (N := 1) (tm := fun _ => .string "NineHoles$Sorter" 11) (len := [8]) (byt := [[115, 114, 119, 105, 112, 103, 111, 110]]) (A := fun q : Nat => s.heap.size ≤ q)
    (fun i hi => by rw [show i = 0 by omega]; decide)
    (fun i hi => hgv2 _ (by decide +kernel)) (fun i hi => hgv2 _ (by decide +kernel)) (fun i hi => hgv2 _ (by decide +kernel))
    (fun i hi => by rw [show i = 0 by omega]; exact hgv2 _ (by decide +kernel))
    (fun i hi j hj => by
      rw [show i = 0 by omega] at hj ⊢
      rcases (show j = 0 ∨ j = 1 ∨ j = 2 ∨ j = 3 ∨ j = 4 ∨ j = 5 ∨ j = 6 ∨ j = 7 by have : j < 8 := hj; omega) with rfl | rfl | rfl | rfl | rfl | rfl | rfl | rfl <;> exact hgv2 _ (by decide +kernel))
    (fun i j hi hj h => by omega) hAn
  have he1 := hev 0 (by omega)
  have hev2 : ∀ (o : String) (i : Nat), (Cond.eq (.string "NineHoles$Sorter" 11) (.string o i)).before #[Value.ref b] s = true → (Term.string o i).eval #[Value.ref b] s none [] s = some (.ref (adK 0)) := by
    intro o i h
    obtain ⟨y, h1, h2⟩ := Cond.eq_one h
    rw [he1] at h1
    cases h1
    exact h2
  have hZc := va_Zof (A := fun q : Nat => s.heap.size ≤ q) (hts (.laysStatic "java/lang/String" "COMPACT_STRINGS" "Z") (List.mem_of_getElem? (i := 319) (by decide +kernel))) (hts _ (List.mem_filter.mp j_ini_S).1) (va_eqt (hgv2 (.eq (.static "java/lang/String" "COMPACT_STRINGS" "Z") (.int 1)) (by decide +kernel))) hAn
  have had0 : ∃ ad : Nat → Nat, ad zSc = b ∧ ad zSx = adK 0 := ⟨fun a => if a = zSc then b else adK 0, if_pos rfl, if_neg (fun h => absurd h (show ¬ zSx = zSc from Nat.ne_of_lt (Nat.le_of_ble_eq_true rfl)))⟩
  obtain ⟨ad, hadc, hadx⟩ := had0
  have hG : zG (ad zSx) s := by
    rw [hadx]
    refine ⟨fun q hq => va_Nw.of rfl (hts _ (zMl_nest q hq)), hover, fun q hq => ?_⟩
    rcases (show q = (1, 41) ∨ q = (2, 102) ∨ q = (6, 11) by simpa using hq) with rfl | rfl | rfl
    · exact vk_R.of (A := #[Value.ref b]) (hts _ (List.mem_of_getElem? (i := 1089) (by decide +kernel))) (hev2 _ _ (hgv2 _ (by decide +kernel)))
    · exact vk_R.of (A := #[Value.ref b]) (hts _ (List.mem_of_getElem? (i := 630) (by decide +kernel))) (hev2 _ _ (hgv2 _ (by decide +kernel)))
    · exact vk_R.of (A := #[Value.ref b]) (hts _ (List.mem_of_getElem? (i := 309) (by decide +kernel))) he1
  have hS : va_S (fun q : Nat => s.heap.size ≤ q) s.heap s.heap [] := va_S.rf
  have hl := lv_entry ([.ref b]) (n := 4) (Nat.le_of_ble_eq_true rfl)
  rw [lg_entry_eq]
  generalize (lg_sl ([.ref b]) ++ List.replicate (4 - (lg_sl ([.ref b])).length) Slot.unset).toArray = ls at hl ⊢
  have hl2 : lv_has ls (zL zNl) (zLv ad [some (.inr zSc), none, none, none]) := by
    refine ⟨hl.1, hl.2.1, fun q hq => ?_⟩
    obtain ⟨i, V⟩ := q
    obtain ⟨v, hv, rfl⟩ := zLv_mem.mp hq
    match i, hv with
    | 0, hv =>
      cases hv
      refine hl.2.2 (0, .ref (ad zSc)) ?_
      rw [hadc]
      exact List.mem_cons_self
    | 1, hv => cases hv
    | 2, hv => cases hv
    | 3, hv => cases hv
    | i + 4, hv => simp at hv
  have CX : zCx p s m #[Value.ref b] meth c zNl := ⟨hx, hb, hml, hown, fun w hw => hts w (List.mem_filter.mp hw).1, fun h => absurd h (by decide), hr, hlocks⟩
  have hscv : zSc = 1000001 := rfl
  have hsxv : zSx = 1000000 := rfl
  have hshc : zsh0 L zSc = (3, L) := by unfold zsh0; rw [if_pos rfl]
  have hshx : zsh0 L zSx = (4, 8) := by unfold zsh0; rw [if_neg (show ¬ zSx = zSc from Nat.ne_of_lt (Nat.le_of_ble_eq_true rfl)), if_pos rfl]
  refine z_run_ok l f p e room_1 s m _ below meth c _ ((3, L), (fun k => (xs k).toInt), (4, 8)) _ _ (fun q : Nat => s.heap.size ≤ q) zNl 1000 200 80000 CX hK hA (Nat.le_of_ble_eq_true rfl) (Nat.le_of_ble_eq_true rfl) (Nat.le_of_ble_eq_true rfl) (Nat.le_of_ble_eq_true rfl) 0 [some (.inr zSc), none, none, none] [] (zw0 L (fun k => (xs k).toInt)) _ w2 hrun ad s.heap [] 0 0 ls hG ⟨?_, ?_, ?_, hS, ?_, Nat.zero_add _, Nat.zero_add _, fun v h => absurd h List.not_mem_nil, ?_⟩ hl2 rfl ?_
  · refine ⟨fun o k => ?_, fun o k => Or.inl rfl, fun o ho => ?_, fun o ho => ?_, fun o => ?_, show (0 : Nat) < zSx from Nat.le_of_ble_eq_true rfl, fun o ho => ?_⟩
    · show zr (if o = zSc then (xs k).toInt else 0)
      split
      · exact z_to _
      · exact zr_0
    · refine Or.inr ?_
      by_cases h1 : o = zSc
      · rw [h1]; exact Nat.le_of_ble_eq_true rfl
      · by_cases h2 : o = zSx
        · rw [h2]; exact Nat.le_refl _
        · exfalso
          apply ho
          show (zsh0 L o).1 = 9
          unfold zsh0
          rw [if_neg h1, if_neg h2]
    · show (zsh0 L o).1 = 3 ∨ (zsh0 L o).1 = 4 ∨ (zsh0 L o).1 = 9
      unfold zsh0
      split
      · exact Or.inl rfl
      · split
        · exact Or.inr (Or.inl rfl)
        · exact Or.inr (Or.inr rfl)
    · show (zsh0 L o).2 < 2 ^ 31
      unfold zsh0
      split
      · show L < 2 ^ 31; omega
      · split
        · decide
        · decide
    · have ho2 : (zsh0 L o).1 = 3 := ho
      unfold zsh0 at ho2
      split at ho2
      · assumption
      · split at ho2
        · cases ho2
        · cases ho2
  · exact fun k q h => by simp [zWl, zw0] at h
  · exact ⟨fun i j p q h => by simp [zWl, zw0] at h, fun k q h => by simp [zWl, zw0] at h⟩
  · refine ⟨hshc, fun k => ?_, hshx, fun L2 h2 => ?_, fun _ => ?_⟩
    · show (if zSc = zSc then (xs k).toInt else 0) = _
      rw [if_pos rfl]
    · cases h2
      rw [hadc]
      refine ⟨?_, hbl, hbA⟩
      have e9 : (fun k => Int32.ofInt ((xs k).toInt)) = xs := by funext k; exact z_oft _
      show va_X b L (fun k => Int32.ofInt ((xs k).toInt)) s s.heap
      rw [e9]
      exact hX
    · rw [hadx]
      refine ⟨adV 0, ?_, hZc⟩
      refine ⟨fun i hi => ?_, fun i j hi hj _ => by omega⟩
      have h1 := hV.1 i hi
      rw [show i = 0 by omega] at h1 ⊢
      exact h1
  · intro v h
    simp only [List.mem_cons, Option.some.injEq, List.not_mem_nil, or_false, reduceCtorEq] at h
    subst h
    exact Or.inr (Nat.le_of_ble_eq_true rfl : zSx ≤ zSc)
  · intro ad2 H2 locs2 ls2 pc2 ins hE hS2 hd hrt
    have hins : ins = .ireturn := by
      unfold zret at hrt
      split at hrt
      · rfl
      · rfl
      · rename_i e1 e2
        cases e1
      · rename_i e1 e2
        cases e1
      · cases hrt
    subst hins
    refine va_forget (fun q hq => hS2.2.2 q hq) ?_
    refine W.widen (k := 600000) (n := 7302250) (Nat.le_of_ble_eq_true rfl) (Nat.le_of_ble_eq_true rfl) ?_
    exact lw_ret hx hb hr hlocks hd
