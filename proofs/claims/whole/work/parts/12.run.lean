-- calls, and the whole run
theorem zstep_n {mid pc : Nat} {ins : Instr} {lls : ZL} {st : List AV} {w : ZW} {pc2 : Nat} {lls2 : ZL} {st2 : List AV} {w2 : ZW} (h : zstep mid pc ins lls st w = some (pc2, lls2, st2, w2)) : w.2.2.1 ≤ w2.2.2.1 := by
  have K : ∀ {o : Option ZO}, o = some (pc2, lls2, st2, w2) → (∀ q, o = some q → w.2.2.1 ≤ q.2.2.2.2.2.1) → w.2.2.1 ≤ w2.2.2.1 := fun h1 h2 => h2 _ h1
  refine K h ?_
  clear h K pc2 lls2 st2 w2
  intro q h
  have P1 : ∀ {b : Bool} {len : Nat} {v : Int}, zpushI b len v pc lls st w = some q → w.2.2.1 ≤ q.2.2.2.2.2.1 := by
    intro b len v h; unfold zpushI at h; split at h <;> cases h; exact Nat.le_refl _
  have P2 : ∀ {g : Int → Int → Int}, zbin g pc lls st w = some q → w.2.2.1 ≤ q.2.2.2.2.2.1 := by
    intro g h; unfold zbin at h; split at h <;> cases h; exact Nat.le_refl _
  have P3 : ∀ {g : Int → Int → Int}, zdiv g pc lls st w = some q → w.2.2.1 ≤ q.2.2.2.2.2.1 := by
    intro g h; unfold zdiv at h; split at h
    · split at h <;> cases h; exact Nat.le_refl _
    · cases h
  have P4 : ∀ {t : List AV} {off : Int}, zgoto pc off lls t w = some q → w.2.2.1 ≤ q.2.2.2.2.2.1 := by
    intro t off h; unfold zgoto at h; split at h <;> cases h; exact Nat.le_refl _
  have P5 : ∀ {i len : Nat}, ziload i len pc lls st w = some q → w.2.2.1 ≤ q.2.2.2.2.2.1 := by
    intro i len h; unfold ziload at h; split at h <;> cases h; exact Nat.le_refl _
  have P6 : ∀ {i len : Nat}, zaload i len pc lls st w = some q → w.2.2.1 ≤ q.2.2.2.2.2.1 := by
    intro i len h; unfold zaload at h; split at h <;> cases h; exact Nat.le_refl _
  have P7 : ∀ {i len : Nat}, zistore i len pc lls st w = some q → w.2.2.1 ≤ q.2.2.2.2.2.1 := by
    intro i len h; unfold zistore at h; split at h
    · split at h <;> cases h; exact Nat.le_refl _
    · cases h
  have P8 : ∀ {i len : Nat}, zastore i len pc lls st w = some q → w.2.2.1 ≤ q.2.2.2.2.2.1 := by
    intro i len h; unfold zastore at h; split at h
    · split at h <;> cases h; exact Nat.le_refl _
    · cases h
  have P9 : ∀ {g : Int → Int}, zun g pc lls st w = some q → w.2.2.1 ≤ q.2.2.2.2.2.1 := by
    intro g h; unfold zun at h; split at h <;> cases h; exact Nat.le_refl _
  have P10 : ∀ {k : Nat}, zald k pc lls st w = some q → w.2.2.1 ≤ q.2.2.2.2.2.1 := by
    intro k h; unfold zald at h; split at h
    · split at h <;> cases h; exact Nat.le_refl _
    · cases h
  have P11 : ∀ {k : Nat} {g : Int → Int}, zast k g pc lls st w = some q → w.2.2.1 ≤ q.2.2.2.2.2.1 := by
    intro k g h; unfold zast at h; split at h
    · split at h <;> cases h; exact Nat.le_refl _
    · cases h
  cases ins with
  | iconst n => exact P1 h
  | bipush n => exact P1 h
  | sipush n => exact P1 h
  | ldc i =>
    have h1 : (match zK (zO mid) i with
      | some v => zpushI (zrb v) 2 v pc lls st w
      | none => if zSt (zO mid) i = true ∧ (w.2.2.2.1 zSx).1 = 4 then some (pc + 2, lls, .inr zSx :: st, w) else none) = some q := h
    split at h1
    · exact P1 h1
    · split at h1 <;> cases h1; exact Nat.le_refl _
  | ldc_w i =>
    have h1 : (match zK (zO mid) i with
      | some v => zpushI (zrb v) 3 v pc lls st w
      | none => none) = some q := h
    split at h1
    · exact P1 h1
    · cases h1
  | iload i => exact P5 h
  | iload_n i => exact P5 h
  | aload i => exact P6 h
  | aload_n i => exact P6 h
  | istore i => exact P7 h
  | istore_n i => exact P7 h
  | astore i => exact P8 h
  | astore_n i => exact P8 h
  | iinc i n =>
    have h1 : ziinc i n pc lls st w = some q := h
    unfold ziinc at h1; split at h1 <;> cases h1; exact Nat.le_refl _
  | iadd => exact P2 h
  | isub => exact P2 h
  | imul => exact P2 h
  | iand => exact P2 h
  | ior => exact P2 h
  | ishl => exact P2 h
  | ishr => exact P2 h
  | idiv => exact P3 h
  | irem => exact P3 h
  | i2b => exact P9 h
  | i2c => exact P9 h
  | goto off => exact P4 h
  | if_icmp cd off =>
    have h1 : zif2 cd off pc lls st w = some q := h
    unfold zif2 at h1; split at h1
    · split at h1 <;> cases h1; exact Nat.le_refl _
    · cases h1
  | ifCond cd off =>
    have h1 : zif1 cd off pc lls st w = some q := h
    unfold zif1 at h1; split at h1
    · split at h1 <;> cases h1; exact Nat.le_refl _
    · cases h1
  | tableswitch d lo hi offs =>
    have h1 : ztsw d lo hi offs pc lls st w = some q := h
    unfold ztsw at h1; split at h1
    · split at h1
      · exact P4 h1
      · split at h1
        · exact P4 h1
        · cases h1
    · cases h1
  | lookupswitch d ps =>
    have h1 : zlsw d ps pc lls st w = some q := h
    unfold zlsw at h1; split at h1
    · split at h1
      · exact P4 h1
      · cases h1
    · cases h1
  | getfield i =>
    have h1 : zget (zO mid) i pc lls st w = some q := h
    unfold zget at h1; split at h1
    · split at h1
      · split at h1
        · split at h1 <;> cases h1; exact Nat.le_refl _
        · cases h1; exact Nat.le_refl _
      · cases h1
    · cases h1
  | putfield i =>
    have h1 : zput mid i pc lls st w = some q := h
    unfold zput at h1; split at h1
    · split at h1
      · split at h1
        · cases h1; exact Nat.le_refl _
        · split at h1 <;> cases h1; exact Nat.le_refl _
        · cases h1; exact Nat.le_refl _
        · cases h1; exact Nat.le_refl _
        · cases h1
      · cases h1
    · cases h1
  | iaload => exact P10 h
  | baload => exact P10 h
  | aaload =>
    have h1 : zaldR pc lls st w = some q := h
    unfold zaldR at h1; split at h1
    · split at h1 <;> cases h1; exact Nat.le_refl _
    · cases h1
  | iastore => exact P11 h
  | bastore => exact P11 h
  | arraylength =>
    have h1 : zlen pc lls st w = some q := h
    unfold zlen at h1; split at h1
    · split at h1 <;> cases h1; exact Nat.le_refl _
    · cases h1
  | dup =>
    have h1 : zdup pc lls st w = some q := h
    unfold zdup at h1; split at h1 <;> cases h1; exact Nat.le_refl _
  | laload =>
    have h1 : zlal mid pc lls st w = some q := h
    unfold zlal at h1; split at h1
    · unfold zlr at h1; split at h1
      · split at h1 <;> cases h1; exact Nat.le_refl _
      · cases h1
    · split at h1
      · unfold zlw at h1; split at h1
        · split at h1 <;> cases h1; exact Nat.le_refl _
        · cases h1
      · cases h1
  | lconst n =>
    have h1 : (if n.val = 0 then zfil mid pc lls st w else none) = some q := h
    split at h1
    · unfold zfil at h1; split at h1
      · split at h1
        · split at h1 <;> cases h1; exact Nat.le_refl _
        · cases h1
      · cases h1
    · cases h1
  | dup2 =>
    have h1 : zdup2 pc lls st w = some q := h
    unfold zdup2 at h1; split at h1 <;> cases h1; exact Nat.le_refl _
  | pop =>
    have h1 : zpop pc lls st w = some q := h
    unfold zpop at h1; split at h1 <;> cases h1; exact Nat.le_refl _
  | new i =>
    have h1 : znew (zO mid) i pc lls st w = some q := h
    unfold znew at h1; split at h1
    · split at h1 <;> cases h1; exact Nat.le_succ _
    · cases h1
  | newarray t =>
    have h1 : znewa t pc lls st w = some q := h
    unfold znewa at h1; split at h1
    · split at h1
      · split at h1 <;> cases h1 <;> exact Nat.le_succ _
      · cases h1
    · cases h1
  | multianewarray i d =>
    have h1 : zmna (zO mid) i d pc lls st w = some q := h
    unfold zmna at h1; split at h1
    · rename_i k n s0
      split at h1
      · cases h1
        show w.2.2.1 ≤ w.2.2.1 + 1 + n.toNat
        omega
      · cases h1
    · cases h1
  | invokevirtual i =>
    have h1 : zjV (zO mid) i pc lls st w = some q := h
    unfold zjV at h1; split at h1
    · split at h1 <;> cases h1; exact Nat.le_refl _
    · split at h1 <;> cases h1; exact Nat.le_refl _
    · cases h1
  | invokestatic i =>
    have h1 : zjS (zO mid) i pc lls st w = some q := h
    unfold zjS at h1; split at h1
    · split at h1 <;> cases h1; exact Nat.le_refl _
    · split at h1 <;> cases h1; exact Nat.le_refl _
    · split at h1 <;> cases h1; exact Nat.le_refl _
    · split at h1 <;> cases h1; exact Nat.le_refl _
    · cases h1
  | invokespecial i =>
    have h1 : zjI (zO mid) i pc lls st w = some q := h
    unfold zjI at h1; split at h1
    · split at h1 <;> cases h1; exact Nat.le_refl _
    · cases h1
  | _ => cases h
theorem zrun_n : ∀ (f : Nat) {d mid pc : Nat} {lls : ZL} {st : List AV} {w w2 : ZW} {r : Option AV}, zrun f d mid pc lls st w = some (r, w2) → w.2.2.1 ≤ w2.2.2.1 := by
  intro f
  induction f with
  | zero => intro d mid pc ls st w w2 r h; simp [zrun] at h
  | succ f ih =>
    intro d mid pc ls st w w2 r h
    unfold zrun at h
    cases hd : decode (zB mid) pc with
    | error e => rw [hd] at h; cases h
    | ok q =>
      obtain ⟨ins, len⟩ := q
      rw [hd] at h
      dsimp only at h
      by_cases hlk : zlk ins len = false
      · rw [if_pos hlk] at h; cases h
      rw [if_neg hlk] at h
      cases hr : zret mid ins st with
      | some r1 => rw [hr] at h; cases h; exact Nat.le_refl _
      | none =>
        rw [hr] at h
        dsimp only at h
        cases hc : zcall mid ins st w with
        | some q =>
          obtain ⟨y, as, t⟩ := q
          rw [hc] at h
          dsimp only at h
          cases d with
          | zero => cases h
          | succ d =>
            dsimp only at h
            split at h
            · cases h1 : zrun f d y 0 (zloc y as) [] (zpurse w (zMc y)) with
              | none => rw [h1] at h; cases h
              | some r1 =>
                obtain ⟨r1, w1⟩ := r1
                rw [h1] at h
                exact Nat.le_trans (show (zpurse w (zMc y)).2.2.1 ≤ w1.2.2.1 from ih h1) (show (zpurse w1 (w.1 - (zMc y).1, w.2.1 - (zMc y).2)).2.2.1 ≤ w2.2.2.1 from ih h)
            · cases h
        | none =>
          rw [hc] at h
          dsimp only at h
          cases hs : zstep mid pc ins ls st w with
          | none => rw [hs] at h; cases h
          | some q =>
            obtain ⟨p2, l2, s2, w3⟩ := q
            rw [hs] at h
            exact Nat.le_trans (zstep_n hs) (ih h)
/-- what a method wants of the tables, its room, its start, its end -/
def zWs (y : Nat) : List Cond := zCw y :: zTbl
def zRm (d y : Nat) : Room := { frames := d + 6, cells := (zMc y).1, slots := (zMc y).2, locals := 40 * (d + 6) }
def zIn0 (X0 : (Nat × Nat) × (Nat → Int) × (Nat × Nat)) (D : va_G) (dA : Nat → ClassId) (ad : Nat → Nat) (w : ZW) (sz : Nat) (U : State) : Prop :=
  zOK w ∧ U.heap.size = sz ∧ va_P D vwCl (zWl dA w ad) U.heap ∧ va_K D vwCl (zTys dA) U ∧ va_D (fun _ => True) (zWl dA w ad) ∧ zX X0 ad (va_A (zWl dA w ad) sz) w U U.heap ∧ zG (ad zSx) U
def zEnd (X0 : (Nat × Nat) × (Nat → Int) × (Nat × Nat)) (D : va_G) (dA : Nat → ClassId) (A : Nat → Prop) (ad : Nat → Nat) (n : Nat) (r : Option AV) (w2 : ZW) (ad2 : Nat → Nat) (H : Heap) : Prop :=
  (∀ x, x ≤ n ∨ zSx ≤ x → ad2 x = ad x) ∧ zOK w2 ∧ va_P D vwCl (zWl dA w2 ad2) H ∧ va_D A (zWl dA w2 ad2) ∧ w2.2.2.2.1 zSc = X0.1 ∧ (∀ k, w2.2.2.2.2.2 zSc k = X0.2.1 k) ∧ w2.2.2.2.1 zSx = X0.2.2 ∧ ∀ v, r = some v → zOv w2.2.2.1 v
def zOut (X0 : (Nat × Nat) × (Nat → Int) × (Nat × Nat)) (D : va_G) (dA : Nat → ClassId) (A : Nat → Prop) (ad : Nat → Nat) (n : Nat) (r : Option AV) (w2 : ZW) : Array Value → State → Outcome → State → Prop :=
  fun _ st oc t => (∃ ad2, oc = .returned (r.map (zVal ad2)) ∧ zEnd X0 D dA A ad n r w2 ad2 t.heap) ∧ va_F A st t
def zCore (l : Launch) (f : Nat) : Prop :=
  ∀ (p : Program) (e : Env) (R : Room) (s : State) (m : MethodId) (args : Array Value) (below : List Frame) (meth : Method) (c : Code) (Q : State → Prop) (X0 : (Nat × Nat) × (Nat → Int) × (Nat × Nat)) (D : va_G) (dA : Nat → ClassId) (A : Nat → Prop) (mid d C1 S1 : Nat),
    zCx p s m args meth c mid → va_K D vwCl (zTys dA) s → (∀ q, s.heap.size ≤ q → A q) → d + 6 ≤ R.frames → 40 * (d + 6) ≤ R.locals → C1 ≤ R.cells → S1 ≤ R.slots →
    ∀ (pc : Nat) (lls : ZL) (st : List AV) (w : ZW) (r : Option AV) (w2 : ZW), zrun f d mid pc lls st w = some (r, w2) →
    ∀ (ad : Nat → Nat) (H : Heap) (locs : List Loc) (cells slots : Nat) (ls : Array Slot), zG (ad zSx) s → zAt X0 D dA A s ad lls st w H locs cells slots C1 S1 → lv_has ls (zL mid) (zLv ad lls) → lls.length = zL mid →
    (∀ (ad2 : Nat → Nat) (H2 : Heap) (locs2 : List Loc) (ls2 : Array Slot) (pc2 : Nat) (ins : Instr), zEnd X0 D dA A ad w.2.2.1 r w2 ad2 H2 → va_S A s.heap H2 locs2 → decode (zB mid) pc2 = .ok (ins, 1) → zret mid ins r.toList = some r → W p l e R s m args below meth c H2 locs2 C1 S1 Q (F0 m pc2 ls2 (r.toList.map (zVal ad2)))) →
    W p l e R s m args below meth c H locs cells slots Q (F0 m pc ls (st.map (zVal ad)))
theorem zret_st {mid : Nat} {ins : Instr} {st : List AV} {r : Option AV} (h : zret mid ins st = some r) : st = r.toList := by
  unfold zret at h
  split at h
  · cases h; rfl
  · split at h <;> cases h; rfl
  · cases h; rfl
  · cases h; rfl
  · cases h
theorem zret_len {mid : Nat} {ins : Instr} {st : List AV} {r : Option AV} (h : zret mid ins st = some r) {len : Nat} (hk : ¬ zlk ins len = false) : len = 1 := by
  unfold zret at h
  split at h
  · simpa [zlk] using hk
  · simpa [zlk] using hk
  · simpa [zlk] using hk
  · simpa [zlk] using hk
  · cases h
theorem zG_same {a : Nat} {u U : State} (h : U.vm = u.vm) (hG : zG a u) : zG a U := by
  refine ⟨fun q hq => va_Nw.same rfl h.symm (hG.1 q hq), ?_, fun q hq => vk_R.same h (hG.2.2 q hq)⟩
  have h1 := hG.2.1
  unfold zAOA at h1 ⊢
  simp only [Cond.before, Cond.holds, Cond.value, h] at h1 ⊢
  exact h1
theorem zX_same {X0 : (Nat × Nat) × (Nat → Int) × (Nat × Nat)} {ad : Nat → Nat} {A : Nat → Prop} {w : ZW} {u U : State} {H : Heap} (h : u.vm.Alike U.vm) (hX : zX X0 ad A w u H) : zX X0 ad A w U H := by
  obtain ⟨x1, x2, x3, x4, x5⟩ := hX
  refine ⟨x1, x2, x3, fun L hL => ⟨va_X.moved h (x4 L hL).1, (x4 L hL).2⟩, fun h4 => ?_⟩
  obtain ⟨aV, hS, hZ⟩ := x5 h4
  exact ⟨aV, vk_S.moved h hS, va_Z.moved h hZ⟩
theorem zXf_kept {X0 : (Nat × Nat) × (Nat → Int) × (Nat × Nat)} {ad : Nat → Nat} {A B : Nat → Prop} {u U : State} {H0 H : Heap} {locs : List Loc} (h : u.vm.Alike U.vm) (hS : va_S A H0 H locs) (hAB : ∀ q, B q → A q) (hX : zXf X0 ad A u H0) : zXf X0 ad B U H := by
  obtain ⟨x4, x5⟩ := hX
  refine ⟨fun L hL => ?_, fun h4 => ?_⟩
  · obtain ⟨a1, a2, a3⟩ := x4 L hL
    exact ⟨va_X.moved h (va_X.kept a1 (hS.2.1 _ a2 a3)), Nat.lt_of_lt_of_le a2 hS.1, fun q => a3 (hAB _ q)⟩
  · obtain ⟨aV, hV, hZ⟩ := x5 h4
    exact ⟨aV, vk_S.narrow (vk_S.moved h (vk_S.kept hV (fun a h1 h2 => hS.2.1 a h1 h2))) hAB, va_Z.narrow (va_Z.moved h (va_Z.kept hZ (fun a h1 h2 => hS.2.1 a h1 h2))) hAB⟩
theorem zAOA_alike {u U : State} (hvm : u.vm.Alike U.vm) (h : zAOA u) : zAOA U := by
  unfold zAOA Cond.before Cond.holds at h
  simp only [Cond.value, beq_iff_eq] at h
  cases hc : u.vm.findClass (FieldType.array .int).toString with
  | none => simp [hc] at h
  | some comp =>
    simp only [hc, Option.bind_some, Option.bind_eq_some_iff, Option.map_eq_some_iff] at h
    obtain ⟨c, hi, k, hk, hb⟩ := h
    obtain ⟨k', hk', he⟩ := hvm.2.2 _ _ hk
    have hi2 : (U.vm.classes.findIdx? fun (x : Class) => match x.kind with | .array component _ => component == comp | _ => false) = some c := by
      refine (va_idx_bare U.vm comp).symm.trans ?_
      first | rw [hvm.bare_eq] | rw [← hvm.bare_eq]
      exact (va_idx_bare u.vm comp).trans hi
    have f1 : U.vm.findClass (FieldType.array .int).toString = some comp := by rw [hvm.findClass]; exact hc
    unfold zAOA Cond.before Cond.holds
    simp only [Cond.value, beq_iff_eq]
    rw [f1, Option.bind_some]
    refine (congrArg (fun o : Option Nat => o.bind (fun c => (U.vm.classes[c]?).map fun (k : Class) => match k.kind with | .array _ ty => decide (ty = FieldType.array .int) && decide (U.vm.findClass ("[" ++ (FieldType.array .int).toString) = some c) | _ => false)) hi2).trans ?_
    rw [hvm.findClass]
    rw [Option.bind_some, hk', Option.map_some]
    have hkind : k'.kind = k.kind := by rw [he]
    rw [hkind]
    exact congrArg some hb
theorem zG_warm {a : Nat} {s U : State} (hW : s.WarmedH U.vm) (hG : zG a s) : zG a U := by
  refine ⟨fun q hq => va_Nw.warmM hW (hG.1 q hq), ?_, fun q hq => vk_R.warm hW (hG.2.2 q hq)⟩
  exact zAOA_alike hW.alike hG.2.1
