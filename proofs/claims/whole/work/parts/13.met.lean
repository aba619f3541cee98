-- a method's contract out of the run; and the run by induction
theorem zIn0_same {X0 : (Nat × Nat) × (Nat → Int) × (Nat × Nat)} {D : va_G} {dA : Nat → ClassId} {ad : Nat → Nat} {w : ZW} {sz : Nat} {u U : State} (hh : U.heap = u.heap) (hv : U.vm = u.vm) (h : zIn0 X0 D dA ad w sz u) : zIn0 X0 D dA ad w sz U := by
  obtain ⟨a1, a2, a3, a4, a5, a6, a7⟩ := h
  have hal : u.vm.Alike U.vm := by rw [hv]; exact Vm.Alike.refl u.vm
  refine ⟨a1, by rw [hh]; exact a2, by rw [hh]; exact a3, va_K.moved hal a4, a5, ?_, zG_same hv a7⟩
  rw [hh]
  exact zX_same hal a6
theorem z_args {ad : Nat → Nat} : ∀ (as : List AV) (k : Nat) (i : Nat) (v : AV), as[i]? = some v → (k + i, zVal ad v) ∈ lv_args k (as.map (zVal ad)) := by
  intro as
  induction as with
  | nil => intro k i v h; simp at h
  | cons a as ih =>
    intro k i v h
    rw [List.map_cons]
    show _ ∈ (k, zVal ad a) :: lv_args (if (zVal ad a).category = 2 then k + 2 else k + 1) (as.map (zVal ad))
    rw [zVal_cat, if_neg (by omega)]
    cases i with
    | zero =>
      rw [List.getElem?_cons_zero] at h
      cases h
      exact List.mem_cons_self
    | succ i =>
      rw [List.getElem?_cons_succ] at h
      have := ih (k + 1) i v h
      rw [show k + 1 + i = k + (i + 1) by omega] at this
      exact List.mem_cons_of_mem _ this
theorem z_slen {ad : Nat → Nat} : ∀ (as : List AV), (lg_sl (as.map (zVal ad))).length = as.length := by
  intro as
  induction as with
  | nil => rfl
  | cons a as ih =>
    have e : lg_sl ((a :: as).map (zVal ad)) = [Slot.val (zVal ad a)] ++ lg_sl (as.map (zVal ad)) := by
      show (if (zVal ad a).category = 2 then [Slot.val (zVal ad a), .second] else [Slot.val (zVal ad a)]) ++ lg_sl (as.map (zVal ad)) = _
      rw [zVal_cat, if_neg (by omega)]
    rw [e, List.length_append, ih, List.length_cons]
    show 1 + as.length = as.length + 1
    omega
theorem z_loc {ad : Nat → Nat} {y : Nat} {as : List AV} {ls : Array Slot} (h : lv_has ls (zL y) (lv_args 0 (as.map (zVal ad)))) : lv_has ls (zL y) (zLv ad (zloc y as)) := by
  refine ⟨h.1, h.2.1, fun q hq => h.2.2 q ?_⟩
  obtain ⟨i, V⟩ := q
  obtain ⟨v, hv, rfl⟩ := zLv_mem.mp hq
  unfold zloc at hv
  by_cases hi : i < as.length
  · rw [List.getElem?_append_left (by rw [List.length_map]; exact hi), List.getElem?_map] at hv
    cases ha : as[i]? with
    | none => rw [ha] at hv; cases hv
    | some u =>
      rw [ha] at hv
      cases hv
      have := z_args (ad := ad) as 0 i v ha
      rwa [Nat.zero_add] at this
  · rw [List.getElem?_append_right (by rw [List.length_map]; omega)] at hv
    have h1 := List.mem_of_getElem? hv
    have h2 := List.eq_of_mem_replicate h1
    cases h2
theorem zloc_len {y : Nat} {as : List AV} (h : as.length ≤ zL y) : (zloc y as).length = zL y := by
  unfold zloc
  rw [List.length_append, List.length_map, List.length_replicate]
  omega
theorem z_yk {y : Nat} (h : y < zNm) : plainName (zY y).cls = true ∧ (zY y).cls = zCn (zO y) ∧ (zY y).cls ≠ "java/lang/invoke/MethodHandle" ∧ (zY y).cls ≠ "java/lang/invoke/VarHandle" ∧ (parseMethodDescriptor (zY y).desc).map (fun d => d.parameters.length) = some (zA y) := by
  have h1 := List.all_eq_true.mp z_y y (List.mem_range.mpr h)
  unfold zYk at h1
  simp only [Bool.and_eq_true, decide_eq_true_eq] at h1
  exact ⟨h1.1.1.1.1, h1.1.1.1.2, h1.1.1.2, h1.1.2, h1.2⟩
set_option maxHeartbeats 4000000 in
theorem z_met {l : Launch} {f : Nat} (IH : zCore l f) {d y : Nat} (hy : y < zNm) {as : List AV} {w : ZW} {r : Option AV} {w2 : ZW} (hrun : zrun f d y 0 (zloc y as) [] w = some (r, w2)) (hm1 : w.1 = (zMc y).1) (hm2 : w.2.1 = (zMc y).2) (hlen : as.length ≤ zL y) (hov : ∀ v ∈ as, zOv w.2.2.1 v)
    (X0 : (Nat × Nat) × (Nat → Int) × (Nat × Nat)) (D : va_G) (dA : Nat → ClassId) (ad : Nat → Nat) (sz : Nat) :
    Met l (zY y) (zWs y) (zRm d y) (va_Pc (as.map (zVal ad)) (zIn0 X0 D dA ad w sz)) (zOut X0 D dA (va_A (zWl dA w ad) sz) ad w.2.2.1 r w2) (zMc y).1 (zMc y).2 (va_A (zWl dA w ad) sz) := by
  obtain ⟨yk1, yk2, -, -, -⟩ := z_yk hy
  refine Met.ofW (cc := zB y) (maxL := zL y) (ret := zRt y) yk1 rfl ?_
  intro p e s m args below meth c s₁ B hml hv
  obtain ⟨rfl, hok, hsz, hP, hK, hD0, hX, hG⟩ := hv
  subst hsz
  have hts0 := atoms_spec (ws := zWs y) B.pre
  have hts : ∀ w ∈ zTbl, w.before (as.map (zVal ad)).toArray s = true := fun w hw => hts0 w (List.mem_cons_of_mem _ hw)
  have hown : s.vm.findClass (zCn (zO y)) = some m.cls := by rw [← yk2]; exact findClass_of_methodNamed B.named
  have hnm : meth.name = (zY y).name := (name_of_methodNamed B.named B.method).1
  have CX : zCx p s m (as.map (zVal ad)).toArray meth c y := ⟨B.exec, B.bytes, hml, hown, hts, fun h => hnm.trans h, B.returns, B.notSynchronized⟩
  have hD := hD0.self (sz := s.heap.size)
  have hl := lv_entry (as.map (zVal ad)) (n := zL y) (by rw [z_slen]; exact hlen)
  rw [lg_entry_eq]
  generalize (lg_sl (as.map (zVal ad)) ++ List.replicate (zL y - (lg_sl (as.map (zVal ad))).length) Slot.unset).toArray = ls at hl ⊢
  refine IH p e _ s m _ below meth c _ X0 D dA (va_A (zWl dA w ad) s.heap.size) y d (zMc y).1 (zMc y).2 CX hK (fun q h => Or.inr h) (Nat.le_refl _) (Nat.le_refl _) (Nat.le_refl _) (Nat.le_refl _) 0 (zloc y as) [] w r w2 hrun ad s.heap [] 0 0 ls hG ⟨hok, hP, hD, va_S.rf, hX, by omega, by omega, fun v h => absurd h List.not_mem_nil, fun v h => ?_⟩ (z_loc hl) (zloc_len hlen) ?_
  · unfold zloc at h
    rcases List.mem_append.mp h with h | h
    · obtain ⟨u, hu, e⟩ := List.mem_map.mp h
      cases e
      exact hov v hu
    · cases List.eq_of_mem_replicate h
  · intro ad2 H2 locs2 ls2 pc2 ins hE hS hd hr
    have hq : ∀ (v : Option Value), v = r.map (zVal ad2) → ∀ t : State, t.heap = H2 → s.WarmedH t.vm → zOut X0 D dA (va_A (zWl dA w ad) s.heap.size) ad w.2.2.1 r w2 (as.map (zVal ad)).toArray s (.returned v) t := by
      intro v hv t ht hW
      exact ⟨⟨ad2, by rw [hv], by rw [ht]; exact hE⟩, hS.F ht⟩
    have hloc := hS.2.2
    have hlk := B.notSynchronized
    have hrt := B.returns
    cases r with
    | none =>
      have h1 : ins = .return_ ∧ zRt y = none := by
        unfold zret at hr
        split at hr
        · cases hr
        · split at hr <;> cases hr
        · cases hr
        · rename_i _ h0; exact ⟨rfl, h0⟩
        · cases hr
      obtain ⟨rfl, h0⟩ := h1
      exact W.vret CX.1 CX.2.1 (hrt.trans h0) (hq none rfl) hloc hd
    | some v =>
      cases v with
      | inl x =>
        have h1 : ins = .ireturn ∧ (zRt y = some .int ∨ (zRt y = some .boolean ∧ (x = 0 ∨ x = 1))) := by
          unfold zret at hr
          split at hr
          · rename_i h0 e1 e2
            cases e1
            exact ⟨rfl, Or.inl e2⟩
          · rename_i h0 e1 e2
            cases e1
            split at hr
            · rename_i h9
              exact ⟨rfl, Or.inr ⟨e2, h9⟩⟩
            · cases hr
          · rename_i e1 e2
            cases e1
          · rename_i e1 e2
            cases e1
          · cases hr
        obtain ⟨rfl, h0⟩ := h1
        rcases h0 with h0 | ⟨h0, h01⟩
        · exact W.iret (v := Int32.ofInt x) CX.1 CX.2.1 (hrt.trans h0) (hq _ rfl) hloc hd
        · refine W.zret (v := Int32.ofInt x) (ty := .boolean) CX.1 CX.2.1 (hrt.trans h0) ?_ (hq _ rfl) hloc hd
          rcases h01 with rfl | rfl <;> rfl
      | inr x =>
        have h1 : ins = .areturn ∧ ∃ nm, zRt y = some (.object nm) := by
          unfold zret at hr
          split at hr
          · rename_i h0 e1 e2
            cases e1
          · rename_i h0 e1 e2
            cases e1
          · rename_i e1 e2
            exact ⟨rfl, _, e2⟩
          · rename_i e1 e2
            cases e1
          · cases hr
        obtain ⟨rfl, nm, h0⟩ := h1
        exact W.aret (v := .ref (ad2 x)) CX.1 CX.2.1 (hrt.trans h0) (Or.inl ⟨nm, rfl⟩) (Or.inr ⟨_, rfl⟩) (hq _ rfl) hloc hd
section Z13
variable {p : Program} {l : Launch} {e : Env} {R : Room} {s : State} {m : MethodId} {args : Array Value} {below : List Frame} {meth : Method} {c : Code} {H : Heap} {locs : List Loc} {cells slots C1 S1 mc ms : Nat} {Q : State → Prop}
theorem zcallW {pc : Nat} {ls : Array Slot} {st0 rest : List Value} {Qa : State → Outcome → State → Prop} {free : Addr → Prop} (hr : va_Run p l e R s m args below meth c H locs cells slots mc ms (F0 m pc ls st0) rest Qa free)
    (kk : ∀ (v : Option Value) (st₀ t : State) (L : List Loc) (H1 : Heap), st₀.heap = H → (∀ q ∈ L, free q.base) → t.heap = H1 → s.vm.Alike t.vm → Qa st₀ (.returned v) t → W p l e R s m args below meth c H1 (locs ++ L) (cells + mc) (slots + ms) Q (F0 m (pc + 3) ls (v.toList ++ rest))) : W p l e R s m args below meth c H locs cells slots Q (F0 m pc ls st0) := by
  intro T hT X
  obtain ⟨v, st₀, t, T', L, h0, X', hL, e1, e2, hq, st⟩ := hr T hT X
  obtain ⟨t2, a1, b1⟩ := kk v st₀ t L T'.heap h0 hL e1.symm (by rw [← e2]; exact X'.warmed.alike) hq T' rfl X'
  exact ⟨t2, st t2 a1, b1⟩
variable {X0 : (Nat × Nat) × (Nat → Int) × (Nat × Nat)} {D : va_G} {dA : Nat → ClassId} {A : Nat → Prop} {mid pc : Nat} {lls : ZL} {st : List AV} {w : ZW} {ad : Nat → Nat} {ls : Array Slot}
theorem zWl_purse {q : Nat × Nat} : zWl dA (zpurse w q) ad = zWl dA w ad := rfl
theorem zfreeA (Z : zAt X0 D dA A s ad lls st w H locs cells slots C1 S1) (hA : ∀ q, s.heap.size ≤ q → A q) : ∀ q, va_A (zWl dA w ad) H.size q → A q := by
  intro q h
  rcases h with ⟨k, e, h⟩ | h
  · exact Z.2.2.1.2 k (q, e) h
  · exact hA q (Nat.le_trans Z.2.2.2.1.1 h)
/-- a call's start, in the caller's own words -/
theorem zcall_in (hK : va_K D vwCl (zTys dA) s) (hG : zG (ad zSx) s) (hA : ∀ q, s.heap.size ≤ q → A q) (Z : zAt X0 D dA A s ad lls st w H locs cells slots C1 S1) (q : Nat × Nat) {U : State} (hU : U.heap = H) (hW : s.WarmedH U.vm) : zIn0 X0 D dA ad (zpurse w q) H.size U := by
  have hf := zfreeA Z hA
  obtain ⟨a1, a2, a3, a4, ⟨x1, x2, x3, x4⟩, -, -, -, -⟩ := Z
  refine ⟨a1, by rw [hU], by rw [hU]; exact a2, va_K.moved hW.alike hK, a3.weaken (fun _ _ _ _ => trivial), ⟨x1, x2, x3, ?_⟩, zG_warm hW hG⟩
  rw [hU]
  exact zXf_kept hW.alike a4 hf x4
end Z13
