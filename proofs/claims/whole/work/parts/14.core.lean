-- the run is the machine's, by induction on its length
theorem zroom1 {d x : Nat} (h : d + 1 + 6 ≤ x) : d + 6 + 1 ≤ x := by omega
theorem zroom2 {d L x : Nat} (h : L ≤ 20) (h2 : 40 * (d + 1 + 6) ≤ x) : 8 + (L + 11) + 40 * (d + 6) ≤ x := by omega
section Z14
variable {p : Program} {l : Launch} {e : Env} {R : Room} {s : State} {m : MethodId} {args : Array Value} {below : List Frame} {meth : Method} {c : Code} {H : Heap} {locs : List Loc} {cells slots C1 S1 : Nat} {Q : State → Prop}
variable {X0 : (Nat × Nat) × (Nat → Int) × (Nat × Nat)} {D : va_G} {dA : Nat → ClassId} {A : Nat → Prop} {mid pc : Nat} {lls : ZL} {st : List AV} {w : ZW} {ad : Nat → Nat} {ls : Array Slot}
theorem z_mlt {o i k y : Nat} (h : zM o i = some (k, y)) : y < zNm := by
  have h1 := List.all_eq_true.mp z_midlt _ (zM_mem h)
  simp only [Bool.and_eq_true, decide_eq_true_eq] at h1
  exact h1.1
theorem z_mnl {o i k y : Nat} (h : zM o i = some (k, y)) : y ≠ zNl := by
  have h1 := List.all_eq_true.mp z_midlt _ (zM_mem h)
  simp only [Bool.and_eq_true, Bool.not_eq_true', beq_eq_false_iff_ne] at h1
  exact h1.2
theorem z_goodWs {y : Nat} (hy : y < zNm) (hn : y ≠ zNl) : GoodIn zTbl (zWs y) := by
  intro w hw
  rcases List.mem_cons.mp hw with rfl | h
  · exact z_goodIn _ (z_in (z_code hy hn) rfl)
  · exact z_goodIn _ h
theorem zFB {av : List Value} {sz : Nat} {w0 : ZW} : FrameBlind (va_Pc av (zIn0 X0 D dA ad w0 sz)) := fun a U g mk q => ⟨q.1, zIn0_same rfl rfl q.2⟩
/-- behind a call -/
theorem zafter {f d : Nat} {y : Nat} {as t : List AV} {r1 : Option AV} {w1 : ZW} {r : Option AV} {w2 : ZW} (IH : zCore l f) (CX : zCx p s m args meth c mid) (hK : va_K D vwCl (zTys dA) s) (hG : zG (ad zSx) s) (hA : ∀ q, s.heap.size ≤ q → A q) (hF : d + 1 + 6 ≤ R.frames) (hLo : 40 * (d + 1 + 6) ≤ R.locals) (hC1 : C1 ≤ R.cells) (hS1 : S1 ≤ R.slots)
    (Z : zAt X0 D dA A s ad lls st w H locs cells slots C1 S1) (hv : lv_has ls (zL mid) (zLv ad lls)) (hl : lls.length = zL mid) (ht : ∀ v ∈ t, zOv w.2.2.1 v) (hm : (zMc y).1 ≤ w.1 ∧ (zMc y).2 ≤ w.2.1)
    (h1 : zrun f d y 0 (zloc y as) [] (zpurse w (zMc y)) = some (r1, w1)) (h2 : zrun f (d + 1) mid (pc + 3) lls (r1.toList ++ t) (zpurse w1 (w.1 - (zMc y).1, w.2.1 - (zMc y).2)) = some (r, w2))
    (hret : ∀ (ad2 : Nat → Nat) (H2 : Heap) (locs2 : List Loc) (ls2 : Array Slot) (pc2 : Nat) (ins : Instr), zEnd X0 D dA A ad w.2.2.1 r w2 ad2 H2 → va_S A s.heap H2 locs2 → decode (zB mid) pc2 = .ok (ins, 1) → zret mid ins r.toList = some r → W p l e R s m args below meth c H2 locs2 C1 S1 Q (F0 m pc2 ls2 (r.toList.map (zVal ad2))))
    {av : Array Value} (hr : va_Run p l e R s m args below meth c H locs cells slots (zMc y).1 (zMc y).2 (F0 m pc ls (st.map (zVal ad))) (t.map (zVal ad)) (zOut X0 D dA (va_A (zWl dA w ad) H.size) ad w.2.2.1 r1 w1 av) (va_A (zWl dA w ad) H.size)) :
    W p l e R s m args below meth c H locs cells slots Q (F0 m pc ls (st.map (zVal ad))) := by
  have hf := zfreeA Z hA
  have hn : w.2.2.1 ≤ w1.2.2.1 := show (zpurse w (zMc y)).2.2.1 ≤ w1.2.2.1 from zrun_n f h1
  obtain ⟨a1, a2, a3, a4, ⟨x1, x2, x3, x4⟩, c1, s1, -, l1⟩ := Z
  refine zcallW hr (fun v st₀ t0 L H1 h0 hL e1 hvm hq => ?_)
  obtain ⟨⟨ad2, hv2, had, b1, b2, b3, y1, y2, y3, yr⟩, hz, hk⟩ := hq
  cases hv2
  rw [e1] at b2
  rw [h0] at hz hk
  rw [e1] at hz hk
  have hst : (r1.map (zVal ad2)).toList ++ t.map (zVal ad) = (r1.toList ++ t).map (zVal ad2) := by
    rw [List.map_append, zSt_ad ht had]
    cases r1 <;> rfl
  rw [hst]
  have hsc := had zSc (Or.inr (by unfold zSx zSc; omega))
  have hsx := had zSx (Or.inr (Nat.le_refl _))
  refine IH p e R s m args below meth c Q X0 D dA A mid (d + 1) C1 S1 CX hK hA hF hLo hC1 hS1 (pc + 3) lls (r1.toList ++ t) _ r w2 h2 ad2 H1 (locs ++ L) (cells + (zMc y).1) (slots + (zMc y).2) ls (by rw [hsx]; exact hG) ⟨b1, b2, b3.weaken (fun k q _ h => hf q.1 h), ?_, ⟨y1, y2, y3, by unfold zXf; rw [hsc, hsx]; exact x4⟩, ?_, ?_, fun v hv => ?_, fun v hv => zOv_mono (l1 v hv) hn⟩ (by rw [zLv_ad l1 had]; exact hv) hl ?_
  · refine ⟨Nat.le_trans a4.1 hz, fun q g1 g2 => ?_, fun q hq => ?_⟩
    · rw [hk q (Nat.lt_of_lt_of_le g1 a4.1) (fun z => g2 (hf q z))]
      exact a4.2.1 q g1 g2
    · rcases List.mem_append.mp hq with h | h
      · exact a4.2.2 q h
      · exact hf _ (hL q h)
  · show cells + (zMc y).1 + (w.1 - (zMc y).1) = C1
    omega
  · show slots + (zMc y).2 + (w.2.1 - (zMc y).2) = S1
    omega
  · rcases List.mem_append.mp hv with h | h
    · cases r1 with
      | none => exact absurd h List.not_mem_nil
      | some u =>
        rcases List.mem_singleton.mp h with rfl
        exact yr _ rfl
    · exact zOv_mono (ht v h) hn
  · intro ad3 H3 locs3 ls3 pc3 ins hE
    obtain ⟨g1, g2⟩ := hE
    refine hret ad3 H3 locs3 ls3 pc3 ins ⟨fun x hx => ?_, g2⟩
    rw [g1 x ?_]
    · exact had x hx
    · rcases hx with h | h
      · exact Or.inl (Nat.le_trans h hn)
      · exact Or.inr h
set_option maxHeartbeats 4000000 in
theorem z_run {l : Launch} (J14 : zJ14 l) (J15 : zJ15 l) : ∀ f, zCore l f := by
  intro f
  induction f with
  | zero =>
    intro p e R s m args below meth c Q X0 D dA A mid d C1 S1 _ _ _ _ _ _ _ pc lls st w r w2 h
    simp [zrun] at h
  | succ f IH =>
    intro p e R s m args below meth c Q X0 D dA A mid d C1 S1 CX hK hA hF hLo hC1 hS1 pc lls st w r w2 h ad H locs cells slots ls hG Z hv hl hret
    unfold zrun at h
    cases hd : decode (zB mid) pc with
    | error e => rw [hd] at h; cases h
    | ok q =>
      obtain ⟨ins, len⟩ := q
      rw [hd] at h
      dsimp only at h
      by_cases hlk : zlk ins len = false
      · rw [if_pos hlk] at h; cases h
      rw [if_neg hlk] at h
      have hc1 := Z.2.2.2.2.2.1
      have hs1 := Z.2.2.2.2.2.2.1
      have hZ := Z.2.2.2.2.2.2.2.1
      cases hr : zret mid ins st with
      | some r1 =>
        rw [hr] at h
        cases h
        have h1 := zret_st hr
        have hlen := zret_len hr hlk
        subst hlen
        subst h1
        refine W.widen (k := C1) (n := S1) (by omega) (by omega) ?_
        obtain ⟨a1, a2, a3, a4, ⟨x1, x2, x3, x4⟩, -, -, -, -⟩ := Z
        refine hret ad H locs ls pc ins ⟨fun _ _ => rfl, a1, a2, a3, x1, x2, x3, fun v hv => ?_⟩ a4 hd hr
        subst hv
        exact hZ v List.mem_cons_self
      | none =>
        rw [hr] at h
        dsimp only at h
        cases hc : zcall mid ins st w with
        | some q =>
          obtain ⟨y, as, t⟩ := q
          rw [hc] at h
          dsimp only at h
          cases d with
          | zero => cases h
          | succ d =>
            dsimp only at h
            split at h
            · rename_i hb
              obtain ⟨hm1, hm2, hlen, h20⟩ := hb
              cases h1 : zrun f d y 0 (zloc y as) [] (zpurse w (zMc y)) with
              | none => rw [h1] at h; cases h
              | some q1 =>
                obtain ⟨r1, w1⟩ := q1
                rw [h1] at h
                dsimp only at h
                have hts := CX.2.2.2.2.1
                have T : ∀ w ∈ lw_tbl, goodWord w = true → w.before args s = true := fun w h g => hts w (z_in h g)
                have hRm : (zRm d y).frames + 1 ≤ R.frames ∧ 8 + (zL y + 11) + (zRm d y).locals ≤ R.locals := ⟨zroom1 hF, zroom2 h20 hLo⟩
                have hfr : cells + (zMc y).1 ≤ R.cells ∧ slots + (zMc y).2 ≤ R.slots := ⟨by omega, by omega⟩
                have hFix : CallFix p m c (zB mid) (zL mid) s args zTbl (zCn (zO mid)) := ⟨CX.1, CX.2.1, CX.2.2.1, CX.2.2.2.1, hts⟩
                have hL1 : ∀ k : Nat, ¬ (len == k) = false → len = k := fun k h => by simpa using h
                have hrev : ∀ as0 : List AV, (as0.reverse.map (zVal ad)).reverse = as0.map (zVal ad) := fun as0 => by rw [List.map_reverse, List.reverse_reverse]
                cases ins with
                | invokevirtual i =>
                  obtain rfl := hL1 3 hlk
                  have hc2 : (match zM (zO mid) i with
                    | some (0, y) => match st.drop (zA y) with
                      | .inr o :: t => if w.2.2.2.1 o = (10 + zO y, zNf (zO y)) ∧ t.length ≤ 8 ∧ zO y < 13 then some (y, .inr o :: (st.take (zA y)).reverse, t) else none
                      | _ => none
                    | _ => none) = some (y, as, t) := hc
                  split at hc2
                  · rename_i y0 hM
                    split at hc2
                    · rename_i o t0 hdr
                      split at hc2
                      · rename_i hb
                        obtain ⟨hsh, h8, h13⟩ := hb
                        cases hc2
                        have hy := z_mlt hM
                        have hyn := z_mnl hM
                        have hmem := zM_mem hM
                        obtain ⟨yk1, yk2, yk3, yk4, yk5⟩ := z_yk hy
                        have hst : st = st.take (zA y) ++ .inr o :: t := by rw [← hdr, List.take_append_drop]
                        have htk : (st.take (zA y)).length = zA y := by
                          rw [List.length_take]
                          have : (st.drop (zA y)).length = (.inr o :: t : List AV).length := by rw [hdr]
                          rw [List.length_drop, List.length_cons] at this
                          omega
                        have hsub : ∀ v ∈ (.inr o :: t : List AV), zOv w.2.2.1 v := fun v h => hZ v (by rw [hst]; exact List.mem_append_right _ h)
                        have has : ∀ v ∈ (.inr o :: (st.take (zA y)).reverse : List AV), zOv w.2.2.1 v := zst_c (zst_h hsub) (fun v h => hZ v (by rw [hst]; exact List.mem_append_left _ (List.mem_reverse.mp h)))
                        have hM2 := z_met IH hy h1 rfl rfl hlen has X0 D dA ad H.size
                        have hb := zOK_at Z.1 (o := o) (by rw [hsh]; show 10 + zO y ≠ 9; omega) (by rw [hsh]; show 10 + zO y ≠ 3; omega) (by rw [hsh]; show 10 + zO y ≠ 4; omega)
                        have hat := zWl_at (dA := dA) (ad := ad) hb.1 hb.2
                        rw [zCell_obj hsh] at hat
                        have hG2 : GoodIn zTbl (wsV (zCn (zO mid)) i (zY y).cls (zY y) (zWs y)) := by
                          intro w hw
                          rcases List.mem_append.mp hw with h | h
                          · rcases List.mem_cons.mp h with rfl | h
                            · exact z_goodIn _ (z_in (zMl_link (zO mid, i, 0, y) (List.mem_filter.mpr ⟨hmem, rfl⟩)) rfl)
                            · rcases List.mem_cons.mp h with rfl | h
                              · exact z_goodIn _ (z_in (zMl_inst (zO mid, i, 0, y) (List.mem_filter.mpr ⟨hmem, rfl⟩)) rfl)
                              · rcases List.mem_cons.mp h with rfl | h
                                · exact z_goodIn _ (z_in (zMl_sel (zO mid, i, 0, y) (List.mem_filter.mpr ⟨hmem, rfl⟩)) rfl)
                                · rcases List.mem_singleton.mp h with rfl
                                  exact z_goodIn _ (z_in (z_init y (List.mem_range.mpr hy)) rfl)
                          · exact z_goodWs hy hyn w h
                        have hcw : CallW R s args (zCn (zO mid)) (zY y).cls i (zY y) (zB y) (zL y) (zRt y) (zWs y) (zRm d y) (zMc y).1 (zMc y).2 (zA y) := cwV (zA y) hts hG2 rfl rfl rfl ⟨rfl, yk3, yk4, yk5⟩ hRm
                        have hrecv : ∃ cellB : Cell, H[ad o]? = some cellB ∧ cellB.vm.isStatics = false ∧ s.vm.findClass (zY y).cls = some cellB.cls := by
                          rw [yk2]
                          exact va_recv hK Z.2.1 (z_cl h13) hat
                        refine zafter IH CX hK hG hA hF hLo hC1 hS1 Z hv hl (zst_t hsub) ⟨hm1, hm2⟩ h1 h hret (va_runV (b := ad o) (As := (st.take (zA y)).reverse.map (zVal ad)) (rest := t.map (zVal ad)) hFix hM2 hcw ⟨zFB, hrecv, fun U hU hW => ⟨rfl, zcall_in hK hG hA Z _ hU hW⟩⟩ rfl (by rw [List.length_map, List.length_reverse]; exact htk) hv.1 ?_ (lv_room (zCat_sum h8)) hd hfr)
                        rw [hrev]
                        show st.map (zVal ad) = _
                        rw [show (Value.ref (ad o) :: t.map (zVal ad)) = (.inr o :: t : List AV).map (zVal ad) from rfl, ← List.map_append, ← hst]
                      · cases hc2
                    · cases hc2
                  · cases hc2
                | invokespecial i =>
                  obtain rfl := hL1 3 hlk
                  have hc2 : (match zM (zO mid) i with
                    | some (k, y) => if k = 2 ∨ k = 3 then (match st.drop (zA y) with
                      | .inr o :: t => if t.length ≤ 8 then some (y, .inr o :: (st.take (zA y)).reverse, t) else none
                      | _ => none) else none
                    | _ => none) = some (y, as, t) := hc
                  split at hc2
                  · rename_i k0 y0 hM
                    split at hc2
                    · rename_i hk23
                      split at hc2
                      · rename_i o t0 hdr
                        split at hc2
                        · rename_i h8
                          cases hc2
                          have hy := z_mlt hM
                          have hyn := z_mnl hM
                          have hmem := zM_mem hM
                          obtain ⟨yk1, yk2, yk3, yk4, yk5⟩ := z_yk hy
                          have hst : st = st.take (zA y) ++ .inr o :: t := by rw [← hdr, List.take_append_drop]
                          have htk : (st.take (zA y)).length = zA y := by
                            rw [List.length_take]
                            have : (st.drop (zA y)).length = (.inr o :: t : List AV).length := by rw [hdr]
                            rw [List.length_drop, List.length_cons] at this
                            omega
                          have hsub : ∀ v ∈ (.inr o :: t : List AV), zOv w.2.2.1 v := fun v h => hZ v (by rw [hst]; exact List.mem_append_right _ h)
                          have has : ∀ v ∈ (.inr o :: (st.take (zA y)).reverse : List AV), zOv w.2.2.1 v := zst_c (zst_h hsub) (fun v h => hZ v (by rw [hst]; exact List.mem_append_left _ (List.mem_reverse.mp h)))
                          have hM2 := z_met IH hy h1 rfl rfl hlen has X0 D dA ad H.size
                          have hini2 : (zY y).name = "<init>" ∧ zRt y = none := by
                            have h2 := List.all_eq_true.mp z_init2 _ hmem
                            rcases hk23 with rfl | rfl <;> simpa using h2
                          have hfin : (zIn y).before args s = true := T _ (z_init y (List.mem_range.mpr hy)) rfl
                          have hinst : (zIw (zO mid, i, k0, y)).before args s = true := T _ (zMl_inst (zO mid, i, k0, y) (List.mem_filter.mpr ⟨hmem, by rcases hk23 with rfl | rfl <;> rfl⟩)) rfl
                          have hstk : (F0 m pc ls (st.map (zVal ad))).stack = ((st.take (zA y)).reverse.map (zVal ad)).reverse ++ .ref (ad o) :: t.map (zVal ad) := by
                            rw [hrev]
                            show st.map (zVal ad) = _
                            rw [show (Value.ref (ad o) :: t.map (zVal ad)) = (.inr o :: t : List AV).map (zVal ad) from rfl, ← List.map_append, ← hst]
                          have hpre : PreS s H (va_Pc ((.inr o :: (st.take (zA y)).reverse : List AV).map (zVal ad)) (zIn0 X0 D dA ad (zpurse w (zMc y)) H.size)) (Value.ref (ad o) :: (st.take (zA y)).reverse.map (zVal ad)) := ⟨zFB, fun U hU hW => ⟨rfl, zcall_in hK hG hA Z _ hU hW⟩⟩
                          have hcd : zWs y = Cond.code (zY y) (zB y) (zL y) none :: zTbl := by
                            unfold zWs zCw
                            rw [hini2.2]
                          rcases hk23 with rfl | rfl
                          · have hlink : (zMw (zO mid, i, 2, y)).before args s = true := T _ (zMl_link (zO mid, i, 2, y) (List.mem_filter.mpr ⟨hmem, rfl⟩)) rfl
                            exact zafter IH CX hK hG hA hF hLo hC1 hS1 Z hv hl (zst_t hsub) ⟨hm1, hm2⟩ h1 h hret (va_runI (b := ad o) (As := (st.take (zA y)).reverse.map (zVal ad)) (rest := t.map (zVal ad)) hFix hM2 (cwI (zA y) hts (z_goodWs hy hyn) hcd rfl rfl hfin hlink hinst hini2.1 ⟨yk3, yk4, yk5⟩ hRm) hpre rfl (by rw [List.length_map, List.length_reverse]; exact htk) hv.1 hstk (lv_room (zCat_sum h8)) hd hfr)
                          · have hlink : va_Nw (.methodLinkNest (zCn (zO mid)) i (zY y) "NineHoles") s := hG.1 (zO mid, i, 3, y) (List.mem_filter.mpr ⟨hmem, rfl⟩)
                            exact zafter IH CX hK hG hA hF hLo hC1 hS1 Z hv hl (zst_t hsub) ⟨hm1, hm2⟩ h1 h hret (va_runIN (b := ad o) (As := (st.take (zA y)).reverse.map (zVal ad)) (rest := t.map (zVal ad)) hFix hM2 ⟨va_cnB (zA y) hts (z_goodWs hy hyn) hcd rfl rfl hlink hfin ⟨yk3, yk4, yk5⟩ hRm, hini2.1, hinst⟩ hpre rfl (by rw [List.length_map, List.length_reverse]; exact htk) hv.1 hstk (lv_room (zCat_sum h8)) hd hfr)
                        · cases hc2
                      · cases hc2
                    · cases hc2
                  · cases hc2
                | invokestatic i =>
                  obtain rfl := hL1 3 hlk
                  have hc2 : (match zM (zO mid) i with
                    | some (4, y) => if zA y ≤ st.length ∧ (st.drop (zA y)).length ≤ 8 then some (y, (st.take (zA y)).reverse, st.drop (zA y)) else none
                    | _ => none) = some (y, as, t) := hc
                  split at hc2
                  · rename_i y0 hM
                    split at hc2
                    · rename_i hb
                      obtain ⟨hle, h8⟩ := hb
                      cases hc2
                      have hy := z_mlt hM
                      have hyn := z_mnl hM
                      have hmem := zM_mem hM
                      obtain ⟨yk1, yk2, yk3, yk4, yk5⟩ := z_yk hy
                      have htk : (st.take (zA y)).length = zA y := by
                        rw [List.length_take]
                        omega
                      have has : ∀ v ∈ (st.take (zA y)).reverse, zOv w.2.2.1 v := fun v h => hZ v (List.mem_of_mem_take (List.mem_reverse.mp h))
                      have hM2 := z_met IH hy h1 rfl rfl hlen has X0 D dA ad H.size
                      have hfin : (zIn y).before args s = true := T _ (z_init y (List.mem_range.mpr hy)) rfl
                      have hstat : (zSw (zO mid, i, 4, y)).before args s = true := T _ (zMl_stat (zO mid, i, 4, y) (List.mem_filter.mpr ⟨hmem, rfl⟩)) rfl
                      have hlink : (zMw (zO mid, i, 4, y)).before args s = true := T _ (zMl_link (zO mid, i, 4, y) (List.mem_filter.mpr ⟨hmem, rfl⟩)) rfl
                      have hcb : CallB R s args (zCn (zO mid)) i (zY y) (zB y) (zL y) (zRt y) (zWs y) (zRm d y) (zMc y).1 (zMc y).2 (zA y) := callB_of (zA y) hts (z_goodWs hy hyn) rfl rfl rfl hfin hlink ⟨yk3, yk4, yk5⟩ hRm
                      have ht : ∀ v ∈ st.drop (zA y), zOv w.2.2.1 v := fun v h => hZ v (List.mem_of_mem_drop h)
                      refine zafter IH CX hK hG hA hF hLo hC1 hS1 Z hv hl ht ⟨hm1, hm2⟩ h1 h hret (va_runS (As := (st.take (zA y)).reverse.map (zVal ad)) (rest := (st.drop (zA y)).map (zVal ad)) hFix hM2 ⟨hcb, hstat⟩ ⟨zFB, fun U hU hW => ⟨rfl, zcall_in hK hG hA Z _ hU hW⟩⟩ rfl (by rw [List.length_map, List.length_reverse]; exact htk) hv.1 ?_ (lv_room (zCat_sum h8)) hd hfr)
                      rw [hrev]
                      show st.map (zVal ad) = _
                      rw [← List.map_append, List.take_append_drop]
                    · cases hc2
                  · cases hc2
                | _ => cases hc
            · cases h
        | none =>
          rw [hc] at h
          dsimp only at h
          cases hs : zstep mid pc ins lls st w with
          | none => rw [hs] at h; cases h
          | some q =>
            obtain ⟨p2, l2, s2, w3⟩ := q
            rw [hs] at h
            dsimp only at h
            refine z_step J14 J15 CX hK hG hA ⟨by omega, by omega⟩ hC1 hS1 hd hlk hs Z hv hl ?_
            intro ad2 H2 locs2 cells2 slots2 ls2 had Z2 hv2 hl2
            have hn := zstep_n hs
            have hsx := had zSx (Or.inr (Nat.le_refl _))
            refine IH p e R s m args below meth c Q X0 D dA A mid d C1 S1 CX hK hA hF hLo hC1 hS1 p2 l2 s2 w3 r w2 h ad2 H2 locs2 cells2 slots2 ls2 (by rw [hsx]; exact hG) Z2 hv2 hl2 ?_
            intro ad3 H3 locs3 ls3 pc3 ins3 hE
            obtain ⟨g1, g2⟩ := hE
            refine hret ad3 H3 locs3 ls3 pc3 ins3 ⟨fun x hx => ?_, g2⟩
            rw [g1 x ?_]
            · exact had x hx
            · rcases hx with h | h
              · exact Or.inl (Nat.le_trans h hn)
              · exact Or.inr h
end Z14
