-- EACH ROW OF THE INTERPRETER IS THE MACHINE'S: longs
theorem dJ7_fill_d0a16_0 : decode cJ7_fill_d0a16 0 = .ok (.iconst 0, 1) := by decide +kernel
theorem dJ7_fill_d0a16_1 : decode cJ7_fill_d0a16 1 = .ok (.istore_n 3, 1) := by decide +kernel
theorem dJ7_fill_d0a16_2 : decode cJ7_fill_d0a16 2 = .ok (.aload_n 0, 1) := by decide +kernel
theorem dJ7_fill_d0a16_3 : decode cJ7_fill_d0a16 3 = .ok (.arraylength, 1) := by decide +kernel
theorem dJ7_fill_d0a16_4 : decode cJ7_fill_d0a16 4 = .ok (.istore 4, 2) := by decide +kernel
theorem dJ7_fill_d0a16_6 : decode cJ7_fill_d0a16 6 = .ok (.iload_n 3, 1) := by decide +kernel
theorem dJ7_fill_d0a16_7 : decode cJ7_fill_d0a16 7 = .ok (.iload 4, 2) := by decide +kernel
theorem dJ7_fill_d0a16_9 : decode cJ7_fill_d0a16 9 = .ok (.if_icmp .ge 13, 3) := by decide +kernel
theorem dJ7_fill_d0a16_12 : decode cJ7_fill_d0a16 12 = .ok (.aload_n 0, 1) := by decide +kernel
theorem dJ7_fill_d0a16_13 : decode cJ7_fill_d0a16 13 = .ok (.iload_n 3, 1) := by decide +kernel
theorem dJ7_fill_d0a16_14 : decode cJ7_fill_d0a16 14 = .ok (.lload_n 1, 1) := by decide +kernel
theorem dJ7_fill_d0a16_15 : decode cJ7_fill_d0a16 15 = .ok (.lastore, 1) := by decide +kernel
theorem dJ7_fill_d0a16_16 : decode cJ7_fill_d0a16 16 = .ok (.iinc 3 1, 3) := by decide +kernel
theorem dJ7_fill_d0a16_19 : decode cJ7_fill_d0a16 19 = .ok (.goto (-13), 3) := by decide +kernel
theorem dJ7_fill_d0a16_22 : decode cJ7_fill_d0a16 22 = .ok (.return_, 1) := by decide +kernel
def jfWs : List Cond := [.code yJ7_fill_d0a16 cJ7_fill_d0a16 5 none]
def jfRm : Room := { frames := 1, cells := 0, slots := 0, locals := 40 }
def jfF (f : Nat → Int64) (j : Nat) : Nat → Int64 := fun k => if k < j then 0 else f k
def jfPre (D : va_G) (cl : List vw_C) (tys : List (ClassId × FieldType)) (ws : va_W) (sz : Nat) (U : State) : Prop := U.heap.size = sz ∧ va_P D cl ws U.heap ∧ va_K D cl tys U ∧ va_D (fun _ => True) ws
def jfPost (D : va_G) (cl : List vw_C) (A : Nat → Prop) (w1 : va_W) : Array Value → State → Outcome → State → Prop := fun _ st oc t => oc = .returned none ∧ va_P D cl w1 t.heap ∧ va_D A w1 ∧ va_F A st t
theorem jfF_0 (f : Nat → Int64) : jfF f 0 = f := by
  funext k
  unfold jfF
  rw [if_neg (Nat.not_lt_zero k)]
theorem jfF_s (f : Nat → Int64) (j : Nat) : vp_updL (jfF f j) j 0 = jfF f (j + 1) := by
  funext k
  unfold vp_updL jfF
  by_cases h : k = j
  · rw [if_pos h, if_pos (by omega)]
  · rw [if_neg h]
    by_cases h2 : k < j
    · rw [if_pos h2, if_pos (by omega)]
    · rw [if_neg h2, if_neg (by omega)]
set_option maxHeartbeats 4000000 in
theorem j_fill (l : Launch) {D : va_G} {cl : List vw_C} {tys : List (ClassId × FieldType)} {ws : va_W} {sz q a n : Nat} {cA : ClassId} {f : Nat → Int64} (t0 : Nat) (hat : ws[q]? = some (a, .inl (cA, n, .inr (.inl f)))) (ht : tys[t0]? = some (cA, .long)) (hn : n < 2 ^ 31) :
    Met l yJ7_fill_d0a16 jfWs jfRm (va_Pc [.ref a, .long 0] (jfPre D cl tys ws sz)) (jfPost D cl (va_A ws sz) (ws.set q (a, .inl (cA, n, .inr (.inl (jfF f n)))))) 0 0 (va_A ws sz) := by
  refine Met.ofW (cc := cJ7_fill_d0a16) (maxL := 5) (ret := none) (by decide) rfl ?_
  intro p e s m args below meth c s₁ B hml hv
  obtain ⟨rfl, hsz, hP, hK, hD0⟩ := hv
  subst hsz
  have hx := B.exec
  have hb := B.bytes
  have hr := B.returns
  have hlocks := B.notSynchronized
  have hD := hD0.self (sz := s.heap.size)
  have hS : va_S (va_A ws s.heap.size) s.heap s.heap [] := va_S.rf
  have hql : q < ws.length := (List.getElem?_eq_some_iff.mp hat).1
  have hl := lv_entry ([.ref a, .long 0]) (n := 5) (Nat.le_of_ble_eq_true rfl)
  rw [lg_entry_eq]
  generalize (lg_sl ([.ref a, .long 0]) ++ List.replicate (5 - (lg_sl ([.ref a, .long 0])).length) Slot.unset).toArray = ls at hl ⊢
  have hl : lv_has ls 5 [(0, .ref a), (1, .long 0)] := hl
  have loop : ∀ (r j : Nat), j + r = n → ∀ (H : Heap) (locs : List Loc) (ls : Array Slot), va_P D cl (ws.set q (a, .inl (cA, n, .inr (.inl (jfF f j))))) H → va_D (va_A ws s.heap.size) (ws.set q (a, .inl (cA, n, .inr (.inl (jfF f j))))) → va_S (va_A ws s.heap.size) s.heap H locs → lv_has ls 5 [(3, .int (Int32.ofInt (j : Int))), (4, .int (Int32.ofInt (n : Int))), (0, .ref a), (1, .long 0)] →
      W p l e jfRm s m [.ref a, .long 0].toArray below meth c H locs 0 0 (MQ below (jfPost D cl (va_A ws s.heap.size) (ws.set q (a, .inl (cA, n, .inr (.inl (jfF f n)))))) [.ref a, .long 0].toArray s 0 0 (va_A ws s.heap.size)) (F0 m 6 ls []) := by
    intro r
    induction r with
    | zero =>
      intro j hj H locs ls hP hD hS hl
      obtain rfl : j = n := by omega
      refine lv_iload_n hx hb dJ7_fill_d0a16_6 rfl (lv_at hl 0 rfl) ?_
      refine lv_iload hx hb dJ7_fill_d0a16_7 (lv_at hl 1 rfl) ?_
      refine lv_icmp_ge (tgt := 22) hx hb dJ7_fill_d0a16_9 (by decide) (fun _ => ?_) (fun h => ?_)
      · exact W.vret hx hb hr (fun t ht2 hW => ⟨rfl, by rw [ht2]; exact hP, hD, hS.F ht2⟩) hS.2.2 dJ7_fill_d0a16_22
      · exact absurd ((z_le (by unfold zr; omega) (by unfold zr; omega)).mpr (Int.le_refl _)) h
    | succ r ih =>
      intro j hj H locs ls hP hD hS hl
      have hjr : zr (j : Int) := by unfold zr; omega
      refine lv_iload_n hx hb dJ7_fill_d0a16_6 rfl (lv_at hl 0 rfl) ?_
      refine lv_iload hx hb dJ7_fill_d0a16_7 (lv_at hl 1 rfl) ?_
      refine lv_icmp_ge (tgt := 22) hx hb dJ7_fill_d0a16_9 (by decide) (fun h => ?_) (fun _ => ?_)
      · have h2 := (z_le (a := (n : Int)) (b := (j : Int)) (by unfold zr; omega) hjr).mp h
        omega
      · refine lv_aload_n hx hb dJ7_fill_d0a16_12 rfl (lv_at hl 2 rfl) ?_
        refine lv_iload_n hx hb dJ7_fill_d0a16_13 rfl (lv_at hl 0 rfl) ?_
        refine lv_lload_n hx hb dJ7_fill_d0a16_14 rfl (lv_at hl 3 rfl) ?_
        have hcl : (Int32.ofInt (j : Int)).toNatClampNeg = j := by rw [z_clamp hjr]; omega
        refine va_last (D := D) hx hb hK hP hD hS q t0 (List.getElem?_set_self hql) ht (i := Int32.ofInt (j : Int)) (x := 0) (z_vin hjr (by omega) (by omega)) dJ7_fill_d0a16_15 (fun H1 locs1 hP1 hD1 hS1 => ?_)
        rw [hcl, jfF_s, List.set_set] at hP1 hD1
        refine lv_iinc hx hb dJ7_fill_d0a16_16 hl (k := 0) rfl (v := Int32.ofInt ((j + 1 : Nat) : Int)) ?_ (by omega) rfl (fun ls2 hl2 => ?_)
        · rw [z_add, zw_id (by unfold zr; omega)]
          rfl
        · refine lv_goto (tgt := 6) hx hb dJ7_fill_d0a16_19 (by decide) ?_
          exact ih (j + 1) (by omega) H1 locs1 ls2 hP1 hD1 hS1 hl2
  refine lv_iconst hx hb dJ7_fill_d0a16_0 (v := 0) rfl ?_
  refine lv_istore_n hx hb dJ7_fill_d0a16_1 rfl hl (by omega) rfl (fun ls1 hl1 => ?_)
  refine lv_aload_n hx hb dJ7_fill_d0a16_2 rfl (lv_at hl1 1 rfl) ?_
  refine va_alen (D := D) hx hb hK hP q t0 hat ht (v := Int32.ofInt (n : Int)) Int32.ofInt_eq_ofNat.symm dJ7_fill_d0a16_3 ?_
  refine lv_istore hx hb dJ7_fill_d0a16_4 hl1 (by omega) rfl (fun ls2 hl2 => ?_)
  have e0 : ws.set q (a, .inl (cA, n, .inr (.inl (jfF f 0)))) = ws := by
    rw [jfF_0]
    apply List.ext_getElem?
    intro i
    by_cases h : q = i
    · subst h; rw [List.getElem?_set_self hql, hat]
    · rw [List.getElem?_set_ne h]
  exact loop n 0 (by omega) s.heap [] ls2 (by rw [e0]; exact hP) (by rw [e0]; exact hD) hS (lv_sub hl2 [1, 0, 2, 3] rfl)
section Z10b
variable {p : Program} {l : Launch} {e : Env} {R : Room} {s : State} {m : MethodId} {args : Array Value} {below : List Frame} {meth : Method} {c : Code} {H : Heap} {locs : List Loc} {cells slots C1 S1 mc ms : Nat} {Q : State → Prop}
theorem jfcallW {pc : Nat} {ls : Array Slot} {st0 rest : List Value} {Qa : State → Outcome → State → Prop} {free : Addr → Prop} (hr : va_Run p l e R s m args below meth c H locs cells slots mc ms (F0 m pc ls st0) rest Qa free)
    (kk : ∀ (v : Option Value) (st₀ t : State) (L : List Loc) (H1 : Heap), st₀.heap = H → (∀ q ∈ L, free q.base) → t.heap = H1 → Qa st₀ (.returned v) t → W p l e R s m args below meth c H1 (locs ++ L) (cells + mc) (slots + ms) Q (F0 m (pc + 3) ls (v.toList ++ rest))) : W p l e R s m args below meth c H locs cells slots Q (F0 m pc ls st0) := by
  intro T hT X
  obtain ⟨v, st₀, t, T', L, h0, X', hL, e1, e2, hq, st⟩ := hr T hT X
  obtain ⟨t2, a1, b1⟩ := kk v st₀ t L T'.heap h0 hL e1.symm hq T' rfl X'
  exact ⟨t2, st t2 a1, b1⟩
variable {X0 : (Nat × Nat) × (Nat → Int) × (Nat × Nat)} {D : va_G} {dA : Nat → ClassId} {A : Nat → Prop} {mid pc pc2 len : Nat} {lls lls2 : ZL} {st st2 : List AV} {w w2 : ZW} {ad : Nat → Nat} {ls : Array Slot}
theorem zc_lr {i : Nat} (CX : zCx p s m args meth c mid) (hK : va_K D vwCl (zTys dA) s) (hd : decode (zB mid) pc = .ok (.laload, 1)) (hN : zldN mid pc = some i) (hs : zlr i pc lls st w = some (pc2, lls2, st2, w2)) (Z : zAt X0 D dA A s ad lls st w H locs cells slots C1 S1) (hv : lv_has ls (zL mid) (zLv ad lls)) (hl : lls.length = zL mid)
    (kk : zNx p l e R s m args below meth c Q X0 D dA A mid C1 S1 ad w.2.2.1 pc2 lls2 st2 w2) : W p l e R s m args below meth c H locs cells slots Q (F0 m pc ls (st.map (zVal ad))) := by
  unfold zldN at hN
  split at hN
  · rename_i i0 n0 d1 d2 d3 d4 d5
    split at hN
    · rename_i h15
      cases hN
      subst h15
      unfold zlr at hs
      split at hs
      · rename_i j r t x hxi
        split at hs
        · rename_i hc
          obtain ⟨hk5, h0, h1, hx0, hx1, hx4⟩ := hc
          cases hs
          have hZ := Z.2.2.2.2.2.2.2.1
          have hj : zr j := zst_h hZ
          have ht := zst_t (zst_t hZ)
          have hcl := z_clamp hj
          have hb := zOK_at Z.1 (o := r) (by omega) (by omega) (by omega)
          have hat := zWl_at (dA := dA) (ad := ad) hb.1 hb.2
          rw [zCell_l hk5] at hat
          refine va_lald (D := D) CX.1 CX.2.1 hK Z.2.1 (r - 1) 3 hat rfl (z_vin hj h0 h1) hd ?_
          rw [hcl]
          refine lv_iload CX.1 CX.2.1 d1 (zLv_at hv hxi) ?_
          refine lv_lshr CX.1 CX.2.1 d2 rfl ?_
          refine lv_l2i CX.1 CX.2.1 d3 rfl ?_
          refine lv_bipush CX.1 CX.2.1 d4 rfl ?_
          refine lv_iand CX.1 CX.2.1 d5 ?_
          rw [z_lread hx0 hx1 hx4]
          exact zN1 (st2 := .inl (w.2.2.2.2.2 r (16 * j.toNat + x.toNat / 4) % 16) :: t) Z hv hl (zst_c (by show zr _; unfold zr; omega) ht) kk
        · cases hs
      · cases hs
    · cases hN
  · cases hN
theorem zlg_row {I : ZI} {r j h : Nat} {y : Int} (hh : h < 16) : (fun k => zLg (fun b => zup I r (16 * j + h) y r (16 * k + b))) = vp_updL (fun k => zLg (fun b => I r (16 * k + b))) j (zLg (fun b => if b = h then y else I r (16 * j + b))) := by
  funext k
  unfold vp_updL
  by_cases hk : k = j
  · rw [if_pos hk, hk]
    refine zLg_cong (fun b hb => ?_)
    unfold zup
    by_cases hb2 : b = h
    · rw [if_pos ⟨rfl, by omega⟩, if_pos hb2]
    · rw [if_neg (fun q => hb2 (by omega)), if_neg hb2]
  · rw [if_neg hk]
    refine zLg_cong (fun b hb => ?_)
    unfold zup
    rw [if_neg (fun q => hk (by omega))]
theorem zc_lw {i k : Nat} (CX : zCx p s m args meth c mid) (hK : va_K D vwCl (zTys dA) s) (hd : decode (zB mid) pc = .ok (.laload, 1)) (hN : zstN mid pc = some (i, k)) (hs : zlw i k pc lls st w = some (pc2, lls2, st2, w2)) (Z : zAt X0 D dA A s ad lls st w H locs cells slots C1 S1) (hv : lv_has ls (zL mid) (zLv ad lls)) (hl : lls.length = zL mid)
    (kk : zNx p l e R s m args below meth c Q X0 D dA A mid C1 S1 ad w.2.2.1 pc2 lls2 st2 w2) : W p l e R s m args below meth c H locs cells slots Q (F0 m pc ls (st.map (zVal ad))) := by
  unfold zstN at hN
  split at hN
  · rename_i i0 k0 d1 d2 d3 d4 d5 d6
    cases hN
    unfold zlw at hs
    split at hs
    · rename_i j r j2 r2 t y x hyi hxi
      split at hs
      · rename_i hc
        obtain ⟨⟨hk5, h0, h1⟩, ⟨rfl, rfl⟩, ⟨hx0, hx1, hx4⟩, ⟨hy0, hy1⟩, hf⟩ := hc
        cases hs
        have hZ := Z.2.2.2.2.2.2.2.1
        have hj := zst_h hZ
        have ht := zst_t (zst_t (zst_t (zst_t hZ)))
        have hb := zOK_at Z.1 (o := r2) (by omega) (by omega) (by omega)
        have hat := zWl_at (dA := dA) (ad := ad) hb.1 hb.2
        rw [zCell_l hk5] at hat
        have hcl := z_clamp (show zr j2 from hj)
        refine va_lald (D := D) CX.1 CX.2.1 hK Z.2.1 (r2 - 1) 3 hat rfl (z_vin hj h0 h1) hd ?_
        rw [hcl]
        refine lv_iload CX.1 CX.2.1 d1 (zLv_at hv hyi) ?_
        refine lv_i2l CX.1 CX.2.1 d2 rfl ?_
        refine lv_iload CX.1 CX.2.1 d3 (zLv_at hv hxi) ?_
        refine lv_lshl CX.1 CX.2.1 d4 rfl ?_
        refine lv_lor CX.1 CX.2.1 d5 ?_
        rw [z_lwrite (f := fun b => w.2.2.2.2.2 r2 (16 * j2.toNat + b)) hx0 hx1 hx4 hy0 hy1 hf]
        refine va_last (D := D) CX.1 CX.2.1 hK Z.2.1 Z.2.2.1 Z.2.2.2.1 (r2 - 1) 3 hat rfl (i := Int32.ofInt j2) (z_vin hj h0 h1) d6 (fun H1 locs1 hP hD hS => ?_)
        rw [hcl, ← zlg_row (by omega)] at hP hD
        exact kk ad H1 locs1 cells slots ls (fun _ _ => rfl) (zAt_put Z (zsc_ne Z hb.2) (by unfold zr; omega) ht _ (zCell_l (w := zset w (zup w.2.2.2.2.2 r2 (16 * j2.toNat + x.toNat / 4) y)) hk5) hb.1 hP hD hS) hv hl
      · cases hs
    · cases hs
  · cases hN
theorem zc_lal (CX : zCx p s m args meth c mid) (hK : va_K D vwCl (zTys dA) s) (hd : decode (zB mid) pc = .ok (.laload, 1)) (hs : zlal mid pc lls st w = some (pc2, lls2, st2, w2)) (Z : zAt X0 D dA A s ad lls st w H locs cells slots C1 S1) (hv : lv_has ls (zL mid) (zLv ad lls)) (hl : lls.length = zL mid)
    (kk : zNx p l e R s m args below meth c Q X0 D dA A mid C1 S1 ad w.2.2.1 pc2 lls2 st2 w2) : W p l e R s m args below meth c H locs cells slots Q (F0 m pc ls (st.map (zVal ad))) := by
  unfold zlal at hs
  split at hs
  · rename_i i hN
    exact zc_lr CX hK hd hN hs Z hv hl kk
  · split at hs
    · rename_i i k hN
      exact zc_lw CX hK hd hN hs Z hv hl kk
    · cases hs
theorem zclr_row {I : ZI} {r n : Nat} : (fun k => zLg (fun b => zclr I r (16 * n) r (16 * k + b))) = jfF (fun k => zLg (fun b => I r (16 * k + b))) n := by
  funext k
  unfold jfF
  by_cases hk : k < n
  · rw [if_pos hk]
    refine zLg_0 (fun b hb => ?_)
    unfold zclr
    rw [if_pos ⟨rfl, by omega⟩]
  · rw [if_neg hk]
    refine zLg_cong (fun b hb => ?_)
    unfold zclr
    rw [if_neg (fun q => hk (by omega))]
theorem zAt_clr {H1 : Heap} {locs1 : List Loc} {b n : Nat} {t : List AV} (Z : zAt X0 D dA A s ad lls st w H locs cells slots C1 S1) (hb5 : (w.2.2.2.1 b).1 = 5) (hsc : b ≠ zSc) (ht : ∀ v ∈ t, zOv w.2.2.1 v) (h1 : 1 ≤ b)
    (hP : va_P D vwCl ((zWl dA w ad).set (b - 1) (ad b, .inl (dA 3, (w.2.2.2.1 b).2, .inr (.inl (fun k => zLg (fun j => zclr w.2.2.2.2.2 b n b (16 * k + j))))))) H1) (hD : va_D A ((zWl dA w ad).set (b - 1) (ad b, .inl (dA 3, (w.2.2.2.1 b).2, .inr (.inl (fun k => zLg (fun j => zclr w.2.2.2.2.2 b n b (16 * k + j)))))))) (hS : va_S A s.heap H1 locs1) : zAt X0 D dA A s ad lls t (zset w (zclr w.2.2.2.2.2 b n)) H1 locs1 cells slots C1 S1 := by
  obtain ⟨⟨a1, a2, a3, a4, a5, a6, a7⟩, -, -, -, ⟨x1, x2, x3⟩, c1, s1, -, l1⟩ := Z
  have ho : ∀ o, o ≠ b → ∀ k, zclr w.2.2.2.2.2 b n o k = w.2.2.2.2.2 o k := fun o h k => by unfold zclr; rw [if_neg (fun q => h q.1)]
  have hw := zWl_set (dA := dA) (w := w) (w2 := zset w (zclr w.2.2.2.2.2 b n)) (ad := ad) h1 rfl (zCell_l (w := zset w (zclr w.2.2.2.2.2 b n)) hb5) (fun o h => zCell_cong rfl (fun _ => rfl) (fun k => ho o h k) (fun k => Or.inr rfl))
  have hP2 : va_P D vwCl (zWl dA (zset w (zclr w.2.2.2.2.2 b n)) ad) H1 := by rw [← hw]; exact hP
  have hD2 : va_D A (zWl dA (zset w (zclr w.2.2.2.2.2 b n)) ad) := by rw [← hw]; exact hD
  refine ⟨⟨fun o k => ?_, a2, a3, a4, a5, a6, a7⟩, hP2, hD2, hS, ⟨x1, fun k => (ho zSc (fun q => hsc q.symm) k).trans (x2 k), x3⟩, c1, s1, ht, l1⟩
  show zr (zclr w.2.2.2.2.2 b n o k)
  unfold zclr
  split
  · exact zr_0
  · exact a1 o k
set_option maxHeartbeats 4000000 in
theorem zc_fil {n : Fin 2} (CX : zCx p s m args meth c mid) (hK : va_K D vwCl (zTys dA) s) (hR : 6 ≤ R.frames ∧ 240 ≤ R.locals) (hC1 : C1 ≤ R.cells) (hS1 : S1 ≤ R.slots) (hA : ∀ q, s.heap.size ≤ q → A q) (hd : decode (zB mid) pc = .ok (.lconst n, 1)) (h0 : n.val = 0) (hs : zfil mid pc lls st w = some (pc2, lls2, st2, w2)) (Z : zAt X0 D dA A s ad lls st w H locs cells slots C1 S1) (hv : lv_has ls (zL mid) (zLv ad lls)) (hl : lls.length = zL mid)
    (kk : zNx p l e R s m args below meth c Q X0 D dA A mid C1 S1 ad w.2.2.1 pc2 lls2 st2 w2) : W p l e R s m args below meth c H locs cells slots Q (F0 m pc ls (st.map (zVal ad))) := by
  have hts := CX.2.2.2.2.1
  have T : ∀ w ∈ lw_tbl, goodWord w = true → w.before args s = true := fun w h g => hts w (z_in h g)
  have hc1 := Z.2.2.2.2.2.1
  have hs1 := Z.2.2.2.2.2.2.1
  unfold zfil at hs
  split at hs
  · rename_i i r t hN
    split at hs
    · rename_i y hM
      split at hs
      · rename_i hb9
        obtain ⟨h5, h8⟩ := hb9
        cases hs
        have hd2 : decode (zB mid) (pc + 1) = .ok (.invokestatic i, 3) := by
          unfold zfiN at hN
          split at hN
          · rename_i h9
            cases hN
            exact h9
          · cases hN
        have hZ := Z.2.2.2.2.2.2.2.1
        have ht := zst_t hZ
        have hb := zOK_at Z.1 (o := r) (by omega) (by omega) (by omega)
        have hat := zWl_at (dA := dA) (ad := ad) hb.1 hb.2
        rw [zCell_l h5] at hat
        refine lv_lconst CX.1 CX.2.1 hd (v := 0) (by rw [h0]; rfl) ?_
        have hFix : CallFix p m c (zB mid) (zL mid) s args zTbl (zCn (zO mid)) := ⟨CX.1, CX.2.1, CX.2.2.1, CX.2.2.2.1, hts⟩
        have hM2 := j_fill l (D := D) (cl := vwCl) (tys := zTys dA) (sz := H.size) 3 hat rfl (Z.1.2.2.2.2.1 r)
        have hcb : CallB R s args (zCn (zO mid)) i yJ7_fill_d0a16 cJ7_fill_d0a16 5 none jfWs jfRm 0 0 2 := callB_of (ws' := []) 2 hts (fun w hw => by
          rcases List.mem_singleton.mp hw with rfl
          exact z_goodIn _ (z_in z_jfl_c rfl)) rfl rfl rfl (T _ z_jfl_i rfl) (zJl (o := 0) CX hM (by omega)) ⟨by decide, by decide, by decide +kernel⟩ ⟨by show 1 + 1 ≤ _; omega, by show 8 + (5 + 11) + 40 ≤ _; omega⟩
        have hf : ∀ q, va_A (zWl dA w ad) H.size q → A q := by
          intro q h
          rcases h with ⟨k, e, h⟩ | h
          · exact Z.2.2.1.2 k (q, e) h
          · exact hA q (Nat.le_trans Z.2.2.2.1.1 h)
        have hFB : FrameBlind (va_Pc [Value.ref (ad r), .long 0] (jfPre D vwCl (zTys dA) (zWl dA w ad) H.size)) := fun x U g mk q => ⟨q.1, q.2.1, q.2.2.1, va_K.moved (u := U) (U := U.calling g mk x) (Vm.Alike.refl U.vm) q.2.2.2.1, q.2.2.2.2⟩
        have hr := va_runS (p := p) (l := l) (e := e) (R := R) (s := s) (m := m) (args := args) (below := below) (meth := meth) (c := c) (H := H) (locs := locs) (cells := cells) (slots := slots) (g := F0 m (pc + 1) ls (.long 0 :: .ref (ad r) :: st2.map (zVal ad))) (As := [.ref (ad r), .long 0]) (rest := st2.map (zVal ad)) hFix hM2 ⟨hcb, T _ z_jfl_s rfl⟩
          ⟨hFB, fun U hU hW => ⟨rfl, by rw [hU], by rw [hU]; exact Z.2.1, va_K.moved hW.alike hK, Z.2.2.1.weaken (fun _ _ _ _ => trivial)⟩⟩ rfl rfl hv.1 rfl (lv_room (zCat_sum h8)) hd2 ⟨by omega, by omega⟩
        refine jfcallW hr (fun v st₀ t0 L H1 h00 hL e1 hq => ?_)
        obtain ⟨hv0, hP1, hD1, hz, hk⟩ := hq
        cases hv0
        rw [e1] at hP1 hz hk
        rw [h00] at hz hk
        rw [← zclr_row] at hP1 hD1
        refine kk ad H1 (locs ++ L) cells slots ls (fun _ _ => rfl) (zAt_clr Z h5 (zsc_ne Z hb.2) ht hb.1 hP1 (hD1.weaken (fun k q _ h => hf q.1 h)) ?_) hv hl
        have a4 := Z.2.2.2.1
        refine ⟨Nat.le_trans a4.1 hz, fun q g1 g2 => ?_, fun q hq => ?_⟩
        · rw [hk q (Nat.lt_of_lt_of_le g1 a4.1) (fun z => g2 (hf q z))]
          exact a4.2.1 q g1 g2
        · rcases List.mem_append.mp hq with h | h
          · exact a4.2.2 q h
          · exact hf _ (hL q h)
      · cases hs
    · cases hs
  · cases hs
end Z10b
