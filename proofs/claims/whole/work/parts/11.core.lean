-- THE WALK OF A METHOD IS WHAT THE INTERPRETER SAYS
section Z11
variable {p : Program} {l : Launch} {e : Env} {R : Room} {s : State} {m : MethodId} {args : Array Value} {below : List Frame} {meth : Method} {c : Code} {H : Heap} {locs : List Loc} {cells slots C1 S1 : Nat} {Q : State → Prop}
variable {X0 : (Nat × Nat) × (Nat → Int) × (Nat × Nat)} {D : va_G} {dA : Nat → ClassId} {A : Nat → Prop} {mid pc pc2 len : Nat} {lls lls2 : ZL} {st st2 : List AV} {w w2 : ZW} {ad : Nat → Nat} {ls : Array Slot}
theorem zK_mem {o i : Nat} {v : Int} (h : zK o i = some v) : (o, i, v) ∈ zKl := by
  unfold zK at h
  cases hf : zKl.find? (fun q => q.1 == o && q.2.1 == i) with
  | none => rw [hf] at h; cases h
  | some q =>
    rw [hf] at h
    have h1 := List.mem_of_find?_eq_some hf
    have h2 := List.find?_some hf
    simp only [Bool.and_eq_true, beq_iff_eq] at h2
    obtain ⟨a, b, x⟩ := q
    cases h
    obtain ⟨rfl, rfl⟩ := h2
    exact h1
theorem zSt_mem {o i : Nat} (h : zSt o i = true) : (o, i) ∈ zSl := by
  unfold zSt at h
  obtain ⟨q, hq, h2⟩ := List.any_eq_true.mp h
  simp only [Bool.and_eq_true, beq_iff_eq] at h2
  obtain ⟨a, b⟩ := q
  obtain ⟨rfl, rfl⟩ := h2
  exact hq
set_option maxHeartbeats 4000000 in
theorem z_step {ins : Instr} (J14 : zJ14 l) (J15 : zJ15 l) (CX : zCx p s m args meth c mid) (hK : va_K D vwCl (zTys dA) s) (hG : zG (ad zSx) s) (hA : ∀ q, s.heap.size ≤ q → A q) (hR : 6 ≤ R.frames ∧ 240 ≤ R.locals) (hC1 : C1 ≤ R.cells) (hS1 : S1 ≤ R.slots)
    (hd : decode (zB mid) pc = .ok (ins, len)) (hk : ¬ zlk ins len = false) (hs : zstep mid pc ins lls st w = some (pc2, lls2, st2, w2)) (Z : zAt X0 D dA A s ad lls st w H locs cells slots C1 S1) (hv : lv_has ls (zL mid) (zLv ad lls)) (hl : lls.length = zL mid)
    (kk : zNx p l e R s m args below meth c Q X0 D dA A mid C1 S1 ad w.2.2.1 pc2 lls2 st2 w2) : W p l e R s m args below meth c H locs cells slots Q (F0 m pc ls (st.map (zVal ad))) := by
  have hx := CX.1
  have hb := CX.2.1
  have hts := CX.2.2.2.2.1
  have hown := CX.2.2.2.1
  have L1 : ∀ k : Nat, ¬ (len == k) = false → len = k := fun k h => by simpa using h
  cases ins with
  | iconst n =>
    obtain rfl := L1 1 hk
    exact zc_push (fun _ k => lv_iconst hx hb hd rfl k) (fun h => zrb_iff.mp h) hs Z hv hl kk
  | bipush n =>
    obtain rfl := L1 2 hk
    refine zc_push (b := decide (-128 ≤ n) && decide (n < 128)) (fun _ k => ?_) (fun h => ?_) hs Z hv hl kk
    · have hs1 : zpushI (decide (-128 ≤ n) && decide (n < 128)) 2 n pc lls st w = some (pc2, lls2, st2, w2) := hs
      unfold zpushI at hs1
      split at hs1
      · rename_i h
        simp only [Bool.and_eq_true, decide_eq_true_eq] at h
        exact lv_bipush hx hb hd (z_i8 h.1 h.2) k
      · cases hs1
    · simp only [Bool.and_eq_true, decide_eq_true_eq] at h
      unfold zr; omega
  | sipush n =>
    obtain rfl := L1 3 hk
    refine zc_push (b := decide (-32768 ≤ n) && decide (n < 32768)) (fun _ k => ?_) (fun h => ?_) hs Z hv hl kk
    · have hs1 : zpushI (decide (-32768 ≤ n) && decide (n < 32768)) 3 n pc lls st w = some (pc2, lls2, st2, w2) := hs
      unfold zpushI at hs1
      split at hs1
      · rename_i h
        simp only [Bool.and_eq_true, decide_eq_true_eq] at h
        exact lv_sipush hx hb hd (z_i16 h.1 h.2) k
      · cases hs1
    · simp only [Bool.and_eq_true, decide_eq_true_eq] at h
      unfold zr; omega
  | ldc i =>
    obtain rfl := L1 2 hk
    have hs1 : (match zK (zO mid) i with
      | some v => zpushI (zrb v) 2 v pc lls st w
      | none => if zSt (zO mid) i = true ∧ (w.2.2.2.1 zSx).1 = 4 then some (pc + 2, lls, .inr zSx :: st, w) else none) = some (pc2, lls2, st2, w2) := hs
    split at hs1
    · rename_i v hv0
      have hc : (zKw (zO mid, i, v)).before args s = true := hts _ (z_in (zKl_ok _ (zK_mem hv0)) rfl)
      exact zc_push (fun _ k => lv_ldc hx hb hown hc hd k) (fun h => zrb_iff.mp h) hs1 Z hv hl kk
    · split at hs1
      · rename_i h
        cases hs1
        refine va_ldcS (q := ad zSx) hx hb hown (hG.2.2 _ (zSt_mem h.1)) hd ?_
        exact zN1 (st2 := .inr zSx :: st) Z hv hl (zst_c (Or.inr (Nat.le_refl _)) Z.2.2.2.2.2.2.2.1) kk
      · cases hs1
  | ldc_w i =>
    obtain rfl := L1 3 hk
    have hs1 : (match zK (zO mid) i with
      | some v => zpushI (zrb v) 3 v pc lls st w
      | none => none) = some (pc2, lls2, st2, w2) := hs
    split at hs1
    · rename_i v hv0
      have hc : (zKw (zO mid, i, v)).before args s = true := hts _ (z_in (zKl_ok _ (zK_mem hv0)) rfl)
      exact zc_push (fun _ k => lv_ldcw hx hb hown hc hd k) (fun h => zrb_iff.mp h) hs1 Z hv hl kk
    · cases hs1
  | iload i =>
    obtain rfl := L1 2 hk
    exact zc_iload (fun x h k => lv_iload hx hb hd h k) hs Z hv hl kk
  | iload_n i =>
    obtain rfl := L1 1 hk
    exact zc_iload (i := i.val) (fun x h k => lv_iload_n hx hb hd rfl h k) hs Z hv hl kk
  | aload i =>
    obtain rfl := L1 2 hk
    exact zc_aload (fun x h k => lv_aload hx hb hd h k) hs Z hv hl kk
  | aload_n i =>
    obtain rfl := L1 1 hk
    exact zc_aload (i := i.val) (fun x h k => lv_aload_n hx hb hd rfl h k) hs Z hv hl kk
  | istore i =>
    obtain rfl := L1 2 hk
    exact zc_istore (fun x t hi k => lv_istore hx hb hd hv hi rfl k) hs Z hl kk
  | istore_n i =>
    obtain rfl := L1 1 hk
    exact zc_istore (i := i.val) (fun x t hi k => lv_istore_n hx hb hd rfl hv hi rfl k) hs Z hl kk
  | astore i =>
    obtain rfl := L1 2 hk
    exact zc_astore (fun x t hi k => lv_astore hx hb hd hv hi rfl k) hs Z hl kk
  | astore_n i =>
    obtain rfl := L1 1 hk
    exact zc_astore (i := i.val) (fun x t hi k => lv_astore_n hx hb hd rfl hv hi rfl k) hs Z hl kk
  | iinc i n =>
    obtain rfl := L1 3 hk
    exact zc_iinc CX hd hs Z hv hl kk
  | iadd =>
    obtain rfl := L1 1 hk
    exact zc_bin (g := fun a b => zw (a + b)) (fun _ _ _ _ => zr_zw _) (fun a b t ha hb2 k => lv_iadd hx hb hd (by rw [z_add]; exact k)) hs Z hv hl kk
  | isub =>
    obtain rfl := L1 1 hk
    exact zc_bin (g := fun a b => zw (a - b)) (fun _ _ _ _ => zr_zw _) (fun a b t ha hb2 k => lv_isub hx hb hd (by rw [z_sub]; exact k)) hs Z hv hl kk
  | imul =>
    obtain rfl := L1 1 hk
    exact zc_bin (g := fun a b => zw (a * b)) (fun _ _ _ _ => zr_zw _) (fun a b t ha hb2 k => lv_imul hx hb hd (by rw [z_mul]; exact k)) hs Z hv hl kk
  | iand =>
    obtain rfl := L1 1 hk
    exact zc_bin (g := zand) (fun a b _ _ => zr_and a b) (fun a b t ha hb2 k => lv_iand hx hb hd (by rw [← z_oft (Int32.ofInt a &&& Int32.ofInt b)]; exact k)) hs Z hv hl kk
  | ior =>
    obtain rfl := L1 1 hk
    exact zc_bin (g := zor) (fun a b _ _ => zr_or a b) (fun a b t ha hb2 k => lv_ior hx hb hd (by rw [← z_oft (Int32.ofInt a ||| Int32.ofInt b)]; exact k)) hs Z hv hl kk
  | ishl =>
    obtain rfl := L1 1 hk
    exact zc_bin (g := zshl) (fun a b _ _ => zr_shl a b) (fun a b t ha hb2 k => lv_ishl hx hb hd (by rw [← z_oft (Int32.ofInt a <<< (Int32.ofInt b &&& 31))]; exact k)) hs Z hv hl kk
  | ishr =>
    obtain rfl := L1 1 hk
    exact zc_bin (g := zshr) (fun a b _ _ => zr_shr a b) (fun a b t ha hb2 k => lv_ishr hx hb hd (by rw [← z_oft (Int32.ofInt a >>> (Int32.ofInt b &&& 31))]; exact k)) hs Z hv hl kk
  | idiv =>
    obtain rfl := L1 1 hk
    exact zc_div (g := fun a b => zw (a.tdiv b)) (fun _ _ _ _ _ => zr_zw _) (fun a b t ha hb2 h0 k => lv_idiv hx hb hd (fun q => h0 ((z_eq hb2 zr_0).mp q)) (by rw [z_div ha hb2]; exact k)) hs Z hv hl kk
  | irem =>
    obtain rfl := L1 1 hk
    exact zc_div (g := fun a b => a.tmod b) (fun _ _ ha _ h0 => z_tmod_r ha h0) (fun a b t ha hb2 h0 k => lv_irem hx hb hd (fun q => h0 ((z_eq hb2 zr_0).mp q)) (by rw [z_rem ha hb2]; exact k)) hs Z hv hl kk
  | i2b =>
    obtain rfl := L1 1 hk
    exact zc_un (g := zi2b) zr_i2b (fun a t k => lv_i2b hx hb hd (v := Int32.ofInt (zi2b a)) (z_oft _).symm k) hs Z hv hl kk
  | i2c =>
    obtain rfl := L1 1 hk
    exact zc_un (g := zi2c) zr_i2c (fun a t k => lv_i2c hx hb hd (v := Int32.ofInt (zi2c a)) (z_oft _).symm k) hs Z hv hl kk
  | goto off =>
    obtain rfl := L1 3 hk
    exact zc_goto CX hd hs Z hv hl kk
  | if_icmp cd off =>
    obtain rfl := L1 3 hk
    exact zc_if2 CX hd hs Z hv hl kk
  | ifCond cd off =>
    obtain rfl := L1 3 hk
    exact zc_if1 CX hd hs Z hv hl kk
  | tableswitch d lo hi offs => exact zc_tsw CX hd hs Z hv hl kk
  | lookupswitch d ps => exact zc_lsw CX hd hs Z hv hl kk
  | getfield i =>
    obtain rfl := L1 3 hk
    exact zc_get CX hK hd hs Z hv hl kk
  | putfield i =>
    obtain rfl := L1 3 hk
    exact zc_put CX hK hd hs Z hv hl kk
  | iaload =>
    obtain rfl := L1 1 hk
    exact zc_iald CX hK hd hs Z hv hl kk
  | baload =>
    obtain rfl := L1 1 hk
    exact zc_bald CX hK hd hs Z hv hl kk
  | aaload =>
    obtain rfl := L1 1 hk
    exact zc_aald CX hK hd hs Z hv hl kk
  | iastore =>
    obtain rfl := L1 1 hk
    exact zc_iast CX hK hd hs Z hv hl kk
  | bastore =>
    obtain rfl := L1 1 hk
    exact zc_bast CX hK hd hs Z hv hl kk
  | arraylength =>
    obtain rfl := L1 1 hk
    exact zc_len CX hK hd hs Z hv hl kk
  | dup =>
    obtain rfl := L1 1 hk
    exact zc_dup CX hd hs Z hv hl kk
  | laload =>
    obtain rfl := L1 1 hk
    exact zc_lal CX hK hd hs Z hv hl kk
  | lconst n =>
    obtain rfl := L1 1 hk
    have hs1 : (if n.val = 0 then zfil mid pc lls st w else none) = some (pc2, lls2, st2, w2) := hs
    split at hs1
    · rename_i h0
      exact zc_fil CX hK hR hC1 hS1 hA hd h0 hs1 Z hv hl kk
    · cases hs1
  | dup2 =>
    obtain rfl := L1 1 hk
    exact zc_dup2 CX hd hs Z hv hl kk
  | pop =>
    obtain rfl := L1 1 hk
    exact zc_pop CX hd hs Z hv hl kk
  | new i =>
    obtain rfl := L1 3 hk
    exact zc_new CX hK hA hC1 hS1 hd hs Z hv hl kk
  | newarray t =>
    obtain rfl := L1 2 hk
    exact zc_newa CX hK hA hC1 hS1 hd hs Z hv hl kk
  | multianewarray i d =>
    obtain rfl := L1 4 hk
    exact zc_mna CX hK hG hA hC1 hS1 hd hs Z hv hl kk
  | invokevirtual i =>
    obtain rfl := L1 3 hk
    exact zc_jV J14 J15 CX hR hC1 hS1 hd hs Z hv hl kk
  | invokestatic i =>
    obtain rfl := L1 3 hk
    exact zc_jS CX hK hR hC1 hS1 hd hs Z hv hl kk
  | invokespecial i =>
    obtain rfl := L1 3 hk
    exact zc_jI CX hR hd hs Z hv hl kk
  | _ => cases hs
end Z11
