-- TABLES, the calls
section TD
variable {d n t : Nat} {sh : ZS} {R : ZR} {x1 x2 x3 x4 : Int}
theorem Rel.refs {I : ZI} {R2 : ZR} (h : Rel t I R) (hT : rTab R2) (e : ∀ o c, ¬ o = 61 → R2 o c = R o c) : Rel t I R2 := by
  obtain ⟨r1, r2, r3, r4, r5, ⟨lw, md, h1, h2, h3, h4⟩, r7⟩ := h
  exact ⟨r1, r2, r3, r4, r5, ⟨lw, md, h1, by rw [e _ _ (by decide)]; exact h2, by rw [e _ _ (by decide)]; exact h3, h4⟩, hT⟩
theorem aP_f {T : Nat → Nat → Int} {W : Nat → Int} (h0 : ∀ k, 0 ≤ W k ∧ W k ≤ 384) (hT : ∀ x y, x ≤ y → aOk W x (y + 1) (T x y)) {b m a : Nat} (h : a ≤ b) : aF (aP T b m a) := by
  have h1 := aP_ok hT (y := b) m a h
  have h2 := h0 a
  have h3 := h0 (b + 1)
  unfold aOk at h1
  unfold aF
  omega
theorem c_tables {I : ZI} (hW : Wf sh R) (h : Rel t I R) : XR (d + 4) 112 [.inr 1, .inl x1, .inl x2, .inl x3] n sh R I (fun v J R2 => XI (d + 3) 218 [.inr 137, .inl x1, .inl x2, .inl x3] n sh R2 J (fun v2 K => v2 = v ∧ Rel (t + 1) K R2)) := by
  obtain ⟨lw, S, H, hl, hR, hL, hb, hE, mE, hH, mH, hv, hg⟩ := h.base hW
  have hin := hv.1.inb hb
  have hb2 := hb.2.1
  have ei : I 15 0 = I 137 3 ∧ I 15 1 = I 137 4 := hE.1
  have h63 : I 63 0 = 0 := h.2.2.2.2.1
  have hTb : rTab R := h.2.2.2.2.2.2
  refine b_N_tables_0 hW ?_
  by_cases ok : 0 ≤ x1 ∧ x1 < 20 ∧ x1 ≤ x2 ∧ x2 < 20 ∧ 1 ≤ x3 ∧ x3 ≤ 12
  · obtain ⟨a, rfl⟩ : ∃ a : Nat, x1 = (a : Int) := ⟨x1.toNat, by omega⟩
    obtain ⟨b, rfl⟩ : ∃ b : Nat, x2 = (b : Int) := ⟨x2.toNat, by omega⟩
    obtain ⟨m, rfl⟩ : ∃ m : Nat, x3 = ((m + 1 : Nat) : Int) := ⟨(x3 - 1).toNat, by omega⟩
    have hP := aPN_ok (B := I) hin.1
    have fin : ∀ (J : ZI) (R2 : ZR) (v : Int), Wf sh R2 → rTab R2 → (∀ o c, ¬ o = 61 → R2 o c = R o c) → (∀ o c, ¬ (o = 62) → ¬ (o = 63 ∧ 1 ≤ c) → ¬ (66 ≤ o ∧ o ≤ 116) → J o c = I o c) → v = (if aT (aLt I H) (aA (aNo I H)) (I 137 3).toNat (m + 1) a b < 1000000000 then aT (aLt I H) (aA (aNo I H)) (I 137 3).toNat (m + 1) a b else -2) → XI (d + 3) 218 [.inr 137, .inl (a : Int), .inl (b : Int), .inl ((m + 1 : Nat) : Int)] n sh R2 J (fun v2 K => v2 = v ∧ Rel (t + 1) K R2) := fun J R2 v hW2 hT2 hR2 hf hv => by
      refine b_M_tables_0 hW2 ?_
      rw [if_neg (by omega), if_neg (by omega), if_neg (by omega), if_neg (by omega), if_neg (by omega), if_neg (by omega)]
      refine s_M_laysTables (hs := (I 137 3).toNat) (B := I) (H := H) (g := I 18 7) (LA := I 22) hW2 hb hin (by omega) (by omega) (by rw [hf _ _ (by omega) (by omega) (by omega)]; omega) (mE.fr fun o c ho => hf o c (by omega) (by omega) (by omega)) (mH.fr fun o c ho => hf o c (by omega) (by omega) (by omega)) fun K k1 k2 k3 => ?_
      have rl : Rel (t + 1) K R2 := (h.refs hT2 hR2).fr (by omega) fun o c ho => by
        unfold fAll fNow fKept fEnv fTape fBlame fLaw at ho
        rw [k3 o c (by omega) (by omega) (by omega)]; exact hf o c (by omega) (by omega) (by omega)
      have e1 : (((400 * ((m + 1 : Nat) : Int)) + (20 * (a : Int))) + (b : Int)).toNat = 400 * (m + 1) + 20 * a + b := by omega
      rw [e1, k2 (m + 1) a b (by omega) (by omega) (by omega)]
      refine ⟨by unfold zr; omega, by unfold zr; omega, by unfold zr; omega, by unfold zr; omega, by omega, ?_⟩
      by_cases g1 : aT (aLt I H) (aA (aNo I H)) (I 137 3).toNat (m + 1) a b < 1000000000
      · rw [if_pos g1] at hv ⊢; exact ⟨hv.symm, rl⟩
      · rw [if_neg g1] at hv ⊢; exact ⟨hv.symm, rl⟩
    rw [if_neg (by omega), if_neg (by omega), if_neg (by omega), if_neg (by omega), if_neg (by omega), if_neg (by omega), if_neg (by omega)]
    have f := (aT_tn (hs := (I 137 3).toNat) hP (show m + 1 ≤ 12 by omega)).1 a b (by omega)
    refine s_A_fewest (hs := (I 137 3).toNat) (B := I) (H := H) (g := I 18 7) (LA := I 22) (m := m) hW hTb hb hin hH h63 (by omega) (by omega) (by omega) (by omega) (fun hA J jf => ?_) (fun hA J R2 w1 w2 w3 w4 w5 => ?_)
    · rw [if_pos (by decide)]
      refine fin J R _ hW hTb (fun _ _ _ => rfl) (fun o c g1 g2 _ => jf o c g1 g2) ?_
      have e : aT (aLt I H) (aA (aNo I H)) (I 137 3).toNat (m + 1) a b = 0 := if_pos hA
      rw [e, if_pos (by decide)]
    · unfold aF at f
      by_cases g1 : aT (aLt I H) (aA (aNo I H)) (I 137 3).toNat (m + 1) a b < 1000000000
      · have l : aL (aT (aLt I H) (aA (aNo I H)) (I 137 3).toNat (m + 1) a b) = aT (aLt I H) (aA (aNo I H)) (I 137 3).toNat (m + 1) a b := if_neg (by omega)
        rw [l, if_pos (by omega)]
        exact fin J R2 _ w1 w2 w3 w5 (by rw [if_pos g1])
      · have l : aL (aT (aLt I H) (aA (aNo I H)) (I 137 3).toNat (m + 1) a b) = 1000000 := if_pos (by omega)
        rw [l, if_neg (by decide)]
        exact fin J R2 _ w1 w2 w3 w5 (by rw [if_neg g1])
  · have bad : XI (d + 3) 218 [.inr 137, .inl x1, .inl x2, .inl x3] n sh R I (fun v2 K => v2 = -1 ∧ Rel (t + 1) K R) := by
      have same : (-1 : Int) = -1 ∧ Rel (t + 1) I R := ⟨rfl, h.fr (by omega) fun _ _ _ => rfl⟩
      refine b_M_tables_0 hW ?_
      by_cases g1 : x1 < 0
      · rw [if_pos g1]; exact same
      rw [if_neg g1]
      by_cases g2 : 20 ≤ x1
      · rw [if_pos g2]; exact same
      rw [if_neg g2]
      by_cases g3 : x2 < x1
      · rw [if_pos g3]; exact same
      rw [if_neg g3]
      by_cases g4 : 19 < x2
      · rw [if_pos g4]; exact same
      rw [if_neg g4]
      by_cases g5 : x3 < 1
      · rw [if_pos g5]; exact same
      rw [if_neg g5, if_pos (by omega)]; exact same
    by_cases g1 : x1 < 0
    · rw [if_pos g1]; exact bad
    rw [if_neg g1]
    by_cases g2 : 20 ≤ x1
    · rw [if_pos g2]; exact bad
    rw [if_neg g2]
    by_cases g3 : x2 < 0
    · rw [if_pos g3]; exact bad
    rw [if_neg g3]
    by_cases g4 : 20 ≤ x2
    · rw [if_pos g4]; exact bad
    rw [if_neg g4]
    by_cases g5 : x2 < x1
    · rw [if_pos g5]; exact bad
    rw [if_neg g5]
    by_cases g6 : x3 < 1
    · rw [if_pos g6]; exact bad
    rw [if_neg g6, if_pos (by omega)]; exact bad
theorem c_table {I : ZI} (hW : Wf sh R) (h : Rel t I R) : XR (d + 4) 113 [.inr 1, .inl x1, .inl x2, .inl x3, .inl x4] n sh R I (fun v J R2 => XI (d + 3) 219 [.inr 137, .inl x1, .inl x2, .inl x3, .inl x4] n sh R2 J (fun v2 K => v2 = v ∧ Rel (t + 1) K R2)) := by
  obtain ⟨lw, S, H, hl, hR, hL, hb, hE, mE, hH, mH, hv, hg⟩ := h.base hW
  have hin := hv.1.inb hb
  have hb2 := hb.2.1
  have ei : I 15 0 = I 137 3 ∧ I 15 1 = I 137 4 := hE.1
  have h63 : I 63 0 = 0 := h.2.2.2.2.1
  have hTb : rTab R := h.2.2.2.2.2.2
  refine b_N_table_0 hW ?_
  by_cases ok : 0 ≤ x1 ∧ x1 < 20 ∧ x1 ≤ x2 ∧ x2 < 20 ∧ 1 ≤ x3 ∧ x3 ≤ 12 ∧ 0 ≤ x4 ∧ x4 < 9
  · obtain ⟨a, rfl⟩ : ∃ a : Nat, x1 = (a : Int) := ⟨x1.toNat, by omega⟩
    obtain ⟨b, rfl⟩ : ∃ b : Nat, x2 = (b : Int) := ⟨x2.toNat, by omega⟩
    obtain ⟨m, rfl⟩ : ∃ m : Nat, x3 = ((m + 1 : Nat) : Int) := ⟨(x3 - 1).toNat, by omega⟩
    obtain ⟨k, rfl⟩ : ∃ k : Nat, x4 = (k : Int) := ⟨x4.toNat, by omega⟩
    obtain ⟨hs, hhs⟩ : ∃ hs : Nat, I 137 3 = (hs : Int) := ⟨(I 137 3).toNat, by omega⟩
    have hP := aPN_ok (B := I) hin.1
    have w0 : ∀ k, 0 ≤ aW (aLt I H) m k ∧ aW (aLt I H) m k ≤ 384 := fun k => by have := aW_le hP.2.2.1 m k; omega
    have tn := aT_tn (hs := hs) hP (show m ≤ 12 by omega)
    have hC : ∀ m2 x, x ≤ b + 1 → aF (aC (aT (aLt I H) (aA (aNo I H)) hs m) b m2 x) := fun m2 x hx => aC_f (aW_up hP.1 m) w0 (aT_ok hP.1 m) hx
    have hPf : ∀ m2 x, x ≤ b → aF (aP (aT (aLt I H) (aA (aNo I H)) hs m) b m2 x) := fun m2 x hx => aP_f w0 (aT_ok hP.1 m) hx
    have f := (aT_tn (hs := hs) hP (show m + 1 ≤ 12 by omega)).1 a b (by omega)
    -- the model up to the tables
    have mod : ∀ (J : ZI) (R2 : ZR) (v : Int), Wf sh R2 → rTab R2 → (∀ o c, ¬ o = 61 → R2 o c = R o c) → (∀ o c, ¬ (o = 62) → ¬ (o = 63 ∧ 1 ≤ c) → ¬ (66 ≤ o ∧ o ≤ 116) → J o c = I o c) → (aA (aNo I H) a b = true → v = -2) → (¬ aA (aNo I H) a b = true → ¬ aT (aLt I H) (aA (aNo I H)) hs (m + 1) a b < 1000000000 → v = -1) → (¬ aA (aNo I H) a b = true → aT (aLt I H) (aA (aNo I H)) hs (m + 1) a b < 1000000000 → ∃ bb, aFw (fun j => aL (aP (aT (aLt I H) (aA (aNo I H)) hs m) b j a)) hs bb ∧ (bb + 1 ≤ k → v = -2) ∧ (k < bb + 1 → ∃ r, v = ((r : Nat) : Int) ∧ aWk (aT (aLt I H) (aA (aNo I H)) hs m) b k (bb + 1) a r)) → XI (d + 3) 219 [.inr 137, .inl (a : Int), .inl (b : Int), .inl ((m + 1 : Nat) : Int), .inl (k : Int)] n sh R2 J (fun v2 K => v2 = v ∧ Rel (t + 1) K R2) := fun J R2 v hW2 hT2 hR2 hf v1 v2 v3 => by
      refine b_M_table_0 hW2 ?_
      rw [if_neg (by omega), if_neg (by omega), if_neg (by omega), if_neg (by omega), if_neg (by omega), if_neg (by omega), if_neg (by omega), if_neg (by omega)]
      refine s_M_laysTables (hs := hs) (B := I) (H := H) (g := I 18 7) (LA := I 22) hW2 hb hin (by omega) (by omega) (by rw [hf _ _ (by omega) (by omega) (by omega)]; exact hhs) (mE.fr fun o c ho => hf o c (by omega) (by omega) (by omega)) (mH.fr fun o c ho => hf o c (by omega) (by omega) (by omega)) fun K k1 k2 k3 => ?_
      have rl : ∀ M : ZI, (∀ o c, ¬ o = 169 → M o c = K o c) → Rel (t + 1) M R2 := fun M hM => (h.refs hT2 hR2).fr (by omega) fun o c ho => by
        unfold fAll fNow fKept fEnv fTape fBlame fLaw at ho
        rw [hM o c (by omega), k3 o c (by omega) (by omega) (by omega)]; exact hf o c (by omega) (by omega) (by omega)
      have e1 : (((400 * ((m + 1 : Nat) : Int)) + (20 * (a : Int))) + (b : Int)).toNat = 400 * (m + 1) + 20 * a + b := by omega
      rw [e1, k2 (m + 1) a b (by omega) (by omega) (by omega)]
      refine ⟨by unfold zr; omega, by unfold zr; omega, by unfold zr; omega, by unfold zr; omega, by omega, ?_⟩
      have i3 : K 137 3 = (hs : Int) := by rw [k3 _ _ (by omega) (by omega) (by omega), hf _ _ (by omega) (by omega) (by omega)]; exact hhs
      by_cases gA : aA (aNo I H) a b = true
      · have e : aT (aLt I H) (aA (aNo I H)) hs (m + 1) a b = 0 := if_pos gA
        rw [e, if_pos (by decide)]
        refine s_M_single hW2 hin (by omega) k1 ?_
        rw [if_pos gA, if_neg (by decide)]
        exact ⟨(v1 gA).symm, rl K fun _ _ _ => rfl⟩
      · by_cases g1 : aT (aLt I H) (aA (aNo I H)) hs (m + 1) a b < 1000000000
        · rw [if_pos g1]
          refine s_M_single hW2 hin (by omega) k1 ?_
          rw [if_neg gA, if_pos rfl, show ((m + 1 : Nat) : Int) - 1 = (m : Int) by omega]
          refine ⟨by unfold zr; omega, s_M_cover (d := d + 1) (T := aT (aLt I H) (aA (aNo I H)) hs m) (W := aW (aLt I H) m) (hs := hs) hW2 (aW_up hP.1 m) w0 (aT_ok hP.1 m) (by omega) (by omega) (by omega) i3 (fun x e h1 h2 => k2 m x e (by omega) h1 (by omega)) fun M m1 m2 => ?_⟩
          obtain ⟨bb, hbb, vlo, vhi⟩ := v3 gA g1
          have e3 : aT (aLt I H) (aA (aNo I H)) hs (m + 1) a b = aS (aLt I H (b + 1) - aLt I H a) (aC (aT (aLt I H) (aA (aNo I H)) hs m) b hs a) := if_neg gA
          have cfin : aC (aT (aLt I H) (aA (aNo I H)) hs m) b hs a < 1000000000 := by
            have h1 := hC hs a (by omega)
            have h2 := aUp hP.1 (show a ≤ b + 1 by omega)
            have h3 := aS_or (x := aLt I H (b + 1) - aLt I H a) (y := aC (aT (aLt I H) (aA (aNo I H)) hs m) b hs a)
            unfold aF at h1
            omega
          obtain ⟨y1, y2⟩ := aFw_many tn hbb (show a ≤ b by omega) (fun j => hPf j a (by omega)) cfin
          have b1 := hbb.1
          have hI : mTb (aT (aLt I H) (aA (aNo I H)) hs m) m b M := fun x e h1 h2 => by rw [m2 _ _ (by omega)]; exact k2 m x e (by omega) h1 (by omega)
          refine l_M_f71 (hs := hs) (M := bb + 1) (T := aT (aLt I H) (aA (aNo I H)) hs m) hW2 (by omega) (by omega) (by rw [m2 _ _ (by omega)]; exact i3) m1 (by omega) (fun q h1 h2 => y1 q h1 (by omega)) y2 (fun g2 => ⟨(vlo g2).symm, rl M m2⟩) (fun g2 u8 u9 => ?_) bb 1 _ _ _ _ (by omega) (Nat.le_refl 1)
          obtain ⟨r, hr, hwk⟩ := vhi g2
          refine l_M_f125 (hs := hs) (M := bb + 1) (T := aT (aLt I H) (aA (aNo I H)) hs m) hW2 tn hC (by omega) (by omega) (by omega) hI m1 (by omega) (fun r2 => aWk (aT (aLt I H) (aA (aNo I H)) hs m) b k (bb + 1) a r2) (fun r2 hr2 => ⟨?_, rl M m2⟩) k 0 a u8 u9 (by omega) ?_ fun r2 hr2 => hr2
          · refine ⟨by omega, by omega, by omega, ?_, fun g3 c => ?_⟩
            · show aC _ b (bb + 1) a < 1000000000
              rw [y2]; exact cfin
            · refine y1 bb (by omega) (Nat.le_refl bb) ?_
              rw [← y2]; exact c
          · rw [hr, aWk_uniq k (bb + 1) a r2 r hr2 hwk]
        · rw [if_neg g1]
          exact ⟨(v2 gA g1).symm, rl K fun _ _ _ => rfl⟩
    rw [if_neg (by omega), if_neg (by omega), if_neg (by omega), if_neg (by omega), if_neg (by omega), if_neg (by omega), if_neg (by omega), if_neg (by omega), if_pos (by omega)]
    refine s_A_fewest (hs := hs) (B := I) (H := H) (g := I 18 7) (LA := I 22) (m := m) hW hTb hb hin hH h63 (by omega) (by omega) (by omega) (by omega) (fun hA J jf => ?_) (fun hA J R2 w1 w2 w3 w4 w5 => ?_)
    · rw [if_pos (by decide), if_neg (by decide)]
      exact mod J R _ hW hTb (fun _ _ _ => rfl) (fun o c g1 g2 _ => jf o c g1 g2) (fun _ => rfl) (fun e => absurd hA e) fun e => absurd hA e
    · unfold aF at f
      by_cases g1 : aT (aLt I H) (aA (aNo I H)) hs (m + 1) a b < 1000000000
      · have l : aL (aT (aLt I H) (aA (aNo I H)) hs (m + 1) a b) = aT (aLt I H) (aA (aNo I H)) hs (m + 1) a b := if_neg (by omega)
        have e3 : aT (aLt I H) (aA (aNo I H)) hs (m + 1) a b = aS (aLt I H (b + 1) - aLt I H a) (aC (aT (aLt I H) (aA (aNo I H)) hs m) b hs a) := if_neg hA
        have h1 := hC hs a (by omega)
        have h2 := aUp (W := fun k => aLt I H k - aNo I H k) (fun k => by have := (hP.2.1 k).2; show aLt I H k - aNo I H k ≤ aLt I H (k + 1) - aNo I H (k + 1); omega) (show a ≤ b + 1 by omega)
        have h2' : aLt I H a - aNo I H a ≤ aLt I H (b + 1) - aNo I H (b + 1) := h2
        have h3 := aS_or (x := aLt I H (b + 1) - aLt I H a) (y := aC (aT (aLt I H) (aA (aNo I H)) hs m) b hs a)
        have h4 := aA_iff.mp hA
        unfold aF at h1
        have cfin : aC (aT (aLt I H) (aA (aNo I H)) hs m) b hs a < 1000000000 := by omega
        rw [l, if_pos (by omega), if_pos (by omega)]
        refine b_A_firstIn_0 (d := d + 2) w1 (s_A_fewestHoles (hs := hs) (s := fun j => aL (aP (aT (aLt I H) (aA (aNo I H)) hs m) b j a)) w1 (by omega) (by omega) w4.1.1 (fun j hj => w4.2.2 j a hj (Nat.le_refl a) (by omega)) fun bb hbb => ?_)
        have b1 := hbb.1
        by_cases g2 : k < bb + 1
        · rw [if_pos (by omega)]
          obtain ⟨y1, y2⟩ := aFw_many tn hbb (show a ≤ b by omega) (fun j => hPf j a (by omega)) cfin
          refine l_A_f22 (d := d + 2) (hs := hs) (a := a) (M := bb + 1) (T := aT (aLt I H) (aA (aNo I H)) hs m) w1 w2 tn hC hPf (by omega) (by omega) w4.2.1 w4.2.2 (by omega) (fun r2 => aWk (aT (aLt I H) (aA (aNo I H)) hs m) b k (bb + 1) a r2) (fun r hr => ?_) k 0 a _ _ (by omega) (Nat.le_refl a) ?_ fun r2 hr2 => hr2
          · exact mod J R2 _ w1 w2 w3 w5 (fun e => absurd e hA) (fun _ e => absurd g1 e) fun _ _ => ⟨bb, hbb, fun e => absurd g2 (by omega), fun _ => ⟨r, rfl, hr⟩⟩
          · refine ⟨by omega, by omega, by omega, ?_, fun g3 c => ?_⟩
            · show aC _ b (bb + 1) a < 1000000000
              rw [y2]; exact cfin
            · refine y1 bb (by omega) (Nat.le_refl bb) ?_
              rw [← y2]; exact c
        · rw [if_neg (by omega)]
          exact mod J R2 _ w1 w2 w3 w5 (fun e => absurd e hA) (fun _ e => absurd g1 e) fun _ _ => ⟨bb, hbb, fun _ => rfl, fun e => absurd e g2⟩
      · have l : aL (aT (aLt I H) (aA (aNo I H)) hs (m + 1) a b) = 1000000 := if_pos (by omega)
        rw [l, if_neg (by decide)]
        exact mod J R2 _ w1 w2 w3 w5 (fun e => absurd e hA) (fun _ _ => rfl) fun _ e => absurd e g1
  · have bad : XI (d + 3) 219 [.inr 137, .inl x1, .inl x2, .inl x3, .inl x4] n sh R I (fun v2 K => v2 = -1 ∧ Rel (t + 1) K R) := by
      have same : (-1 : Int) = -1 ∧ Rel (t + 1) I R := ⟨rfl, h.fr (by omega) fun _ _ _ => rfl⟩
      refine b_M_table_0 hW ?_
      by_cases g1 : x1 < 0
      · rw [if_pos g1]; exact same
      rw [if_neg g1]
      by_cases g2 : 20 ≤ x1
      · rw [if_pos g2]; exact same
      rw [if_neg g2]
      by_cases g3 : x2 < x1
      · rw [if_pos g3]; exact same
      rw [if_neg g3]
      by_cases g4 : 19 < x2
      · rw [if_pos g4]; exact same
      rw [if_neg g4]
      by_cases g5 : x3 < 1
      · rw [if_pos g5]; exact same
      rw [if_neg g5]
      by_cases g6 : 12 < x3
      · rw [if_pos g6]; exact same
      rw [if_neg g6]
      by_cases g7 : x4 < 0
      · rw [if_pos g7]; exact same
      rw [if_neg g7, if_pos (by omega)]; exact same
    by_cases g1 : x1 < 0
    · rw [if_pos g1]; exact bad
    rw [if_neg g1]
    by_cases g2 : 20 ≤ x1
    · rw [if_pos g2]; exact bad
    rw [if_neg g2]
    by_cases g3 : x2 < 0
    · rw [if_pos g3]; exact bad
    rw [if_neg g3]
    by_cases g4 : 20 ≤ x2
    · rw [if_pos g4]; exact bad
    rw [if_neg g4]
    by_cases g5 : x2 < x1
    · rw [if_pos g5]; exact bad
    rw [if_neg g5]
    by_cases g6 : x3 < 1
    · rw [if_pos g6]; exact bad
    rw [if_neg g6]
    by_cases g7 : 12 < x3
    · rw [if_pos g7]; exact bad
    rw [if_neg g7]
    by_cases g8 : x4 < 0
    · rw [if_pos g8]; exact bad
    rw [if_neg g8, if_neg (by omega)]; exact bad
end TD
