-- TABLES in the model
section MT
variable {d n t : Nat} {sh : ZS} {R : ZR} {B : ZI} {lw S : Nat} {H : List Int} {g : Int} {LA : Nat → Int} {hs : Nat}
def mSr (B : ZI) (H : List Int) (I : ZI) : Prop := ∀ k : Nat, k < 20 → I 167 k = (qCt (sK B H) k H.length : Int)
theorem l_M_let {Q : Int → ZI → Prop} {a b : Nat} {u1 : Option AV} {I : ZI} (hW : Wf sh R) (hh : hIn B H) (hb : b < 20) (hS : mSr B H I) (q : Q (aLt B H (b + 1) - aLt B H a) I) : ∀ c k : Nat, k + c = b + 1 → a ≤ k → XIs d 212 5 [some (.inr 137), u1, some (.inl (b : Int)), some (.inl (aLt B H k - aLt B H a)), some (.inl (k : Int))] [] n sh R I Q
  | 0, k, h, ha => b_M_lettersIn_5 hW (by
    obtain rfl : k = b + 1 := by omega
    rw [if_pos (by omega)]; exact q)
  | c + 1, k, h, ha => b_M_lettersIn_5 hW (by
    have pn := aPN_ok (B := B) hh.1
    have r1 := pn.2.2.1 k
    have r2 := pn.2.2.1 a
    have r3 := pn.2.2.1 (k + 1)
    have s1 : aLt B H (k + 1) = aLt B H k + (qCt (sK B H) k H.length : Int) := rfl
    have e : aLt B H k - aLt B H a + (qCt (sK B H) k H.length : Int) = aLt B H (k + 1) - aLt B H a := by omega
    rw [if_neg (by omega), Int.toNat_natCast, hS k (by omega), e, show (k : Int) + 1 = ((k + 1 : Nat) : Int) by omega]
    exact ⟨by omega, by unfold zr; omega, by unfold zr; omega, l_M_let hW hh hb hS q c (k + 1) (by omega) (by omega)⟩)
theorem s_M_letters {Q : Int → ZI → Prop} {a b : Nat} {I : ZI} (hW : Wf sh R) (hh : hIn B H) (hb : a ≤ b ∧ b < 20) (hS : mSr B H I) (q : Q (aLt B H (b + 1) - aLt B H a) I) : XI d 212 [.inr 137, .inl (a : Int), .inl (b : Int)] n sh R I Q :=
  b_M_lettersIn_0 hW (by
    have e := l_M_let (d := d) (n := n) (a := a) (u1 := some (.inl (a : Int))) hW hh hb.2 hS q (b + 1 - a) a (by omega) (Nat.le_refl a)
    rw [Int.sub_self] at e
    exact e)
theorem l_M_sin {Q : Int → ZI → Prop} {a b : Nat} {u1 : Option AV} {I : ZI} (hW : Wf sh R) (hh : hIn B H) (hb : b < 20) (hS : mSr B H I) (q : Q (if aA (aNo B H) a b = true then 1 else 0) I) : ∀ c k : Nat, k + c = b + 1 → a ≤ k → XIs d 213 5 [some (.inr 137), u1, some (.inl (b : Int)), some (.inl (aNo B H k - aNo B H a)), some (.inl (k : Int))] [] n sh R I Q
  | 0, k, h, ha => b_M_isSingle_5 hW (by
    obtain rfl : k = b + 1 := by omega
    rw [if_pos (by omega)]
    unfold aA at q
    by_cases g1 : 2 ≤ aNo B H (b + 1) - aNo B H a
    · rw [if_pos g1]
      rw [if_neg (by rw [decide_eq_true_iff]; omega)] at q
      exact q
    · rw [if_neg g1]
      rw [if_pos (by rw [decide_eq_true_iff]; omega)] at q
      exact q)
  | c + 1, k, h, ha => b_M_isSingle_5 hW (by
    have pn := aPN_ok (B := B) hh.1
    have r1 := pn.2.2.2 k
    have r2 := pn.2.2.2 a
    have r3 := pn.2.2.2 (k + 1)
    have r4 := pn.2.2.1 k
    have r5 := pn.2.2.1 a
    have r6 := pn.2.2.1 (k + 1)
    have s1 : aNo B H (k + 1) = aNo B H k + (if 0 < qCt (sK B H) k H.length then 1 else 0) := rfl
    have nx : XIs d 213 5 [some (.inr 137), u1, some (.inl (b : Int)), some (.inl (aNo B H (k + 1) - aNo B H a)), some (.inl ((k + 1 : Nat) : Int))] [] n sh R I Q := l_M_sin hW hh hb hS q c (k + 1) (by omega) (by omega)
    rw [if_neg (by omega), Int.toNat_natCast, hS k (by omega), show (k : Int) + 1 = ((k + 1 : Nat) : Int) by omega]
    refine ⟨by omega, ?_⟩
    by_cases g1 : (qCt (sK B H) k H.length : Int) ≤ 0
    · rw [if_neg (by omega)] at s1
      rw [if_pos g1, show aNo B H k - aNo B H a + 0 = aNo B H (k + 1) - aNo B H a by omega]
      exact ⟨by unfold zr; omega, by unfold zr; omega, nx⟩
    · rw [if_pos (by omega)] at s1
      rw [if_neg g1, show aNo B H k - aNo B H a + 1 = aNo B H (k + 1) - aNo B H a by omega]
      exact ⟨by unfold zr; omega, by unfold zr; omega, nx⟩)
theorem s_M_single {Q : Int → ZI → Prop} {a b : Nat} {I : ZI} (hW : Wf sh R) (hh : hIn B H) (hb : a ≤ b ∧ b < 20) (hS : mSr B H I) (q : Q (if aA (aNo B H) a b = true then 1 else 0) I) : XI d 213 [.inr 137, .inl (a : Int), .inl (b : Int)] n sh R I Q :=
  b_M_isSingle_0 hW (by
    have e := l_M_sin (d := d) (n := n) (a := a) (u1 := some (.inl (a : Int))) hW hh hb.2 hS q (b + 1 - a) a (by omega) (Nat.le_refl a)
    rw [Int.sub_self] at e
    exact e)
/-- row by row, what a cover costs -/
def mCv (hs : Nat) (T : Nat → Nat → Int) (b : Nat) (I : ZI) : Prop := ∀ m a, m ≤ hs → a ≤ b + 1 → I 169 (21 * m + a) = aC T b m a
def mTb (T : Nat → Nat → Int) (g b : Nat) (I : ZI) : Prop := ∀ a e, a ≤ e → e ≤ b → I 168 (400 * g + 20 * a + e) = T a e
theorem aC_f {T : Nat → Nat → Int} {W : Nat → Int} (hW : ∀ k, W k ≤ W (k + 1)) (h0 : ∀ k, 0 ≤ W k ∧ W k ≤ 384) (hT : ∀ x y, x ≤ y → aOk W x (y + 1) (T x y)) {b m a : Nat} (h : a ≤ b + 1) : aF (aC T b m a) := by
  have h1 := aC_ok hW hT (b := b) m a h
  have h2 := h0 a
  have h3 := h0 (b + 1)
  unfold aOk at h1
  unfold aF
  omega
theorem l_M_cv40 {Q : ZI → Prop} {T : Nat → Nat → Int} {W : Nat → Int} {gg b m a : Nat} (hW : Wf sh R) (w1 : ∀ k, W k ≤ W (k + 1)) (w0 : ∀ k, 0 ≤ W k ∧ W k ≤ 384) (hT : ∀ x y, x ≤ y → aOk W x (y + 1) (T x y)) (hg : gg ≤ 12) (hb : b < 20) (hm : m + 1 ≤ 9) (ha : a ≤ b) {I : ZI} (hI : mTb T gg b I) (hC : ∀ e, e ≤ b + 1 → I 169 (21 * m + e) = aC T b m e) (q : ∀ x5 x6 : Int, XVs (d + 1) 215 13 [some (.inr 137), some (.inl (gg : Int)), some (.inl (b : Int)), some (.inl ((m + 1 : Nat) : Int)), some (.inl ((a + 1 : Nat) : Int)), some (.inl x5), some (.inl x6)] [] n sh R (zup I 169 (21 * (m + 1) + a) (aC T b (m + 1) a)) Q) : ∀ c k : Nat, a + k + c = b + 1 → XVs (d + 1) 215 40 [some (.inr 137), some (.inl (gg : Int)), some (.inl (b : Int)), some (.inl ((m + 1 : Nat) : Int)), some (.inl (a : Int)), some (.inl (aRun (fun e => aS (T a e) (aC T b m (e + 1))) a k)), some (.inl ((a + k : Nat) : Int))] [] n sh R I Q
  | 0, k, h => b_M_laysCover_40 hW (by
    have e1 : ((21 * ((m + 1 : Nat) : Int)) + (a : Int)).toNat = 21 * (m + 1) + a := by omega
    have e2 : aC T b (m + 1) a = aRun (fun e => aS (T a e) (aC T b m (e + 1))) a (b + 1 - a) := if_neg (by omega)
    rw [if_pos (by omega), e1, show k = b + 1 - a by omega, ← e2, show (a : Int) + 1 = ((a + 1 : Nat) : Int) by omega]
    exact ⟨by unfold zr; omega, by unfold zr; omega, by omega, by unfold zr; omega, q _ _⟩)
  | c + 1, k, h => b_M_laysCover_40 hW (by
    have e1 : (((400 * (gg : Int)) + (20 * (a : Int))) + ((a + k : Nat) : Int)).toNat = 400 * gg + 20 * a + (a + k) := by omega
    have e2 : (((21 * (((m + 1 : Nat) : Int) - 1)) + ((a + k : Nat) : Int)) + 1).toNat = 21 * m + (a + k + 1) := by omega
    have t1 : I 168 (400 * gg + 20 * a + (a + k)) = T a (a + k) := hI a (a + k) (by omega) (by omega)
    have c1 : I 169 (21 * m + (a + k + 1)) = aC T b m (a + k + 1) := hC (a + k + 1) (by omega)
    have f1 : aF (T a (a + k)) := by
      have h1 := hT a (a + k) (by omega)
      have h2 := w0 a
      have h3 := w0 (a + k + 1)
      unfold aOk at h1
      unfold aF
      omega
    have f2 : aF (aC T b m (a + k + 1)) := aC_f w1 w0 hT (by omega)
    have f3 : aRun (fun e => aS (T a e) (aC T b m (e + 1))) a k ≤ 1000000000 := ((aRun_le k).mp (Int.le_refl _)).1
    have st : aRun (fun e => aS (T a e) (aC T b m (e + 1))) a (k + 1) = aMin (aRun (fun e => aS (T a e) (aC T b m (e + 1))) a k) (aS (T a (a + k)) (aC T b m (a + k + 1))) := rfl
    have nx : XVs (d + 1) 215 40 [some (.inr 137), some (.inl (gg : Int)), some (.inl (b : Int)), some (.inl ((m + 1 : Nat) : Int)), some (.inl (a : Int)), some (.inl (aRun (fun e => aS (T a e) (aC T b m (e + 1))) a (k + 1))), some (.inl ((a + (k + 1) : Nat) : Int))] [] n sh R I Q := l_M_cv40 hW w1 w0 hT hg hb hm ha hI hC q c (k + 1) (by omega)
    rw [if_neg (by omega), if_neg (by omega), e1, e2, t1, c1, show ((a + k : Nat) : Int) + 1 = ((a + (k + 1) : Nat) : Int) by omega]
    refine ⟨by unfold zr; omega, by unfold zr; omega, by unfold zr; omega, by unfold zr; omega, by omega, by unfold zr; omega, by unfold zr; omega, by unfold zr; omega, by unfold zr; omega, by omega, ?_⟩
    generalize aRun (fun e => aS (T a e) (aC T b m (e + 1))) a k = r at f3 st ⊢
    generalize T a (a + k) = t at f1 st ⊢
    generalize aC T b m (a + k + 1) = s at f2 st ⊢
    have nx2 : ∀ v : Int, v = aMin r (aS t s) → zr ((a + (k + 1) : Nat) : Int) ∧ XVs (d + 1) 215 40 [some (.inr 137), some (.inl (gg : Int)), some (.inl (b : Int)), some (.inl ((m + 1 : Nat) : Int)), some (.inl (a : Int)), some (.inl v), some (.inl ((a + (k + 1) : Nat) : Int))] [] n sh R I Q := fun v hv => ⟨by unfold zr; omega, by rw [hv, ← st]; exact nx⟩
    unfold aF at f1 f2
    unfold aS aMin at nx2
    by_cases g1 : 1000000000 ≤ t
    · rw [if_pos g1]
      split
      · exact nx2 _ (by (repeat' split) <;> omega)
      · exact nx2 _ (by (repeat' split) <;> omega)
    · rw [if_neg g1]
      by_cases g2 : s < 1000000000
      · rw [if_pos g2]
        refine ⟨by unfold zr; omega, ?_⟩
        split
        · exact nx2 _ (by (repeat' split) <;> omega)
        · exact nx2 _ (by (repeat' split) <;> omega)
      · rw [if_neg g2]
        split
        · exact nx2 _ (by (repeat' split) <;> omega)
        · exact nx2 _ (by (repeat' split) <;> omega))
theorem l_M_cv13 {Q : ZI → Prop} {T : Nat → Nat → Int} {W : Nat → Int} {gg b m : Nat} (hW : Wf sh R) (w1 : ∀ k, W k ≤ W (k + 1)) (w0 : ∀ k, 0 ≤ W k ∧ W k ≤ 384) (hT : ∀ x y, x ≤ y → aOk W x (y + 1) (T x y)) (hg : gg ≤ 12) (hb : b < 20) (hm : m ≤ 9) {I0 : ZI} (hI : mTb T gg b I0) (q : ∀ (J : ZI) (u4 u5 u6 : Option AV), (∀ k a, k < m + 1 → a ≤ b + 1 → J 169 (21 * k + a) = aC T b k a) → (∀ o c, ¬ o = 169 → J o c = I0 o c) → XVs (d + 1) 215 2 [some (.inr 137), some (.inl (gg : Int)), some (.inl (b : Int)), some (.inl ((m + 1 : Nat) : Int)), u4, u5, u6] [] n sh R J Q) : ∀ (c a : Nat) (I : ZI) (u5 u6 : Option AV), a + c = b + 2 → (∀ k e, k < m → e ≤ b + 1 → I 169 (21 * k + e) = aC T b k e) → (∀ e, e < a → I 169 (21 * m + e) = aC T b m e) → (∀ o c, ¬ o = 169 → I o c = I0 o c) → XVs (d + 1) 215 13 [some (.inr 137), some (.inl (gg : Int)), some (.inl (b : Int)), some (.inl (m : Int)), some (.inl (a : Int)), u5, u6] [] n sh R I Q
  | 0, a, I, u5, u6, h, hC, hA, hf => b_M_laysCover_13 hW (by
    rw [if_pos (by omega), show (m : Int) + 1 = ((m + 1 : Nat) : Int) by omega]
    refine ⟨by unfold zr; omega, by unfold zr; omega, q I _ _ _ (fun k e h1 h2 => ?_) hf⟩
    by_cases x : k = m
    · rw [x]; exact hA e (by omega)
    · exact hC k e (by omega) h2)
  | c + 1, a, I, u5, u6, h, hC, hA, hf => b_M_laysCover_13 hW (by
    rw [if_neg (by omega)]
    refine ⟨by unfold zr; omega, ?_⟩
    have nx : ∀ (v : Int) (u5 u6 : Option AV), v = aC T b m a → XVs (d + 1) 215 13 [some (.inr 137), some (.inl (gg : Int)), some (.inl (b : Int)), some (.inl (m : Int)), some (.inl ((a + 1 : Nat) : Int)), u5, u6] [] n sh R (zup I 169 (21 * m + a) v) Q := fun v u5 u6 hv =>
      l_M_cv13 hW w1 w0 hT hg hb hm hI q c (a + 1) _ u5 u6 (by omega) (fun k e h1 h2 => by rw [zup_ne (by omega)]; exact hC k e h1 h2) (fun e h1 => by
        by_cases x : e = a
        · rw [zup_eq ⟨rfl, by omega⟩, hv, x]
        · rw [zup_ne (by omega)]; exact hA e (by omega)) fun o c ho => by rw [zup_ne (by omega)]; exact hf o c ho
    have e1 : ((21 * (m : Int)) + (a : Int)).toNat = 21 * m + a := by omega
    by_cases g1 : a ≤ b
    · rw [if_pos (by omega)]
      cases m with
      | zero =>
        refine b_M_laysCover_40 hW ?_
        rw [if_neg (by omega), if_pos (by decide), e1, show (a : Int) + 1 = ((a + 1 : Nat) : Int) by omega]
        exact ⟨by unfold zr; omega, by unfold zr; omega, by omega, by unfold zr; omega, nx _ _ _ (if_neg (by omega)).symm⟩
      | succ m =>
        exact l_M_cv40 (d := d) (n := n) (gg := gg) hW w1 w0 hT hg hb hm g1 (fun x e h1 h2 => by rw [hf _ _ (by omega)]; exact hI x e h1 h2) (fun e he => hC m e (by omega) he) (fun x5 x6 => nx _ _ _ rfl) (b + 1 - a) 0 (by omega)
    · rw [if_neg (by omega)]
      refine b_M_laysCover_40 hW ?_
      rw [if_pos (by omega), e1, show (a : Int) + 1 = ((a + 1 : Nat) : Int) by omega]
      exact ⟨by unfold zr; omega, by unfold zr; omega, by omega, by unfold zr; omega, nx _ _ _ (aC_gt (by omega)).symm⟩)
theorem l_M_cv2 {Q : ZI → Prop} {T : Nat → Nat → Int} {W : Nat → Int} {gg b : Nat} (hW : Wf sh R) (w1 : ∀ k, W k ≤ W (k + 1)) (w0 : ∀ k, 0 ≤ W k ∧ W k ≤ 384) (hT : ∀ x y, x ≤ y → aOk W x (y + 1) (T x y)) (hg : gg ≤ 12) (hb : b < 20) (hh : hs ≤ 9) {I0 : ZI} (h3 : I0 137 3 = (hs : Int)) (hI : mTb T gg b I0) (q : ∀ J : ZI, mCv hs T b J → (∀ o c, ¬ o = 169 → J o c = I0 o c) → Q J) : ∀ (c m : Nat) (I : ZI) (u4 u5 u6 : Option AV), m + c = hs + 1 → (∀ k e, k < m → e ≤ b + 1 → I 169 (21 * k + e) = aC T b k e) → (∀ o c, ¬ o = 169 → I o c = I0 o c) → XVs (d + 1) 215 2 [some (.inr 137), some (.inl (gg : Int)), some (.inl (b : Int)), some (.inl (m : Int)), u4, u5, u6] [] n sh R I Q
  | 0, m, I, u4, u5, u6, h, hC, hf => b_M_laysCover_2 hW (by
    rw [hf _ _ (by omega), h3, if_pos (by omega)]
    exact q I (fun k a h1 h2 => hC k a (by omega) h2) hf)
  | c + 1, m, I, u4, u5, u6, h, hC, hf => b_M_laysCover_2 hW (by
    rw [hf _ _ (by omega), h3, if_neg (by omega)]
    exact l_M_cv13 (I0 := I) hW w1 w0 hT hg hb (by omega) (fun x e h1 h2 => by rw [hf _ _ (by omega)]; exact hI x e h1 h2) (fun J u4 u5 u6 j1 j2 => l_M_cv2 hW w1 w0 hT hg hb hh h3 hI q c (m + 1) J u4 u5 u6 (by omega) j1 fun o c ho => by rw [j2 o c ho]; exact hf o c ho) (b + 2) 0 I _ _ (by omega) hC (fun e he => absurd he (by omega)) fun _ _ _ => rfl)
theorem s_M_cover {Q : ZI → Prop} {T : Nat → Nat → Int} {W : Nat → Int} {gg b : Nat} {I : ZI} (hW : Wf sh R) (w1 : ∀ k, W k ≤ W (k + 1)) (w0 : ∀ k, 0 ≤ W k ∧ W k ≤ 384) (hT : ∀ x y, x ≤ y → aOk W x (y + 1) (T x y)) (hg : gg ≤ 12) (hb : b < 20) (hh : hs ≤ 9) (h3 : I 137 3 = (hs : Int)) (hI : mTb T gg b I) (q : ∀ J : ZI, mCv hs T b J → (∀ o c, ¬ o = 169 → J o c = I o c) → Q J) : XV (d + 1) 215 [.inr 137, .inl (gg : Int), .inl (b : Int)] n sh R I Q :=
  b_M_laysCover_0 hW (l_M_cv2 hW w1 w0 hT hg hb hh h3 hI q (hs + 1) 0 I _ _ _ (by omega) (fun k e h1 h2 => absurd h1 (by omega)) fun _ _ _ => rfl)
def mTn (P : Nat → Int) (A : Nat → Nat → Bool) (hs D : Nat) (I : ZI) : Prop := ∀ g a b, g < D → a ≤ b → b < 20 → I 168 (400 * g + 20 * a + b) = aT P A hs g a b
theorem l_M_tb34 {Q : ZI → Prop} {D k b : Nat} (hW : Wf sh R) (hh : hIn B H) (hs9 : 1 ≤ hs ∧ hs ≤ 9) (hD : D ≤ 12) (hk : k ≤ D) (hb : b < 20) {I0 : ZI} (h3 : I0 137 3 = (hs : Int)) (hS : mSr B H I0) (hC : 0 < k → ∃ j, k = j + 1 ∧ mCv hs (aT (aLt B H) (aA (aNo B H)) hs j) b I0) (q : ∀ (J : ZI) (u4 : Option AV), (∀ a, a ≤ b → J 168 (400 * k + 20 * a + b) = aT (aLt B H) (aA (aNo B H)) hs k a b) → (∀ o c, ¬ (o = 168 ∧ ∃ a, a ≤ b ∧ c = 400 * k + 20 * a + b) → J o c = I0 o c) → XVs (d + 2) 216 13 [some (.inr 137), some (.inl (D : Int)), some (.inl (k : Int)), some (.inl ((b + 1 : Nat) : Int)), u4] [] n sh R J Q) : ∀ (c a : Nat) (I : ZI), a + c = b + 1 → (∀ x, x < a → I 168 (400 * k + 20 * x + b) = aT (aLt B H) (aA (aNo B H)) hs k x b) → (∀ o c, ¬ (o = 168 ∧ ∃ a, a ≤ b ∧ c = 400 * k + 20 * a + b) → I o c = I0 o c) → XVs (d + 2) 216 34 [some (.inr 137), some (.inl (D : Int)), some (.inl (k : Int)), some (.inl (b : Int)), some (.inl (a : Int))] [] n sh R I Q
  | 0, a, I, h, hA, hf => b_M_laysTables_34 hW (by
    rw [if_pos (by omega), show (b : Int) + 1 = ((b + 1 : Nat) : Int) by omega]
    exact ⟨by unfold zr; omega, q I _ (fun x hx => hA x (by omega)) hf⟩)
  | c + 1, a, I, h, hA, hf => b_M_laysTables_34 hW (by
    have hS2 : mSr B H I := fun k hk => by rw [hf _ _ (by omega)]; exact hS k hk
    have hP := aPN_ok (B := B) hh.1
    have e1 : (((400 * (k : Int)) + (20 * (a : Int))) + (b : Int)).toNat = 400 * k + 20 * a + b := by omega
    have nx : ∀ v : Int, v = aT (aLt B H) (aA (aNo B H)) hs k a b → (0 ≤ (((400 * (k : Int)) + (20 * (a : Int))) + (b : Int)) ∧ (((400 * (k : Int)) + (20 * (a : Int))) + (b : Int)) < 5200) ∧ (zr ((a : Int) + 1)) ∧ XVs (d + 2) 216 34 [some (.inr 137), some (.inl (D : Int)), some (.inl (k : Int)), some (.inl (b : Int)), some (.inl ((a : Int) + 1))] [] n sh R (zup I 168 (((400 * (k : Int)) + (20 * (a : Int))) + (b : Int)).toNat v) Q := fun v hv => by
      rw [e1, show (a : Int) + 1 = ((a + 1 : Nat) : Int) by omega]
      refine ⟨by omega, by unfold zr; omega, l_M_tb34 hW hh hs9 hD hk hb h3 hS hC q c (a + 1) _ (by omega) (fun x hx => ?_) fun o c ho => ?_⟩
      · by_cases e : x = a
        · rw [zup_eq ⟨rfl, by rw [e]⟩, hv, e]
        · rw [zup_ne (by omega)]; exact hA x (by omega)
      · by_cases e : o = 168 ∧ c = 400 * k + 20 * a + b
        · exact absurd ⟨e.1, a, by omega, e.2⟩ ho
        · rw [zup_ne e]; exact hf o c ho
    rw [if_neg (by omega)]
    refine ⟨by unfold zr; omega, by unfold zr; omega, by unfold zr; omega, by unfold zr; omega, s_M_single hW hh (by omega) hS2 ?_⟩
    by_cases gA : aA (aNo B H) a b = true
    · rw [if_pos gA, if_neg (by decide)]
      refine nx _ ?_
      cases k with
      | zero => exact (if_pos gA).symm
      | succ k => exact (if_pos gA).symm
    · rw [if_neg gA, if_pos rfl]
      by_cases g0 : k = 0
      · subst g0
        rw [if_neg (by decide)]
        exact nx _ (if_neg gA).symm
      · rw [if_pos (by omega)]
        obtain ⟨j, rfl, hC2⟩ := hC (by omega)
        refine s_M_letters hW hh (by omega) hS2 ?_
        have i3 : I 137 3 = (hs : Int) := by rw [hf _ _ (by omega)]; exact h3
        have e2 : ((21 * (hs : Int)) + (a : Int)).toNat = 21 * hs + a := by omega
        have c1 : I 169 (21 * hs + a) = aC (aT (aLt B H) (aA (aNo B H)) hs j) b hs a := by rw [hf _ _ (by omega)]; exact hC2 hs a (Nat.le_refl hs) (by omega)
        have f2 : aF (aC (aT (aLt B H) (aA (aNo B H)) hs j) b hs a) := aC_f (aW_up hP.1 j) (fun k => by have := aW_le hP.2.2.1 j k; omega) (aT_ok hP.1 j) (by omega)
        have r1 := hP.2.2.1 (b + 1)
        have r2 := hP.2.2.1 a
        have r3 := aUp hP.1 (show a ≤ b + 1 by omega)
        have e3 : aT (aLt B H) (aA (aNo B H)) hs (j + 1) a b = aS (aLt B H (b + 1) - aLt B H a) (aC (aT (aLt B H) (aA (aNo B H)) hs j) b hs a) := if_neg gA
        rw [e3] at nx
        rw [i3, e2, c1]
        refine ⟨by unfold zr; omega, by unfold zr; omega, by omega, ?_⟩
        rw [if_neg (by omega)]
        generalize aC (aT (aLt B H) (aA (aNo B H)) hs j) b hs a = s at f2 nx ⊢
        unfold aF at f2
        unfold aS aMin at nx
        by_cases g2 : s < 1000000000
        · rw [if_pos g2]
          exact ⟨by unfold zr; omega, nx _ (by split <;> omega)⟩
        · rw [if_neg g2]
          exact nx _ (by split <;> omega))
theorem l_M_tb13 {Q : ZI → Prop} {D k : Nat} (hW : Wf sh R) (hh : hIn B H) (hs9 : 1 ≤ hs ∧ hs ≤ 9) (hD : D ≤ 12) (hk : k ≤ D) {I0 : ZI} (h3 : I0 137 3 = (hs : Int)) (hS : mSr B H I0) (hT : mTn (aLt B H) (aA (aNo B H)) hs k I0) (q : ∀ (J : ZI) (u3 u4 : Option AV), mTn (aLt B H) (aA (aNo B H)) hs (k + 1) J → (∀ o c, ¬ o = 168 → ¬ o = 169 → J o c = I0 o c) → XVs (d + 2) 216 6 [some (.inr 137), some (.inl (D : Int)), some (.inl ((k + 1 : Nat) : Int)), u3, u4] [] n sh R J Q) : ∀ (c b : Nat) (I : ZI) (u4 : Option AV), b + c = 20 → mTn (aLt B H) (aA (aNo B H)) hs k I → (∀ x z, x ≤ z → z < b → I 168 (400 * k + 20 * x + z) = aT (aLt B H) (aA (aNo B H)) hs k x z) → (∀ o c, ¬ o = 168 → ¬ o = 169 → I o c = I0 o c) → XVs (d + 2) 216 13 [some (.inr 137), some (.inl (D : Int)), some (.inl (k : Int)), some (.inl (b : Int)), u4] [] n sh R I Q
  | 0, b, I, u4, h, hI, hB, hf => b_M_laysTables_13 hW (by
    rw [if_pos (by omega), show (k : Int) + 1 = ((k + 1 : Nat) : Int) by omega]
    refine ⟨by unfold zr; omega, q I _ _ (fun x a z h1 h2 h4 => ?_) hf⟩
    by_cases e : x = k
    · rw [e]; exact hB a z h2 (by omega)
    · exact hI x a z (by omega) h2 h4)
  | c + 1, b, I, u4, h, hI, hB, hf => b_M_laysTables_13 hW (by
    have hP := aPN_ok (B := B) hh.1
    rw [if_neg (by omega)]
    have core : ∀ J : ZI, (∀ o c, ¬ o = 169 → J o c = I o c) → (0 < k → ∃ j, k = j + 1 ∧ mCv hs (aT (aLt B H) (aA (aNo B H)) hs j) b J) → XVs (d + 2) 216 34 [some (.inr 137), some (.inl (D : Int)), some (.inl (k : Int)), some (.inl (b : Int)), some (.inl 0)] [] n sh R J Q := fun J jf jC => by
      refine l_M_tb34 (k := k) (I0 := J) hW hh hs9 hD hk (show b < 20 by omega) (by rw [jf _ _ (by omega), hf _ _ (by omega) (by omega)]; exact h3) (fun k hk => by rw [jf _ _ (by omega), hf _ _ (by omega) (by omega)]; exact hS k hk) jC (fun K u4 k1 k2 => ?_) (b + 1) 0 J (by omega) (fun x hx => absurd hx (by omega)) fun _ _ _ => rfl
      refine l_M_tb13 hW hh hs9 hD hk h3 hS hT q c (b + 1) K u4 (by omega) (fun x a z h1 h2 h4 => ?_) (fun x z h1 h2 => ?_) fun o c g1 g2 => ?_
      · rw [k2 _ _ (fun e => by obtain ⟨_, y, e1, e2⟩ := e; omega), jf _ _ (by omega)]; exact hI x a z h1 h2 h4
      · by_cases e : z = b
        · rw [e]; exact k1 x (by omega)
        · rw [k2 _ _ (fun e => by obtain ⟨_, y, e1, e2⟩ := e; omega), jf _ _ (by omega)]; exact hB x z h1 (by omega)
      · rw [k2 _ _ (fun e => g1 e.1), jf _ _ g2]; exact hf o c g1 g2
    by_cases g0 : k = 0
    · rw [if_pos (by omega)]
      exact core I (fun _ _ _ => rfl) fun e => absurd e (by omega)
    · rw [if_neg (by omega)]
      obtain ⟨j, rfl⟩ : ∃ j, k = j + 1 := ⟨k - 1, by omega⟩
      rw [show ((j + 1 : Nat) : Int) - 1 = (j : Int) by omega]
      refine ⟨by unfold zr; omega, s_M_cover (T := aT (aLt B H) (aA (aNo B H)) hs j) (W := aW (aLt B H) j) (hs := hs) hW (aW_up hP.1 j) (fun k => by have := aW_le hP.2.2.1 j k; omega) (aT_ok hP.1 j) (by omega) (by omega) hs9.2 (by rw [hf _ _ (by omega) (by omega)]; exact h3) (fun a e h1 h2 => hI j a e (by omega) h1 (by omega)) fun J j1 j2 => core J j2 fun _ => ⟨j, rfl, j1⟩⟩)
theorem l_M_tb6 {Q : ZI → Prop} {D : Nat} (hW : Wf sh R) (hh : hIn B H) (hs9 : 1 ≤ hs ∧ hs ≤ 9) (hD : D ≤ 12) {I0 : ZI} (h3 : I0 137 3 = (hs : Int)) (hS : mSr B H I0) (q : ∀ J : ZI, mTn (aLt B H) (aA (aNo B H)) hs (D + 1) J → (∀ o c, ¬ o = 168 → ¬ o = 169 → J o c = I0 o c) → Q J) : ∀ (c k : Nat) (I : ZI) (u3 u4 : Option AV), k + c = D + 1 → mTn (aLt B H) (aA (aNo B H)) hs k I → (∀ o c, ¬ o = 168 → ¬ o = 169 → I o c = I0 o c) → XVs (d + 2) 216 6 [some (.inr 137), some (.inl (D : Int)), some (.inl (k : Int)), u3, u4] [] n sh R I Q
  | 0, k, I, u3, u4, h, hI, hf => b_M_laysTables_6 hW (by
    obtain rfl : k = D + 1 := by omega
    rw [if_pos (by omega)]
    exact q I hI hf)
  | c + 1, k, I, u3, u4, h, hI, hf => b_M_laysTables_6 hW (by
    rw [if_neg (by omega)]
    refine l_M_tb13 (I0 := I) hW hh hs9 hD (show k ≤ D by omega) (by rw [hf _ _ (by omega) (by omega)]; exact h3) (fun k hk => by rw [hf _ _ (by omega) (by omega)]; exact hS k hk) hI (fun J u3 u4 j1 j2 => l_M_tb6 hW hh hs9 hD h3 hS q c (k + 1) J u3 u4 (by omega) j1 fun o c g1 g2 => by rw [j2 o c g1 g2]; exact hf o c g1 g2) 20 0 I _ (by omega) hI (fun x z h1 h2 => absurd h2 (by omega)) fun _ _ _ _ => rfl)
theorem s_M_laysTables {Q : ZI → Prop} {D : Nat} {I : ZI} (hW : Wf sh R) (hb : bOk B S) (hh : hIn B H) (hs9 : 1 ≤ hs ∧ hs ≤ 9) (hD : D ≤ 12) (h3 : I 137 3 = (hs : Int)) (hE : mEnv B I) (hH : mSt I H g LA) (q : ∀ J : ZI, mSr B H J → mTn (aLt B H) (aA (aNo B H)) hs (D + 1) J → (∀ o c, ¬ o = 167 → ¬ o = 168 → ¬ o = 169 → J o c = I o c) → Q J) : XV (d + 2) 216 [.inr 137, .inl (D : Int)] n sh R I Q :=
  b_M_laysTables_0 hW (s_M_laysStreets hW hb hh hE hH fun J j1 j2 => l_M_tb6 (I0 := J) hW hh hs9 hD (by rw [j2 _ _ (by omega)]; exact h3) j1 (fun K k1 k2 => q K (fun k hk => by rw [k2 _ _ (by omega) (by omega)]; exact j1 k hk) k1 fun o c g1 g2 g3 => by rw [k2 o c g2 g3, j2 o c g1]) (D + 1) 0 J _ _ (by omega) (fun x a z h1 h2 h4 => absurd h1 (by omega)) fun _ _ _ _ => rfl)
end MT
