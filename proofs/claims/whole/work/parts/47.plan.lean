-- THE PLAN: the model's way; calls
section PM
variable {d n t : Nat} {sh : ZS} {R : ZR} {x1 x2 x3 x4 x5 : Int} {hs pp : Int} {g : Nat} {K ks F L : Nat → Int} {c m : Nat}
theorem l_M_way1 {I : ZI} {Q : Int → ZI → Prop} {u2 : Option AV} {w : Int} (hW : Wf sh R) (hh : 1 ≤ hs ∧ hs ≤ 9) (hg : g ≤ 6) (h3 : I 137 3 = hs) (q : XIs (d + 1) 203 37 [some (.inr 137), some (.inl (g : Int)), u2, some (.inl w), some (.inl (wE hs (g - 1))), some (.inl 0), some (.inl ((g : Int) - 1))] [] n sh R I Q) : ∀ (f j : Nat), (j + 1 + f = g ∨ g = 0 ∧ f = 0 ∧ j = 0) → XIs (d + 1) 203 11 [some (.inr 137), some (.inl (g : Int)), u2, some (.inl w), some (.inl (wE hs j)), some (.inl 0), some (.inl ((j + 1 : Nat) : Int))] [] n sh R I Q
  | 0, j, h => b_M_readsWay_11 hW (by
    rw [if_pos (by omega)]
    obtain rfl : g - 1 = j := by omega
    exact ⟨by unfold zr; omega, q⟩)
  | f + 1, j, h => b_M_readsWay_11 hW (by
    have p := wE_pos hh.1 (j + 1)
    have l := wE_le hh (k := j + 1) (by omega)
    have e : wE hs j * hs = wE hs (j + 1) := rfl
    rw [h3, if_neg (by omega), e]
    refine ⟨by unfold zr; omega, by unfold zr; omega, ?_⟩
    rw [show ((j + 1 : Nat) : Int) + 1 = ((j + 1 + 1 : Nat) : Int) by omega]
    exact l_M_way1 hW hh hg h3 q f (j + 1) (by omega))
theorem l_M_way2 {Q : Int → ZI → Prop} {u1 u2 : Option AV} (hW : Wf sh R) (hh : 1 ≤ hs ∧ hs ≤ 9) : ∀ (r : Nat) (I : ZI) (w y : Int) (b : Bool), r ≤ 5 → I 137 3 = hs → I 137 4 = pp → 0 ≤ w ∧ w < wE hs r → (1 ≤ r → y = wE hs (r - 1)) → (∀ J : ZI, (∀ k, k < r → J 165 k = wHol hs pp r w k) → (∀ a k, ¬ (a = 165 ∧ k < r) → J a k = I a k) → Q (if wTurn hs pp r w b = true then 1 else 0) J) → XIs (d + 1) 203 37 [some (.inr 137), u1, u2, some (.inl w), some (.inl y), some (.inl (if b = true then 1 else 0)), some (.inl ((r : Int) - 1))] [] n sh R I Q
  | 0, I, w, y, b, hr, h3, h4, hw, hy, q => b_M_readsWay_37 hW (by
    rw [if_pos (by omega)]
    refine ⟨by cases b <;> simp, ?_⟩
    exact q I (fun k hk => absurd hk (by omega)) fun _ _ _ => rfl)
  | r + 1, I, w, y, b, hr, h3, h4, hw, hy, q => b_M_readsWay_37 hW (by
    have e0 : ((r + 1 : Nat) : Int) - 1 = (r : Int) := by omega
    rw [e0, if_neg (by omega)]
    have ey : y = wE hs r := hy (by omega)
    subst ey
    have p := wE_pos hh.1 r
    have l := wE_le hh (k := r) (by omega)
    have l2 := wE_le hh (k := r + 1) (by omega)
    have qr := wQ_range hh.1 hw
    have nr := wNx_range (h := hs) (pp := pp) (w := w) (r := r) hh.1
    have m1 := Int.emod_nonneg w (b := wE hs r) (by omega)
    have m2 := Int.emod_lt_of_pos w (b := wE hs r) (by omega)
    have ed : 1 ≤ r → wE hs r / hs = wE hs (r - 1) := fun h1 => by
      obtain ⟨r2, rfl⟩ : ∃ r2, r = r2 + 1 := ⟨r - 1, by omega⟩
      exact wE_div hh.1 r2
    have e3 : (r : Int) + -1 = (r : Int) - 1 := by omega
    have ih : ∀ b2 : Bool, (if wPi pp (w / wE hs r) = true then !b else b) = b2 → XIs (d + 1) 203 37 [some (.inr 137), u1, u2, some (.inl (wNx hs pp r w)), some (.inl (wE hs r / hs)), some (.inl (if b2 = true then 1 else 0)), some (.inl ((r : Int) - 1))] [] n sh R (zup I 165 r (w / wE hs r)) Q := fun b2 hb2 => by
      refine l_M_way2 hW hh r _ _ _ b2 (by omega) (by rw [zup_ne (by omega)]; exact h3) (by rw [zup_ne (by omega)]; exact h4) nr ed fun J j1 j2 => ?_
      have q1 := q J (fun k hk => ?_) fun a k hk => by rw [j2 a k (by omega), zup_ne (by omega)]
      · have et : wTurn hs pp (r + 1) w b = wTurn hs pp r (wNx hs pp r w) (if wPi pp (w / wE hs r) = true then !b else b) := rfl
        rw [et, hb2] at q1
        exact q1
      · show _ = if k = r then w / wE hs r else wHol hs pp r (wNx hs pp r w) k
        by_cases g2 : k = r
        · subst g2; rw [if_pos rfl, j2 165 k (by omega), zup_eq ⟨rfl, rfl⟩]
        · rw [if_neg g2]; exact j1 k (by omega)
    rw [Int.toNat_natCast, zup_eq ⟨rfl, rfl⟩, h4, h3]
    refine ⟨by omega, by omega, by omega, by omega, ?_⟩
    rw [e3]
    by_cases g3 : wPi pp (w / wE hs r) = true
    · have z1 : zand (zshr pp (w / wE hs r)) 1 = 1 := of_decide_eq_true g3
      rw [if_neg (not_not_intro z1)]
      refine ⟨by unfold zr; omega, by unfold zr; omega, ?_⟩
      have ih2 := ih (!b) (if_pos g3)
      unfold wNx at ih2
      rw [if_pos g3] at ih2
      cases b with
      | true =>
        rw [if_pos (by decide)]
        exact ⟨by omega, by omega, by unfold zr; omega, ih2⟩
      | false =>
        rw [if_neg (by decide)]
        exact ⟨by omega, by omega, by unfold zr; omega, ih2⟩
    · have z1 : ¬ zand (zshr pp (w / wE hs r)) 1 = 1 := fun c => g3 (decide_eq_true c)
      have ih2 := ih b (if_neg g3)
      unfold wNx at ih2
      rw [if_neg g3] at ih2
      rw [if_pos z1]
      exact ⟨by omega, by omega, by unfold zr; omega, ih2⟩)
theorem s_M_readsWay {I : ZI} {Q : Int → ZI → Prop} {w : Int} (hW : Wf sh R) (hh : 1 ≤ hs ∧ hs ≤ 9) (hg : g ≤ 5) (h3 : I 137 3 = hs) (h4 : I 137 4 = pp) (hw : 0 ≤ w ∧ w < wE hs g) (q : ∀ J : ZI, (∀ k, k < g → J 165 k = wHol hs pp g w k) → (∀ a k, ¬ a = 165 → J a k = I a k) → Q (if wD hs pp g w = true then 0 else 1) J) : XI (d + 1) 203 [.inr 137, .inl (g : Int), .inl w] n sh R I Q := by
  refine b_M_readsWay_0 hW (l_M_way1 (g := g) (hs := hs) hW hh (by omega) h3 ?_ (g - 1) 0 (by omega))
  refine l_M_way2 hW hh g I w _ false hg h3 h4 hw (fun _ => rfl) fun J j1 j2 => ?_
  have q1 := q J j1 fun a k hk => j2 a k (by omega)
  unfold wD at q1
  cases e : wTurn hs pp g w false with
  | true => rw [e] at q1; exact q1
  | false => rw [e] at q1; exact q1
/-- the plan's holes -/
def wP (I : ZI) (hs pp : Int) (g : Nat) (F L : Nat → Int) (i : Nat) : Prop := ∀ j, j < i → ∀ k, k < g → I 166 (5 * j + k) = wHol hs pp g (wW hs pp F L g j) k
theorem l_M_plan69 {Q : Int → ZI → Prop} {w : Int} {v5 : Int} {i : Nat} (hW : Wf sh R) (hg : g ≤ 5) (hi : i < 20) : ∀ (f k : Nat) (I : ZI) (u6 : Option AV), k + f = g → (∀ k, k < g → I 165 k = wHol hs pp g w k) → (∀ k2, k2 < k → I 166 (5 * i + k2) = wHol hs pp g w k2) → (∀ J : ZI, (∀ k2, k2 < g → J 166 (5 * i + k2) = wHol hs pp g w k2) → (∀ a b, ¬ (a = 166 ∧ 5 * i ≤ b ∧ b < 5 * i + g) → J a b = I a b) → ∀ u6 : Option AV, XIs (d + 2) 204 69 [some (.inr 137), some (.inl (g : Int)), some (.inl x2), some (.inl (i : Int)), some (.inl x4), some (.inl v5), u6, some (.inl (g : Int))] [] n sh R J Q) → XIs (d + 2) 204 69 [some (.inr 137), some (.inl (g : Int)), some (.inl x2), some (.inl (i : Int)), some (.inl x4), some (.inl v5), u6, some (.inl (k : Int))] [] n sh R I Q
  | 0, k, I, u6, h, h5, h6, q => by
    obtain rfl : k = g := by omega
    exact q I h6 (fun _ _ _ => rfl) u6
  | f + 1, k, I, u6, h, h5, h6, q => b_M_plansBy_69 hW (by
    rw [if_neg (by omega)]
    have e1 : (5 * (i : Int) + (k : Int)).toNat = 5 * i + k := by omega
    rw [e1, Int.toNat_natCast, h5 k (by omega)]
    refine ⟨by unfold zr; omega, by unfold zr; omega, by omega, by omega, by unfold zr; omega, ?_⟩
    rw [show (k : Int) + 1 = ((k + 1 : Nat) : Int) by omega]
    refine l_M_plan69 hW hg hi f (k + 1) _ u6 (by omega) (fun k2 hk => by rw [zup_ne (by omega)]; exact h5 k2 hk) (fun k2 hk => ?_) fun J j1 j2 u6 => q J j1 (fun a b hab => by rw [j2 a b hab, zup_ne (by omega)]) u6
    by_cases e : k2 = k
    · subst e; rw [zup_eq ⟨rfl, rfl⟩]
    · rw [zup_ne (by omega)]; exact h6 k2 (by omega))
theorem l_M_put {Q : Int → ZI → Prop} (hW : Wf sh R) (hh : 1 ≤ hs ∧ hs ≤ 9) (hg : g ≤ 5) (hq : qOk K m c ks F L) : ∀ (f i : Nat) (I : ZI) (u6 : Option AV), i + 1 + f = c → I 137 3 = hs → I 137 4 = pp → qM I c ks F L → wW hs pp F L g i < wE hs g → (∀ k, k < g → I 165 k = wHol hs pp g (wW hs pp F L g i) k) → wP I hs pp g F L i → (∀ (J : ZI), (wW hs pp F L g (c - 1) < wE hs g → wP J hs pp g F L c) → (∀ a b, ¬ a = 165 → ¬ a = 166 → J a b = I a b) → Q (if wW hs pp F L g (c - 1) < wE hs g then 1 else 0) J) → XIs (d + 2) 204 69 [some (.inr 137), some (.inl (g : Int)), some (.inl (wE hs g)), some (.inl (i : Int)), some (.inl (wW hs pp F L g i)), some (.inl (if wD hs pp g (wW hs pp F L g i) = true then 0 else 1)), u6, some (.inl 0)] [] n sh R I Q := by
  intro f
  induction f with
  | zero =>
    intro i I u6 h h3 h4 hM hw h5 h6 q
    have c9 := hq.1
    have p := wE_le hh (k := g) (by omega)
    have w0 := wW_pos (h := hs) (pp := pp) (F := F) (L := L) (g := g) i
    refine l_M_plan69 hW hg (by omega) g 0 I u6 (by omega) h5 (fun k hk => absurd hk (by omega)) fun J j1 j2 u6 => b_M_plansBy_69 hW ?_
    obtain rfl : c - 1 = i := by omega
    have q1 := q J (fun _ j hj k hk => by
      by_cases e : j = c - 1
      · subst e; exact j1 k hk
      · rw [j2 _ _ (by omega)]; exact h6 j (by omega) k hk) fun a b h1 h2 => j2 a b (by omega)
    rw [if_pos hw] at q1
    rw [if_pos (by omega), j2 137 45 (by omega), hM.1, if_pos (by omega)]
    refine ⟨by unfold zr; omega, b_M_plansBy_53 hW ?_⟩
    rw [if_pos rfl]
    refine ⟨by unfold zr; omega, b_M_plansBy_27 hW ?_⟩
    rw [j2 137 45 (by omega), hM.1]
    split
    · rw [if_neg (not_not_intro (by omega))]; exact q1
    · rw [if_pos (by omega), if_neg (not_not_intro (by omega))]; exact q1
  | succ f ih =>
    intro i I u6 h h3 h4 hM hw h5 h6 q
    have c9 := hq.1
    have p := wE_le hh (k := g) (by omega)
    have w0 := wW_pos (h := hs) (pp := pp) (F := F) (L := L) (g := g) i
    have e3 : (i : Int) + 1 = ((i + 1 : Nat) : Int) := by omega
    have es : wW hs pp F L g (i + 1) = if qG F L (wD hs pp g (wW hs pp F L g i)) i = true then wW hs pp F L g i else wW hs pp F L g i + 1 := rfl
    refine l_M_plan69 hW hg (by omega) g 0 I u6 (by omega) h5 (fun k hk => absurd hk (by omega)) fun J j1 j2 u6 => b_M_plansBy_69 hW ?_
    have hM2 : qM J c ks F L := ⟨by rw [j2 _ _ (by omega)]; exact hM.1, fun j hj => by rw [j2 _ _ (by omega), j2 _ _ (by omega), j2 _ _ (by omega)]; exact hM.2 j hj⟩
    have h62 : wP J hs pp g F L (i + 1) := fun j hj k hk => by
      by_cases e : j = i
      · subst e; exact j1 k hk
      · rw [j2 _ _ (by omega)]; exact h6 j (by omega) k hk
    have h52 : ∀ k, k < g → J 165 k = wHol hs pp g (wW hs pp F L g i) k := fun k hk => by rw [j2 _ _ (by omega)]; exact h5 k hk
    have h32 : J 137 3 = hs := by rw [j2 _ _ (by omega)]; exact h3
    have h42 : J 137 4 = pp := by rw [j2 _ _ (by omega)]; exact h4
    rw [if_pos (by omega), hM2.1, if_neg (by omega)]
    refine ⟨by unfold zr; omega, ?_⟩
    refine s_M_goTogether (fw := wD hs pp g (wW hs pp F L g i)) hW hq hM2 (by omega) rfl ?_
    by_cases g2 : qG F L (wD hs pp g (wW hs pp F L g i)) i = true
    · rw [if_pos g2] at es
      rw [if_pos g2, if_neg (by decide)]
      refine b_M_plansBy_53 hW ?_
      rw [if_neg (by decide), hM2.1, if_neg (by omega)]
      have z := ih (i + 1) J (some (.inl 1)) (by omega) h32 h42 hM2 (by rw [es]; exact hw) (by rw [es]; exact h52) h62 fun J2 k1 k2 => q J2 k1 fun a b h1 h2 => by rw [k2 a b h1 h2, j2 a b (by omega)]
      rw [es] at z
      rw [e3]; exact z
    · rw [if_neg g2] at es
      rw [if_neg g2, if_pos rfl]
      refine b_M_plansBy_53 hW ?_
      rw [if_pos rfl]
      refine ⟨by unfold zr; omega, b_M_plansBy_27 hW ?_⟩
      rw [hM2.1]
      by_cases g1 : wE hs g ≤ wW hs pp F L g i + 1
      · rw [if_pos g1, if_pos (by omega)]
        have mo := wW_mono (h := hs) (pp := pp) (F := F) (L := L) (g := g) (i + 1) (c - 1 - (i + 1))
        rw [show i + 1 + (c - 1 - (i + 1)) = c - 1 by omega] at mo
        have q1 := q J (fun c => absurd c (by omega)) fun a b h1 h2 => j2 a b (by omega)
        rw [if_neg (by omega)] at q1
        exact q1
      · rw [if_neg g1, if_neg (by omega)]
        refine s_M_readsWay hW hh hg h32 h42 (by omega) fun J2 k1 k2 => b_M_plansBy_53 hW ?_
        have hM3 : qM J2 c ks F L := ⟨by rw [k2 _ _ (by omega)]; exact hM2.1, fun j hj => by rw [k2 _ _ (by omega), k2 _ _ (by omega), k2 _ _ (by omega)]; exact hM2.2 j hj⟩
        rw [if_neg (by decide), hM3.1, if_neg (by omega)]
        have z := ih (i + 1) J2 (some (.inl 1)) (by omega) (by rw [k2 _ _ (by omega)]; exact h32) (by rw [k2 _ _ (by omega)]; exact h42) hM3 (by rw [es]; omega) (by rw [es]; exact k1) (fun j hj k hk => by rw [k2 _ _ (by omega)]; exact h62 j hj k hk) fun J3 l1 l2 => q J3 l1 fun a b h1 h2 => by rw [l2 a b h1 h2, k2 a b h1, j2 a b (by omega)]
        rw [es] at z
        rw [e3]; exact z
theorem l_M_ways {I : ZI} {Q : Int → ZI → Prop} {u4 u5 u6 u7 : Option AV} (hW : Wf sh R) (hh : 1 ≤ hs ∧ hs ≤ 9) (hg : g ≤ 5) (h3 : I 137 3 = hs) (q : XIs (d + 2) 204 27 [some (.inr 137), some (.inl (g : Int)), some (.inl (wE hs g)), some (.inl 0), some (.inl 0), u5, u6, u7] [] n sh R I Q) : ∀ (f k : Nat), k + f = g → XIs (d + 2) 204 4 [some (.inr 137), some (.inl (g : Int)), some (.inl (wE hs k)), some (.inl (k : Int)), u4, u5, u6, u7] [] n sh R I Q
  | 0, k, h => b_M_plansBy_4 hW (by
    rw [if_pos (by omega)]
    obtain rfl : k = g := by omega
    exact q)
  | f + 1, k, h => b_M_plansBy_4 hW (by
    have p := wE_pos hh.1 (k + 1)
    have l := wE_le hh (k := k + 1) (by omega)
    have e : wE hs k * hs = wE hs (k + 1) := rfl
    rw [h3, if_neg (by omega), e]
    refine ⟨by unfold zr; omega, by unfold zr; omega, ?_⟩
    rw [show (k : Int) + 1 = ((k + 1 : Nat) : Int) by omega]
    exact l_M_ways hW hh hg h3 q f (k + 1) (by omega))
theorem s_M_plansBy {I : ZI} {Q : Int → ZI → Prop} (hW : Wf sh R) (hh : 1 ≤ hs ∧ hs ≤ 9) (hg : g ≤ 5) (hq : qOk K m c ks F L) (h3 : I 137 3 = hs) (h4 : I 137 4 = pp) (hM : qM I c ks F L) (q : ∀ (J : ZI), (wOk hs pp F L c g = true → wP J hs pp g F L c) → (∀ a b, ¬ a = 165 → ¬ a = 166 → J a b = I a b) → Q (if wOk hs pp F L c g = true then 1 else 0) J) : XI (d + 2) 204 [.inr 137, .inl (g : Int)] n sh R I Q := by
  have p := wE_le hh (k := g) (by omega)
  have p1 := wE_pos hh.1 g
  refine b_M_plansBy_0 hW (l_M_ways (g := g) (hs := hs) hW hh hg h3 (b_M_plansBy_27 hW ?_) g 0 (by omega))
  rw [hM.1, if_neg (by omega)]
  by_cases g0 : c = 0
  · have e : wOk hs pp F L c g = true := decide_eq_true (.inl g0)
    have q1 := q I (fun _ j hj => by omega) fun _ _ _ _ => rfl
    rw [if_pos e] at q1
    rw [if_pos (by omega), if_neg (not_not_intro (by omega))]
    exact q1
  rw [if_neg (by omega)]
  have c9 := hq.1
  have ew : wW hs pp F L g 0 = 0 := rfl
  refine s_M_readsWay hW hh hg h3 h4 (by omega) fun J2 k1 k2 => b_M_plansBy_53 hW ?_
  have hM3 : qM J2 c ks F L := ⟨by rw [k2 _ _ (by omega)]; exact hM.1, fun j hj => by rw [k2 _ _ (by omega), k2 _ _ (by omega), k2 _ _ (by omega)]; exact hM.2 j hj⟩
  rw [if_neg (by decide), hM3.1, if_neg (by omega)]
  have z := l_M_put (d := d) (n := n) (Q := Q) (pp := pp) (hs := hs) hW hh hg hq (c - 1) 0 J2 (some (.inl 1)) (by omega) (by rw [k2 _ _ (by omega)]; exact h3) (by rw [k2 _ _ (by omega)]; exact h4) hM3 (by omega) k1 (fun j hj => absurd hj (by omega)) fun J j1 j2 => by
    have e : wOk hs pp F L c g = decide (wW hs pp F L g (c - 1) < wE hs g) := by
      unfold wOk
      exact decide_eq_decide.mpr ⟨fun a => a.resolve_left g0, .inr⟩
    have q1 := q J (by rw [e, decide_eq_true_iff]; exact j1) fun a b h1 h2 => by rw [j2 a b h1 h2, k2 a b h1]
    rw [e] at q1
    simpa only [decide_eq_true_iff] using q1
  rw [ew] at z
  exact z
def wM (I : ZI) (hs pp : Int) (c : Nat) (F L : Nat → Int) : Prop := I 137 49 = wGo hs pp F L c ∧ ∀ g : Nat, wGo hs pp F L c = (g : Int) → g ≤ 5 ∧ (c = 0 ∨ wW hs pp F L g (c - 1) < wE hs g) ∧ wP I hs pp g F L c
theorem l_M_laysPlan {Q : ZI → Prop} (hW : Wf sh R) (hh : 1 ≤ hs ∧ hs ≤ 9) (hq : qOk K m c ks F L) : ∀ (f g : Nat) (I : ZI), g + f = 6 → I 137 3 = hs → I 137 4 = pp → I 137 49 = -1 → qM I c ks F L → wGo hs pp F L c = pFind (wOk hs pp F L c) g f → (∀ (J : ZI), wM J hs pp c F L → qM J c ks F L → (∀ a b, ¬ a = 165 → ¬ a = 166 → ¬ (a = 137 ∧ b = 49) → J a b = I a b) → Q J) → XVs (d + 3) 205 11 [some (.inr 137), some (.inl (g : Int))] [] n sh R I Q
  | 0, g, I, h, h3, h4, h9, hM, he, q => b_M_laysPlan_11 hW (by
    have e : wGo hs pp F L c = -1 := he
    rw [if_pos (by omega)]
    exact q I ⟨by rw [h9, e], fun g hg => by omega⟩ hM fun _ _ _ _ _ => rfl)
  | f + 1, g, I, h, h3, h4, h9, hM, he, q => b_M_laysPlan_11 hW (by
    rw [if_neg (by omega), if_neg (not_not_intro h9)]
    refine s_M_plansBy hW hh (by omega) hq h3 h4 hM fun J j1 j2 => ?_
    have es : pFind (wOk hs pp F L c) g (f + 1) = if wOk hs pp F L c g = true then (g : Int) else pFind (wOk hs pp F L c) (g + 1) f := rfl
    rw [es] at he
    have hM2 : qM J c ks F L := ⟨by rw [j2 _ _ (by omega) (by omega)]; exact hM.1, fun j hj => by rw [j2 _ _ (by omega) (by omega), j2 _ _ (by omega) (by omega), j2 _ _ (by omega) (by omega)]; exact hM.2 j hj⟩
    by_cases g1 : wOk hs pp F L c g = true
    · rw [if_pos g1] at he ⊢
      rw [if_neg (by decide)]
      refine ⟨by unfold zr; omega, b_M_laysPlan_11 hW ?_⟩
      have q1 := q (zup J 137 49 (g : Int)) ⟨by rw [zup_eq ⟨rfl, rfl⟩, he], fun g2 hg2 => ?_⟩ ⟨by rw [zup_ne (by omega)]; exact hM2.1, fun j hj => by rw [zup_ne (by omega), zup_ne (by omega), zup_ne (by omega)]; exact hM2.2 j hj⟩ fun a b h1 h2 h3 => by rw [zup_ne h3, j2 a b h1 h2]
      · split
        · exact q1
        · rw [zup_eq ⟨rfl, rfl⟩, if_pos (by omega)]; exact q1
      · obtain rfl : g2 = g := by omega
        exact ⟨by omega, by simpa [wOk] using g1, fun j hj k hk => by rw [zup_ne (by omega)]; exact j1 g1 j hj k hk⟩
    · rw [if_neg g1] at he ⊢
      rw [if_pos rfl]
      refine ⟨by unfold zr; omega, ?_⟩
      rw [show (g : Int) + 1 = ((g + 1 : Nat) : Int) by omega]
      exact l_M_laysPlan hW hh hq f (g + 1) J (by omega) (by rw [j2 _ _ (by omega) (by omega)]; exact h3) (by rw [j2 _ _ (by omega) (by omega)]; exact h4) (by rw [j2 _ _ (by omega) (by omega)]; exact h9) hM2 he fun M m1 m2 m3 => q M m1 m2 fun a b h1 h2 h3 => by rw [m3 a b h1 h2 h3, j2 a b h1 h2])
end PM
section PC
variable {d n t : Nat} {sh : ZS} {R : ZR} {B : ZI} {x1 x2 x3 x4 x5 : Int} {lw S o : Nat} {H : List Int} {g : Int} {LA : Nat → Int}
/-- both sides' plan, of a base -/
def kC (B : ZI) (H : List Int) : Nat := (qKs (rK B H) H.length 20).length
def kK (B : ZI) (H : List Int) (i : Nat) : Int := (qKs (rK B H) H.length 20).getD i 0
def kF (B : ZI) (H : List Int) : Nat → Int := qKF (rK B H) H.length
def kG (B : ZI) (H : List Int) : Nat → Int := qKL (rK B H) H.length
def kGo (B : ZI) (H : List Int) : Int := wGo (B 137 3) (B 137 4) (kF B H) (kG B H) (kC B H)
def kWC (B I : ZI) (H : List Int) : Prop := wC I (B 137 3) (B 137 4) (kC B H) (kK B H) (kF B H) (kG B H)
def kWM (B I : ZI) (H : List Int) : Prop := wM I (B 137 3) (B 137 4) (kC B H) (kF B H) (kG B H) ∧ qM I (kC B H) (kK B H) (kF B H) (kG B H)
theorem k_ok : qOk (rK B H) H.length (kC B H) (kK B H) (kF B H) (kG B H) := qOk_all
theorem kGo_range : kGo B H = -1 ∨ 0 ≤ kGo B H ∧ kGo B H ≤ 5 := by
  unfold kGo wGo
  rcases pFind_range (p := wOk (B 137 3) (B 137 4) (kF B H) (kG B H) (kC B H)) 6 0 with ⟨e, _⟩ | ⟨k, e, h1, h2, _⟩ <;> omega
theorem s_N_findPlan {I : ZI} {Q : Int → ZI → Prop} (hW : Wf sh R) (hl : lw = 5 ∨ lw = 45) (hb : bOk B S) (hh : hIn B H) (hE : gEnv B I lw S) (hH : gSt B I 18 H g LA) (q : ∀ J : ZI, kWC B J H → (∀ a b, ¬ (a = 53 ∧ b = 2) → ¬ a = 54 → ¬ a = 56 → ¬ a = 57 → ¬ a = 14 → ¬ (a = 59 ∧ b = 3) → ¬ a = 60 → J a b = I a b) → Q (if kGo B H = -1 then -2 else kGo B H) J) : XI (d + 5) 136 [.inr 1] n sh R I Q := by
  have h9 := hb.2.1
  refine b_N_findPlan_0 hW (s_N_readRanks hW hl hb hh hE hH fun J j1 j2 => ?_)
  refine s_P_find (hs := B 137 3) (pp := B 137 4) hW (by omega) (k_ok (B := B) (H := H)) (by rw [j2 _ _ (by omega) (by omega) (by omega) (by omega) (by omega)]; exact hE.1.1) (by rw [j2 _ _ (by omega) (by omega) (by omega) (by omega) (by omega)]; exact hE.1.2) j1 fun M m1 m2 m3 => q M m1 fun a b h1 h2 h3 h4 h5 h6 h7 => by rw [m3 a b h6 h7, j2 a b h1 h2 h3 h4 h5]
theorem s_M_laysPlan {I : ZI} {Q : ZI → Prop} (hW : Wf sh R) (hb : bOk B S) (hh : hIn B H) (hE : mEnv B I) (hH : mSt I H g LA) (q : ∀ J : ZI, kWM B J H → (∀ a b, ¬ (a = 137 ∧ b = 45) → ¬ (162 ≤ a ∧ a ≤ 166) → ¬ (a = 137 ∧ b = 49) → J a b = I a b) → Q J) : XV (d + 3) 205 [.inr 137] n sh R I Q := by
  have h9 := hb.2.1
  refine b_M_laysPlan_0 hW (s_M_laysRanks hW hb hh hE hH fun J j1 j2 => ?_)
  refine l_M_laysPlan (hs := B 137 3) (pp := B 137 4) hW (by omega) (k_ok (B := B) (H := H)) 6 0 _ (by omega) (by rw [zup_ne (by omega), j2 _ _ (by omega) (by omega)]; exact hE.1.2.1) (by rw [zup_ne (by omega), j2 _ _ (by omega) (by omega)]; exact hE.1.2.2) (zup_eq ⟨rfl, rfl⟩) ⟨by rw [zup_ne (by omega)]; exact j1.1, fun i hi => by rw [zup_ne (by omega), zup_ne (by omega), zup_ne (by omega)]; exact j1.2 i hi⟩ rfl fun M m1 m2 m3 => q M ⟨m1, m2⟩ fun a b h1 h2 h3 => by rw [m3 a b (by omega) (by omega) h3, zup_ne h3, j2 a b h1 (by omega)]
theorem c_plan {I : ZI} (hW : Wf sh R) (h : Rel t I R) : XI (d + 6) 109 [.inr 1] n sh R I (fun v J => XI (d + 4) 206 [.inr 137] n sh R J (fun v2 K => v2 = v ∧ Rel (t + 1) K R)) := by
  obtain ⟨lw, S, H, hl, hR, hL, hb, hE, mE, hH, mH, hv, hg⟩ := h.base hW
  have hin := hv.1.inb hb
  refine b_N_plan_0 hW (s_N_findPlan (B := I) (g := I 18 7) (LA := I 22) hW hl hb hin hE hH fun J j1 j2 => ?_)
  refine b_M_plan_0 hW (s_M_laysPlan (B := I) (g := I 18 7) (LA := I 22) hW hb hin (mE.fr fun a b hab => j2 a b (by omega) (by omega) (by omega) (by omega) (by omega) (by omega) (by omega)) (mH.fr fun a b hab => j2 a b (by omega) (by omega) (by omega) (by omega) (by omega) (by omega) (by omega)) fun K k1 k2 => ?_)
  have fin : Rel (t + 1) K R := h.fr (by omega) fun a b hab => by
    unfold fAll fNow fKept fEnv fTape fBlame fLaw at hab
    rw [k2 a b (by omega) (by omega) (by omega), j2 a b (by omega) (by omega) (by omega) (by omega) (by omega) (by omega) (by omega)]
  have e : K 137 49 = kGo I H := k1.1.1
  rw [e]
  by_cases g1 : kGo I H = -1
  · rw [if_neg (not_not_intro g1), if_pos g1]; exact ⟨rfl, fin⟩
  · rw [if_pos g1, if_neg g1]; exact ⟨rfl, fin⟩
/-- the number of a rank -/
theorem k_ix (hb : bOk B S) (hh : hIn B H) {p : Nat} (hp : p < H.length) : ∃ i, i < kC B H ∧ kK B H i = rK B H p := k_ok.2.2.2 p hp (rK_range hb hh hp).2.2
theorem l_M_rankNumber {I : ZI} {Q : Int → ZI → Prop} {r : Int} {i : Nat} (hW : Wf sh R) (hM : qM I (kC B H) (kK B H) (kF B H) (kG B H)) (hi : i < kC B H) (he : kK B H i = r) (hx : 0 ≤ x1 ∧ x1 < 32) (h1 : 0 ≤ I 138 x1.toNat ∧ I 138 x1.toNat < 20) (h2 : I 143 (I 138 x1.toNat).toNat = r) (q : Q (i : Int) I) : ∀ (f a : Nat), a + f = i → XIs (d + 1) 207 2 [some (.inr 137), some (.inl x1), some (.inl (a : Int))] [] n sh R I Q
  | 0, a, h => b_M_rankNumber_2 hW (by
    have c9 := (k_ok (B := B) (H := H)).1
    obtain rfl : a = i := by omega
    refine ⟨by omega, by omega, by omega, ?_⟩
    rw [Int.toNat_natCast, (hM.2 a hi).1, h2, if_pos he]
    exact q)
  | f + 1, a, h => b_M_rankNumber_2 hW (by
    have c9 := (k_ok (B := B) (H := H)).1
    have ne := (k_ok (B := B) (H := H)).2.2.1 a i (by omega) hi
    refine ⟨by omega, by omega, by omega, ?_⟩
    rw [Int.toNat_natCast, (hM.2 a (by omega)).1, h2, if_neg (by omega)]
    exact ⟨by unfold zr; omega, l_M_rankNumber hW hM hi he hx h1 h2 q f (a + 1) (by omega)⟩)
/-- a way that a plan uses -/
theorem k_way {G : Nat} {i : Nat} (hi : i < kC B H) (h : kC B H = 0 ∨ wW (B 137 3) (B 137 4) (kF B H) (kG B H) G (kC B H - 1) < wE (B 137 3) G) : 0 ≤ wW (B 137 3) (B 137 4) (kF B H) (kG B H) G i ∧ wW (B 137 3) (B 137 4) (kF B H) (kG B H) G i < wE (B 137 3) G := by
  have mo := wW_mono (h := B 137 3) (pp := B 137 4) (F := kF B H) (L := kG B H) (g := G) i (kC B H - 1 - i)
  rw [show i + (kC B H - 1 - i) = kC B H - 1 by omega] at mo
  have w0 := wW_pos (h := B 137 3) (pp := B 137 4) (F := kF B H) (L := kG B H) (g := G) i
  omega
theorem c_planned {I : ZI} (hW : Wf sh R) (h : Rel t I R) : XI (d + 6) 110 [.inr 1, .inl x1, .inl x2] n sh R I (fun v J => XI (d + 4) 208 [.inr 137, .inl x1, .inl x2] n sh R J (fun v2 K => v2 = v ∧ Rel (t + 1) K R)) := by
  obtain ⟨lw, S, H, hl, hR, hL, hb, hE, mE, hH, mH, hv, hg⟩ := h.base hW
  have hin := hv.1.inb hb
  have hb0 := hb.1
  have h9 := hb.2.1
  have sm : Rel (t + 1) I R := h.fr (by omega) fun _ _ _ => rfl
  have e0 : I 18 5 = I 137 0 := hH.1.1
  refine b_N_planned_0 hW ?_
  by_cases g1 : x1 < 0
  · rw [if_pos g1]; refine b_M_planned_0 hW ?_; rw [if_pos g1]; exact ⟨rfl, sm⟩
  rw [if_neg g1]
  by_cases g2 : I 18 5 ≤ x1
  · rw [if_pos g2]; refine b_M_planned_0 hW ?_; rw [if_neg g1, if_pos (by omega)]; exact ⟨rfl, sm⟩
  rw [if_neg g2]
  refine s_N_findPlan (B := I) (g := I 18 7) (LA := I 22) hW hl hb hin hE hH fun J j1 j2 => ?_
  have hH2 : gSt I J 18 H (I 18 7) (I 22) := hH.fr fun a b hab => j2 a b (by omega) (by omega) (by omega) (by omega) (by omega) (by omega) (by omega)
  have hE2 : gEnv I J lw S := hE.fr hl fun a b hab => j2 a b (by omega) (by omega) (by omega) (by omega) (by omega) (by omega) (by omega)
  have lv := hin.1
  refine s_S_place hW (St_18 hW) hin.1 hH2 ?_
  have e1 : (x1.toNat : Int) = x1 := by omega
  have f19 : J 19 x1.toNat = I 138 x1.toNat := (hH2.2.2 x1.toNat (by omega)).1
  -- the model's side, as far as both go the same way
  have md : ∀ (v : Int), (∀ K : ZI, kWM I K H → (∀ a b, ¬ (a = 137 ∧ b = 45) → ¬ (162 ≤ a ∧ a ≤ 166) → ¬ (a = 137 ∧ b = 49) → K a b = J a b) → (if pPlace (hOd H) H.length x1 = -1 then v = -2 else if kGo I H = -1 then v = -2 else if x2 < 0 then v = -2 else if x2 < kGo I H then XI (d + 3) 207 [.inr 137, .inl x1] n sh R K (fun v5 I6 => (zr (5 * v5)) ∧ (zr ((5 * v5) + x2)) ∧ (0 ≤ ((5 * v5) + x2) ∧ ((5 * v5) + x2) < 100) ∧ I6 166 ((5 * v5) + x2).toNat = v ∧ Rel (t + 1) I6 R) else v = -2)) → XI (d + 4) 208 [.inr 137, .inl x1, .inl x2] n sh R J (fun v2 K => v2 = v ∧ Rel (t + 1) K R) := fun v hv2 => by
    refine b_M_planned_0 hW ?_
    rw [if_neg g1, j2 137 0 (by omega) (by omega) (by omega) (by omega) (by omega) (by omega) (by omega), if_neg (by omega)]
    refine s_M_laysPlan (B := I) (g := I 18 7) (LA := I 22) hW hb hin (mE.fr fun a b hab => j2 a b (by omega) (by omega) (by omega) (by omega) (by omega) (by omega) (by omega)) (mH.fr fun a b hab => j2 a b (by omega) (by omega) (by omega) (by omega) (by omega) (by omega) (by omega)) fun K k1 k2 => ?_
    have fin : Rel (t + 1) K R := h.fr (by omega) fun a b hab => by
      unfold fAll fNow fKept fEnv fTape fBlame fLaw at hab
      rw [k2 a b (by omega) (by omega) (by omega), j2 a b (by omega) (by omega) (by omega) (by omega) (by omega) (by omega) (by omega)]
    have mH2 : mSt K H (I 18 7) (I 22) := mH.fr fun a b hab => by rw [k2 a b (by omega) (by omega) (by omega), j2 a b (by omega) (by omega) (by omega) (by omega) (by omega) (by omega) (by omega)]
    have z := hv2 K k1 k2
    refine s_M_place hW hin.1 mH2 ?_
    have e : K 137 49 = kGo I H := k1.1.1
    rw [e]
    by_cases y1 : pPlace (hOd H) H.length x1 = -1
    · rw [if_pos y1] at z ⊢; exact ⟨z.symm, fin⟩
    rw [if_neg y1] at z ⊢
    by_cases y2 : kGo I H = -1
    · rw [if_pos y2] at z ⊢; exact ⟨z.symm, fin⟩
    rw [if_neg y2] at z ⊢
    by_cases y3 : x2 < 0
    · rw [if_pos y3] at z ⊢; exact ⟨z.symm, fin⟩
    rw [if_neg y3] at z ⊢
    by_cases y4 : x2 < kGo I H
    · rw [if_pos y4] at z ⊢; exact z
    · rw [if_neg y4] at z ⊢; exact ⟨z.symm, fin⟩
  rcases hOd_place (H := H) (i := x1) with e | ⟨p, e, hp, ep⟩
  · rw [e, if_pos (by decide)]
    refine md (-2) fun K _ _ => ?_
    rw [if_pos e]
  rw [e, if_neg (by omega)]
  by_cases y3 : x2 < 0
  · rw [if_pos y3]
    refine md (-2) fun K _ _ => ?_
    rw [if_neg (by omega), if_pos y3]
    split <;> rfl
  rw [if_neg y3]
  by_cases y2 : kGo I H = -1
  · rw [if_pos y2, if_neg (by omega)]
    refine md (-2) fun K _ _ => ?_
    rw [if_neg (by omega), if_pos y2]
  rw [if_neg y2]
  by_cases y4 : x2 < kGo I H
  · rw [if_pos y4]
    obtain ⟨k, rfl⟩ : ∃ k : Nat, x2 = k := ⟨x2.toNat, by omega⟩
    have rr := rK_range hb hin hp
    rw [ep] at rr
    have hrk : rK I H p = I 143 (I 138 x1.toNat).toNat := by unfold rK; rw [ep]
    rw [hrk] at rr
    obtain ⟨i, hi, hei⟩ := k_ix hb hin hp
    rw [hrk] at hei
    rcases j1 with c1 | ⟨G, c1, c2, c3, c4, c5⟩
    · exact absurd c1 y2
    have y4' : k < G := by
      have : kGo I H = (G : Int) := c1
      omega
    have wr := k_way (B := I) (H := H) (G := G) hi c3
    have hr := wHol_range (pp := I 137 4) h9.1 G (wW (I 137 3) (I 137 4) (kF I H) (kG I H) G i) k wr
    have f13 : J 13 (I 138 x1.toNat).toNat = I 143 (I 138 x1.toNat).toNat := hE2.2.1 _ (by omega)
    rw [f19, f13]
    refine ⟨by omega, by omega, b_P_holeFor_0 hW ⟨by omega, ?_⟩⟩
    have f60 := c5 i hi
    rw [hei] at f60
    rw [f60]
    refine s_P_holeOn (hs := I 137 3) (pp := I 137 4) (g := G) hW (by omega) hE2.1.1 hE2.1.2 (by omega) c4 y4' wr ?_
    refine md _ fun K k1 k2 => ?_
    rw [if_neg (by omega), if_neg y2, if_neg y3, if_pos y4]
    have kE : I 138 = K 138 := by
      funext b
      rw [k2 138 b (by omega) (by omega) (by omega), j2 138 b (by omega) (by omega) (by omega) (by omega) (by omega) (by omega) (by omega)]
    have kE2 : I 143 = K 143 := by
      funext b
      rw [k2 143 b (by omega) (by omega) (by omega), j2 143 b (by omega) (by omega) (by omega) (by omega) (by omega) (by omega) (by omega)]
    have c9 := (k_ok (B := I) (H := H)).1
    refine b_M_rankNumber_0 hW (l_M_rankNumber (B := I) (H := H) (i := i) hW k1.2 hi hei (by omega) (by rw [← kE]; omega) (by rw [← kE, ← kE2]) ?_ i 0 (by omega))
    have z := (k1.1.2 G c1).2.2 i hi k y4'
    have e5 : (5 * (i : Int) + (k : Int)).toNat = 5 * i + k := by omega
    rw [e5]
    exact ⟨by unfold zr; omega, by unfold zr; omega, by omega, z, h.fr (by omega) fun a b hab => by
      unfold fAll fNow fKept fEnv fTape fBlame fLaw at hab
      rw [k2 a b (by omega) (by omega) (by omega), j2 a b (by omega) (by omega) (by omega) (by omega) (by omega) (by omega) (by omega)]⟩
  · rw [if_neg y4]
    refine md (-2) fun K _ _ => ?_
    rw [if_neg (by omega), if_neg y2, if_neg y3, if_neg y4]
end PC
