-- THE PLAN
def wE (h : Int) : Nat → Int
  | 0 => 1
  | k + 1 => wE h k * h
theorem wE_pos {h : Int} (hh : 1 ≤ h) : ∀ k, 1 ≤ wE h k
  | 0 => by show (1 : Int) ≤ 1; omega
  | k + 1 => by
    have := wE_pos hh k
    have h2 : 1 * 1 ≤ wE h k * h := Int.mul_le_mul this hh (by omega) (by omega)
    show 1 ≤ wE h k * h
    omega
theorem wE_step {h : Int} (hh : 1 ≤ h ∧ h ≤ 9) (k : Nat) : wE h (k + 1) ≤ wE h k * 9 := Int.mul_le_mul (Int.le_refl _) hh.2 (by omega) (by have := wE_pos hh.1 k; omega)
theorem wE_le {h : Int} (hh : 1 ≤ h ∧ h ≤ 9) {k : Nat} (hk : k ≤ 6) : wE h k ≤ 531441 := by
  have h0 : wE h 0 = 1 := rfl
  have h1 : wE h 1 ≤ wE h 0 * 9 := wE_step hh 0
  have h2 : wE h 2 ≤ wE h 1 * 9 := wE_step hh 1
  have h3 : wE h 3 ≤ wE h 2 * 9 := wE_step hh 2
  have h4 : wE h 4 ≤ wE h 3 * 9 := wE_step hh 3
  have h5 : wE h 5 ≤ wE h 4 * 9 := wE_step hh 4
  have h6 : wE h 6 ≤ wE h 5 * 9 := wE_step hh 5
  have c : k = 0 ∨ k = 1 ∨ k = 2 ∨ k = 3 ∨ k = 4 ∨ k = 5 ∨ k = 6 := by omega
  rcases c with c | c | c | c | c | c | c <;> subst c <;> omega
theorem wE_div {h : Int} (hh : 1 ≤ h) (k : Nat) : wE h (k + 1) / h = wE h k := Int.mul_ediv_cancel _ (by omega)
def wPi (pp q : Int) : Bool := decide (zand (zshr pp q) 1 = 1)
theorem wPi_0 {pp q : Int} : zand (zshr pp q) 1 = 0 ↔ ¬ wPi pp q = true := by
  unfold wPi
  rw [decide_eq_true_iff, zand_1]
  omega
/-- what is left of a way's number behind go r, if w is left ahead of it -/
def wNx (h pp : Int) (r : Nat) (w : Int) : Int := if wPi pp (w / wE h r) = true then wE h r - 1 - w % wE h r else w % wE h r
def wHol (h pp : Int) : Nat → Int → Nat → Int
  | 0, _, _ => 0
  | r + 1, w, k => if k = r then w / wE h r else wHol h pp r (wNx h pp r w) k
def wTurn (h pp : Int) : Nat → Int → Bool → Bool
  | 0, _, b => b
  | r + 1, w, b => wTurn h pp r (wNx h pp r w) (if wPi pp (w / wE h r) = true then !b else b)
theorem wNx_range {h pp w : Int} {r : Nat} (hh : 1 ≤ h) : 0 ≤ wNx h pp r w ∧ wNx h pp r w < wE h r := by
  have p := wE_pos hh r
  have h1 := Int.emod_nonneg w (b := wE h r) (by omega)
  have h2 := Int.emod_lt_of_pos w (b := wE h r) (by omega)
  unfold wNx
  split <;> omega
theorem wQ_range {h w : Int} {r : Nat} (hh : 1 ≤ h) (hw : 0 ≤ w ∧ w < wE h (r + 1)) : 0 ≤ w / wE h r ∧ w / wE h r < h := by
  have p := wE_pos hh r
  refine ⟨Int.ediv_nonneg hw.1 (by omega), Int.ediv_lt_of_lt_mul (by omega) ?_⟩
  rw [Int.mul_comm]; exact hw.2
theorem wHol_range {h pp : Int} (hh : 1 ≤ h) : ∀ (r : Nat) (w : Int) (k : Nat), 0 ≤ w ∧ w < wE h r → 0 ≤ wHol h pp r w k ∧ wHol h pp r w k < h
  | 0, _, _, _ => by show (0 : Int) ≤ 0 ∧ 0 < h; omega
  | r + 1, w, k, hw => by
    unfold wHol
    split
    · exact wQ_range hh hw
    · exact wHol_range hh r _ k (wNx_range hh)
def wCt (h pp : Int) (r : Nat) (w : Int) : Nat → Int := pSum (fun k => if wPi pp (wHol h pp r w k) = true then 1 else 0)
theorem wCt_range {h pp : Int} {r : Nat} {w : Int} (k : Nat) : 0 ≤ wCt h pp r w k ∧ wCt h pp r w k ≤ k := by
  have := pSum_range (f := fun k => if wPi pp (wHol h pp r w k) = true then 1 else 0) (c := 1) k fun k hk => by split <;> omega
  unfold wCt; omega
theorem pSum_congr {f f2 : Nat → Int} : ∀ n : Nat, (∀ k, k < n → f k = f2 k) → pSum f n = pSum f2 n
  | 0, _ => rfl
  | n + 1, h => by
    show pSum f n + f n = pSum f2 n + f2 n
    rw [h n (by omega), pSum_congr n fun k hk => h k (by omega)]
/-- a way is turned round when its pipes are not even -/
theorem wTurn_ct {h pp : Int} : ∀ (r : Nat) (w : Int) (b : Bool), wTurn h pp r w b = if wCt h pp r w r % 2 = 0 then b else !b
  | 0, w, b => by
    show b = if (0 : Int) % 2 = 0 then b else !b
    rw [if_pos (by decide)]
  | r + 1, w, b => by
    have e : wCt h pp (r + 1) w (r + 1) = wCt h pp r (wNx h pp r w) r + if wPi pp (w / wE h r) = true then 1 else 0 := by
      show pSum _ r + (if wPi pp (wHol h pp (r + 1) w r) = true then (1 : Int) else 0) = _
      have e1 : pSum (fun k => if wPi pp (wHol h pp (r + 1) w k) = true then (1 : Int) else 0) r = wCt h pp r (wNx h pp r w) r := pSum_congr r fun k hk => by
        have : wHol h pp (r + 1) w k = wHol h pp r (wNx h pp r w) k := by
          show (if k = r then _ else _) = _
          rw [if_neg (by omega)]
        rw [this]
      rw [e1]
      have : wHol h pp (r + 1) w r = w / wE h r := by
        show (if r = r then _ else _) = _
        rw [if_pos rfl]
      rw [this]
    have rg := wCt_range (h := h) (pp := pp) (r := r) (w := wNx h pp r w) r
    show wTurn h pp r (wNx h pp r w) (if wPi pp (w / wE h r) = true then !b else b) = _
    rw [wTurn_ct r, e]
    by_cases g : wPi pp (w / wE h r) = true
    · rw [if_pos g, if_pos g]
      by_cases g2 : wCt h pp r (wNx h pp r w) r % 2 = 0
      · rw [if_pos g2, if_neg (by omega)]
      · rw [if_neg g2, if_pos (by omega)]; cases b <;> rfl
    · rw [if_neg g, if_neg g]
      by_cases g2 : wCt h pp r (wNx h pp r w) r % 2 = 0
      · rw [if_pos g2, if_pos (by omega)]
      · rw [if_neg g2, if_neg (by omega)]
/-- is a way forward -/
def wD (h pp : Int) (g : Nat) (way : Int) : Bool := !(wTurn h pp g way false)
/-- the way of the i-th rank -/
def wW (h pp : Int) (F L : Nat → Int) (g : Nat) : Nat → Int
  | 0 => 0
  | i + 1 => if qG F L (wD h pp g (wW h pp F L g i)) i = true then wW h pp F L g i else wW h pp F L g i + 1
theorem wW_mono {h pp : Int} {F L : Nat → Int} {g : Nat} (i : Nat) : ∀ k, wW h pp F L g i ≤ wW h pp F L g (i + k)
  | 0 => Int.le_refl _
  | k + 1 => by
    have := wW_mono (h := h) (pp := pp) (F := F) (L := L) (g := g) i k
    have e : wW h pp F L g (i + (k + 1)) = if qG F L (wD h pp g (wW h pp F L g (i + k))) (i + k) = true then wW h pp F L g (i + k) else wW h pp F L g (i + k) + 1 := rfl
    rw [e]
    split <;> omega
theorem wW_pos {h pp : Int} {F L : Nat → Int} {g : Nat} (i : Nat) : 0 ≤ wW h pp F L g i := by
  have := wW_mono (h := h) (pp := pp) (F := F) (L := L) (g := g) 0 i
  rw [Nat.zero_add] at this
  exact this
theorem wW_le {h pp : Int} {F L : Nat → Int} {g i : Nat} : wW h pp F L g i ≤ i := by
  induction i with
  | zero => exact Int.le_refl _
  | succ i ih =>
    have e : wW h pp F L g (i + 1) = if qG F L (wD h pp g (wW h pp F L g i)) i = true then wW h pp F L g i else wW h pp F L g i + 1 := rfl
    rw [e]
    split <;> omega
def wOk (h pp : Int) (F L : Nat → Int) (c g : Nat) : Bool := decide (c = 0 ∨ wW h pp F L g (c - 1) < wE h g)
def wGo (h pp : Int) (F L : Nat → Int) (c : Nat) : Int := pFind (wOk h pp F L c) 0 6
section PL
variable {d n t : Nat} {sh : ZS} {R : ZR} {x1 x2 x3 x4 x5 : Int} {hs pp : Int} {g : Nat}
theorem l_P_hol1 {I : ZI} {Q : Int → ZI → Prop} {u5 u6 : Option AV} (hW : Wf sh R) (hh : 1 ≤ hs ∧ hs ≤ 9) (hg : 1 ≤ g ∧ g ≤ 6) (h3 : I 59 3 = (g : Int)) (h15 : I 15 0 = hs) (q : XIs (d + 1) 39 48 [some (.inr 59), some (.inl x1), some (.inl x2), some (.inl (wE hs (g - 1))), some (.inl 0), some (.inl x1), some (.inl ((g : Int) - 1))] [] n sh R I Q) : ∀ (f j : Nat), j + 1 + f = g → XIs (d + 1) 39 5 [some (.inr 59), some (.inl x1), some (.inl x2), some (.inl (wE hs j)), some (.inl ((j + 1 : Nat) : Int)), u5, u6] [] n sh R I Q
  | 0, j, h => b_P_holeOn_5 hW (by
    rw [h3, if_pos (by omega)]
    obtain rfl : g - 1 = j := by omega
    exact ⟨by unfold zr; omega, q⟩)
  | f + 1, j, h => b_P_holeOn_5 hW (by
    have p := wE_pos hh.1 (j + 1)
    have l := wE_le hh (k := j + 1) (by omega)
    have e : wE hs j * hs = wE hs (j + 1) := rfl
    rw [h3, h15, if_neg (by omega)]
    rw [show (if 1 < hs then hs else 1) = hs by split <;> omega, e]
    refine ⟨by unfold zr; omega, by unfold zr; omega, ?_⟩
    rw [show ((j + 1 : Nat) : Int) + 1 = ((j + 1 + 1 : Nat) : Int) by omega]
    exact l_P_hol1 hW hh hg h3 h15 q f (j + 1) (by omega))
theorem l_P_hol2 {I : ZI} {Q : Int → ZI → Prop} {u1 : Option AV} {k : Nat} (hW : Wf sh R) (hh : 1 ≤ hs ∧ hs ≤ 9) (h15 : I 15 0 = hs) (hp : I 15 1 = pp) : ∀ (r : Nat) (w y z : Int), r ≤ 6 → k ≤ r → 0 ≤ w ∧ w < wE hs r → (1 ≤ r → y = wE hs (r - 1)) → Q (if k < r then wHol hs pp r w k else z) I → XIs (d + 1) 39 48 [some (.inr 59), u1, some (.inl (k : Int)), some (.inl y), some (.inl z), some (.inl w), some (.inl ((r : Int) - 1))] [] n sh R I Q
  | 0, w, y, z, hr, hk, hw, hy, q => b_P_holeOn_48 hW (by
    rw [if_pos (by omega)]
    rw [if_neg (by omega)] at q
    exact q)
  | r + 1, w, y, z, hr, hk, hw, hy, q => b_P_holeOn_48 hW (by
    have e0 : ((r + 1 : Nat) : Int) - 1 = (r : Int) := by omega
    rw [e0]
    by_cases g1 : (r : Int) < k
    · rw [if_pos g1]
      rw [if_neg (by omega)] at q
      exact q
    rw [if_neg g1]
    rw [if_pos (by omega)] at q
    have ey : y = wE hs r := hy (by omega)
    subst ey
    have p := wE_pos hh.1 r
    have l := wE_le hh (k := r) (by omega)
    have l2 := wE_le hh (k := r + 1) (by omega)
    have qr := wQ_range hh.1 hw
    have nr := wNx_range (h := hs) (pp := pp) (w := w) (r := r) hh.1
    have m1 := Int.emod_nonneg w (b := wE hs r) (by omega)
    have m2 := Int.emod_lt_of_pos w (b := wE hs r) (by omega)
    rw [if_neg (by omega), h15, hp]
    rw [show (if 1 < hs then hs else 1) = hs by split <;> omega]
    have hq : Q (if k < r then wHol hs pp r (wNx hs pp r w) k else w / wE hs r) I := by
      unfold wHol at q
      by_cases g2 : k = r
      · rw [if_pos g2] at q; rw [if_neg (by omega)]; exact q
      · rw [if_neg g2] at q; rw [if_pos (by omega)]; exact q
    have ed : 1 ≤ r → wE hs r / hs = wE hs (r - 1) := fun h1 => by
      obtain ⟨r2, rfl⟩ : ∃ r2, r = r2 + 1 := ⟨r - 1, by omega⟩
      exact wE_div hh.1 r2
    have e3 : (r : Int) + -1 = (r : Int) - 1 := by omega
    refine ⟨by omega, by omega, by omega, ?_⟩
    rw [if_neg (by omega)]
    have ih := l_P_hol2 (u1 := u1) (k := k) hW hh h15 hp r (wNx hs pp r w) (wE hs r / hs) (w / wE hs r) (by omega) (by omega) nr ed hq
    unfold wNx at ih
    by_cases g3 : wPi pp (w / wE hs r) = true
    · rw [if_pos g3] at ih
      rw [if_neg (fun c => wPi_0.mp c g3)]
      refine ⟨by unfold zr; omega, by unfold zr; omega, by omega, by omega, by unfold zr; omega, ?_⟩
      rw [e3]; exact ih
    · rw [if_neg g3] at ih
      rw [if_pos (wPi_0.mpr g3)]
      refine ⟨by omega, by omega, by unfold zr; omega, ?_⟩
      rw [e3]; exact ih)
theorem s_P_holeOn {I : ZI} {Q : Int → ZI → Prop} {k : Nat} {w : Int} (hW : Wf sh R) (hh : 1 ≤ hs ∧ hs ≤ 9) (h15 : I 15 0 = hs) (hp : I 15 1 = pp) (hg : 1 ≤ g ∧ g ≤ 6) (h3 : I 59 3 = (g : Int)) (hk : k < g) (hw : 0 ≤ w ∧ w < wE hs g) (q : Q (wHol hs pp g w k) I) : XI (d + 1) 39 [.inr 59, .inl w, .inl (k : Int)] n sh R I Q := by
  refine b_P_holeOn_0 hW (l_P_hol1 (g := g) hW hh hg h3 h15 ?_ (g - 1) 0 (by omega))
  exact l_P_hol2 hW hh h15 hp g w _ 0 hg.2 (by omega) hw (fun _ => rfl) (by rw [if_pos hk]; exact q)
theorem l_P_pipes {I : ZI} {Q : Int → ZI → Prop} {w : Int} (hW : Wf sh R) (hh : 1 ≤ hs ∧ hs ≤ 9) (h15 : I 15 0 = hs) (hp : I 15 1 = pp) (hg : g ≤ 6) (h3 : I 59 3 = (g : Int)) (hw : 0 ≤ w ∧ w < wE hs g) (q : Q (wCt hs pp g w g) I) : ∀ (f k : Nat), k + f = g → XIs (d + 2) 37 4 [some (.inr 59), some (.inl w), some (.inl (wCt hs pp g w k)), some (.inl (k : Int))] [] n sh R I Q
  | 0, k, h => b_P_pipesOn_4 hW (by
    rw [h3, if_pos (by omega)]
    obtain rfl : k = g := by omega
    exact q)
  | f + 1, k, h => b_P_pipesOn_4 hW (by
    have hr := wHol_range (pp := pp) hh.1 g w k hw
    have rg := wCt_range (h := hs) (pp := pp) (r := g) (w := w) k
    rw [h3, if_neg (by omega)]
    refine s_P_holeOn hW hh h15 hp (by omega) h3 (by omega) hw ?_
    have es : wCt hs pp g w (k + 1) = wCt hs pp g w k + if wPi pp (wHol hs pp g w k) = true then 1 else 0 := rfl
    have ih := l_P_pipes hW hh h15 hp hg h3 hw q f (k + 1) (by omega)
    rw [es] at ih
    rw [if_neg (by omega), hp]
    have e3 : (k : Int) + 1 = ((k + 1 : Nat) : Int) := by omega
    by_cases g3 : wPi pp (wHol hs pp g w k) = true
    · rw [if_neg (fun c => wPi_0.mp c g3)]
      rw [if_pos g3] at ih
      refine ⟨by unfold zr; omega, by unfold zr; omega, ?_⟩
      rw [e3]; exact ih
    · rw [if_pos (wPi_0.mpr g3)]
      rw [if_neg g3] at ih
      refine ⟨by unfold zr; omega, by unfold zr; omega, ?_⟩
      rw [e3]; exact ih)
theorem s_P_pipesOn {I : ZI} {Q : Int → ZI → Prop} {w : Int} (hW : Wf sh R) (hh : 1 ≤ hs ∧ hs ≤ 9) (h15 : I 15 0 = hs) (hp : I 15 1 = pp) (hg : g ≤ 6) (h3 : I 59 3 = (g : Int)) (hw : 0 ≤ w ∧ w < wE hs g) (q : ∀ v : Int, ((zand v 1 = 0) ↔ wD hs pp g w = true) → Q v I) : XI (d + 2) 37 [.inr 59, .inl w] n sh R I Q := by
  refine b_P_pipesOn_0 hW (l_P_pipes hW hh h15 hp hg h3 hw (q _ ?_) g 0 (by omega))
  unfold wD
  rw [wTurn_ct, zand_1]
  by_cases g2 : wCt hs pp g w g % 2 = 0
  · rw [if_pos g2]; exact ⟨fun _ => rfl, fun _ => g2⟩
  · rw [if_neg g2]; exact ⟨fun c => absurd c g2, fun c => by simp at c⟩
variable {K ks F L : Nat → Int} {c m : Nat}
theorem l_P_put {Q : Int → ZI → Prop} (hW : Wf sh R) (hh : 1 ≤ hs ∧ hs ≤ 9) (hg : g ≤ 5) (hq : qOk K m c ks F L) : ∀ (f i : Nat) (I : ZI), i + 1 + f = c → I 15 0 = hs → I 15 1 = pp → I 59 3 = (g : Int) → qC I c ks F L → wW hs pp F L g i < wE hs g → (∀ j, j ≤ i → I 60 (ks j).toNat = wW hs pp F L g j) → (∀ (J : ZI), (wW hs pp F L g (c - 1) < wE hs g → ∀ j, j < c → J 60 (ks j).toNat = wW hs pp F L g j) → (∀ a b, ¬ a = 60 → J a b = I a b) → Q (if wW hs pp F L g (c - 1) < wE hs g then 1 else 0) J) → XIs (d + 3) 36 55 [some (.inr 59), some (.inl (wE hs g)), some (.inl ((i + 1 : Nat) : Int)), some (.inl (wW hs pp F L g i)), some (.inl (if wD hs pp g (wW hs pp F L g i) = true then 1 else 0))] [] n sh R I Q
  | 0, i, I, h, h15, hp, h3, hC, hw, h60, q => b_P_putRanks_55 hW (by
    have p := wE_le hh (k := g) (by omega)
    have w0 := wW_pos (h := hs) (pp := pp) (F := F) (L := L) (g := g) i
    obtain rfl : c - 1 = i := by omega
    rw [hC.1, if_pos (by omega)]
    refine ⟨by unfold zr; omega, b_P_putRanks_4 hW ?_⟩
    rw [hC.1]
    have q1 := q I (fun _ j hj => h60 j (by omega)) fun _ _ _ => rfl
    rw [if_pos hw] at q1
    split
    · rw [if_neg (by omega)]; exact q1
    · rw [if_pos (by omega), if_neg (by omega)]; exact q1)
  | f + 1, i, I, h, h15, hp, h3, hC, hw, h60, q => b_P_putRanks_55 hW (by
    have p := wE_le hh (k := g) (by omega)
    have w0 := wW_pos (h := hs) (pp := pp) (F := F) (L := L) (g := g) i
    have c9 := hq.1
    have a0 := hC.2 i (by omega)
    have a1 := hC.2 (i + 1) (by omega)
    have b0 := hq.2.1 i (by omega)
    have b1 := hq.2.1 (i + 1) (by omega)
    have e1 : (((i + 1 : Nat) : Int) - 1).toNat = i := by omega
    have e2 : (((i + 1 : Nat) : Int)).toNat = i + 1 := by omega
    have e3 : ((i + 1 : Nat) : Int) + 1 = ((i + 1 + 1 : Nat) : Int) := by omega
    have es : wW hs pp F L g (i + 1) = if qG F L (wD hs pp g (wW hs pp F L g i)) i = true then wW hs pp F L g i else wW hs pp F L g i + 1 := rfl
    -- the next rank on the same way
    have on : qG F L (wD hs pp g (wW hs pp F L g i)) i = true → XIs (d + 3) 36 55 [some (.inr 59), some (.inl (wE hs g)), some (.inl (((i + 1 : Nat) : Int) + 1)), some (.inl (wW hs pp F L g i)), some (.inl (if wD hs pp g (wW hs pp F L g i) = true then 1 else 0))] [] n sh R (zup I 60 (ks (i + 1)).toNat (wW hs pp F L g i)) Q := fun ho => by
      rw [if_pos ho] at es
      have z := l_P_put (Q := Q) hW hh hg hq f (i + 1) (zup I 60 (ks (i + 1)).toNat (wW hs pp F L g i)) (by omega) (by rw [zup_ne (by omega)]; exact h15) (by rw [zup_ne (by omega)]; exact hp) (by rw [zup_ne (by omega)]; exact h3) ⟨by rw [zup_ne (by omega)]; exact hC.1, fun j hj => by rw [zup_ne (by omega), zup_ne (by omega), zup_ne (by omega)]; exact hC.2 j hj⟩ (by rw [es]; exact hw) (fun j hj => by
        by_cases e : j = i + 1
        · subst e; rw [zup_eq ⟨rfl, rfl⟩, es]
        · have bj := hq.2.1 j (by omega)
          have nj := hq.2.2.1 j (i + 1) (by omega) (by omega)
          rw [zup_ne (by omega)]; exact h60 j (by omega)) fun J j1 j2 => q J j1 fun a b hab => by rw [j2 a b hab, zup_ne (by omega)]
      rw [es] at z
      rw [e3]; exact z
    -- or on the next way
    have off : ¬ qG F L (wD hs pp g (wW hs pp F L g i)) i = true → XIs (d + 3) 36 4 [some (.inr 59), some (.inl (wE hs g)), some (.inl ((i + 1 : Nat) : Int)), some (.inl (wW hs pp F L g i + 1)), some (.inl (if wD hs pp g (wW hs pp F L g i) = true then 1 else 0))] [] n sh R I Q := fun ho => by
      rw [if_neg ho] at es
      refine b_P_putRanks_4 hW ?_
      rw [hC.1]
      by_cases g1 : wE hs g ≤ wW hs pp F L g i + 1
      · rw [if_pos g1, if_pos (by omega)]
        have mo := wW_mono (h := hs) (pp := pp) (F := F) (L := L) (g := g) (i + 1) (c - 1 - (i + 1))
        rw [show i + 1 + (c - 1 - (i + 1)) = c - 1 by omega] at mo
        have q1 := q I (fun c => absurd c (by omega)) fun _ _ _ => rfl
        rw [if_neg (by omega)] at q1
        exact q1
      · rw [if_neg g1, if_neg (by omega)]
        refine s_P_pipesOn hW hh h15 hp (by omega) h3 (by omega) fun v hv => ?_
        rw [e2, a1.1]
        have z := l_P_put (Q := Q) hW hh hg hq f (i + 1) (zup I 60 (ks (i + 1)).toNat (wW hs pp F L g i + 1)) (by omega) (by rw [zup_ne (by omega)]; exact h15) (by rw [zup_ne (by omega)]; exact hp) (by rw [zup_ne (by omega)]; exact h3) ⟨by rw [zup_ne (by omega)]; exact hC.1, fun j hj => by rw [zup_ne (by omega), zup_ne (by omega), zup_ne (by omega)]; exact hC.2 j hj⟩ (by rw [es]; omega) (fun j hj => by
          by_cases e : j = i + 1
          · subst e; rw [zup_eq ⟨rfl, rfl⟩, es]
          · have bj := hq.2.1 j (by omega)
            have nj := hq.2.2.1 j (i + 1) (by omega) (by omega)
            rw [zup_ne (by omega)]; exact h60 j (by omega)) fun J j1 j2 => q J j1 fun a b hab => by rw [j2 a b hab, zup_ne (by omega)]
        rw [es] at z
        by_cases g2 : wD hs pp g (wW hs pp F L g i + 1) = true
        · rw [if_neg (not_not_intro (hv.mpr g2))]
          rw [if_pos g2] at z
          refine ⟨by omega, by omega, by unfold zr; omega, ?_⟩
          rw [e3]; exact z
        · rw [if_pos (fun c => g2 (hv.mp c))]
          rw [if_neg g2] at z
          refine ⟨by omega, by omega, by unfold zr; omega, ?_⟩
          rw [e3]; exact z
    rw [hC.1, if_neg (by omega), e1, e2, a0.1, a1.1, a0.2.1, a0.2.2, a1.2.1, a1.2.2]
    refine ⟨by unfold zr; omega, ?_⟩
    by_cases g2 : wD hs pp g (wW hs pp F L g i) = true
    · rw [if_pos g2] at on off ⊢
      rw [if_neg (by decide)]
      refine ⟨by omega, by omega, by omega, by omega, ?_⟩
      have eg : qG F L true i = decide (L i < F (i + 1)) := rfl
      rw [g2, eg, decide_eq_true_iff] at on off
      by_cases g4 : F (i + 1) ≤ L i
      · rw [if_pos g4]; exact ⟨by unfold zr; omega, off (by omega)⟩
      · rw [if_neg g4]; exact ⟨by unfold zr; omega, on (by omega)⟩
    · rw [if_neg g2] at on off ⊢
      rw [if_pos rfl]
      refine ⟨by omega, by omega, by omega, by omega, ?_⟩
      have eg : qG F L false i = decide (L (i + 1) < F i) := rfl
      rw [show wD hs pp g (wW hs pp F L g i) = false by simpa using g2, eg, decide_eq_true_iff] at on off
      by_cases g4 : F i ≤ L (i + 1)
      · rw [if_pos g4]; exact ⟨by unfold zr; omega, off (by omega)⟩
      · rw [if_neg g4]; exact ⟨by unfold zr; omega, on (by omega)⟩)
theorem s_P_putRanks {I : ZI} {Q : Int → ZI → Prop} (hW : Wf sh R) (hh : 1 ≤ hs ∧ hs ≤ 9) (hg : g ≤ 5) (hq : qOk K m c ks F L) (h15 : I 15 0 = hs) (hp : I 15 1 = pp) (h3 : I 59 3 = (g : Int)) (hC : qC I c ks F L) (q : ∀ (J : ZI), (wOk hs pp F L c g = true → ∀ j, j < c → J 60 (ks j).toNat = wW hs pp F L g j) → (∀ a b, ¬ a = 60 → J a b = I a b) → Q (if wOk hs pp F L c g = true then 1 else 0) J) : XI (d + 3) 36 [.inr 59, .inl (wE hs g)] n sh R I Q := by
  have p := wE_le hh (k := g) (by omega)
  have p1 := wE_pos hh.1 g
  refine b_P_putRanks_0 hW (b_P_putRanks_4 hW ?_)
  rw [hC.1, if_neg (by omega)]
  by_cases g0 : c = 0
  · have e : wOk hs pp F L c g = true := decide_eq_true (.inl g0)
    have q1 := q I (fun _ j hj => by omega) fun _ _ _ => rfl
    rw [if_pos e] at q1
    rw [if_pos (by omega), if_neg (by omega)]
    exact q1
  rw [if_neg (by omega)]
  have c9 := hq.1
  have a0 := hC.2 0 (by omega)
  have b0 := hq.2.1 0 (by omega)
  have ew : wW hs pp F L g 0 = 0 := rfl
  refine s_P_pipesOn hW hh h15 hp (by omega) h3 (by omega) fun v hv => ?_
  have e0 : (0 : Int).toNat = 0 := rfl
  rw [e0, a0.1]
  have z := l_P_put (d := d) (n := n) (Q := Q) (pp := pp) (hs := hs) hW hh hg hq (c - 1) 0 (zup I 60 (ks 0).toNat 0) (by omega) (by rw [zup_ne (by omega)]; exact h15) (by rw [zup_ne (by omega)]; exact hp) (by rw [zup_ne (by omega)]; exact h3) ⟨by rw [zup_ne (by omega)]; exact hC.1, fun j hj => by rw [zup_ne (by omega), zup_ne (by omega), zup_ne (by omega)]; exact hC.2 j hj⟩ (by omega) (fun j hj => by
    obtain rfl : j = 0 := by omega
    rw [zup_eq ⟨rfl, rfl⟩, ew]) fun J j1 j2 => by
      have e : wOk hs pp F L c g = decide (wW hs pp F L g (c - 1) < wE hs g) := by
        unfold wOk
        exact decide_eq_decide.mpr ⟨fun a => a.resolve_left g0, .inr⟩
      have q1 := q J (by rw [e, decide_eq_true_iff]; exact j1) fun a b hab => by rw [j2 a b hab, zup_ne (by omega)]
      rw [e] at q1
      simpa only [decide_eq_true_iff] using q1
  rw [ew] at z
  by_cases g2 : wD hs pp g 0 = true
  · rw [if_neg (not_not_intro (hv.mpr g2))]
    rw [if_pos g2] at z
    exact ⟨by omega, by omega, by unfold zr; omega, z⟩
  · rw [if_pos (fun c => g2 (hv.mp c))]
    rw [if_neg g2] at z
    exact ⟨by omega, by omega, by unfold zr; omega, z⟩
/-- what stands behind a plan that is found -/
def wC (I : ZI) (hs pp : Int) (c : Nat) (ks F L : Nat → Int) : Prop := wGo hs pp F L c = -1 ∨ ∃ g : Nat, wGo hs pp F L c = (g : Int) ∧ g ≤ 5 ∧ (c = 0 ∨ wW hs pp F L g (c - 1) < wE hs g) ∧ I 59 3 = (g : Int) ∧ ∀ j, j < c → I 60 (ks j).toNat = wW hs pp F L g j
theorem l_P_find {Q : Int → ZI → Prop} (hW : Wf sh R) (hh : 1 ≤ hs ∧ hs ≤ 9) (hq : qOk K m c ks F L) : ∀ (f g : Nat) (I : ZI), g + f = 6 → I 15 0 = hs → I 15 1 = pp → I 59 3 = (g : Int) → qC I c ks F L → wGo hs pp F L c = pFind (wOk hs pp F L c) g f → (∀ (J : ZI), wC J hs pp c ks F L → qC J c ks F L → (∀ a b, ¬ (a = 59 ∧ b = 3) → ¬ a = 60 → J a b = I a b) → Q (if wGo hs pp F L c = -1 then -2 else wGo hs pp F L c) J) → XIs (d + 4) 35 7 [some (.inr 59), some (.inl (wE hs g))] [] n sh R I Q
  | 0, g, I, h, h15, hp, h3, hC, he, q => b_P_find_7 hW (by
    have e : wGo hs pp F L c = -1 := he
    have q1 := q I (.inl e) hC fun _ _ _ _ => rfl
    rw [if_pos e] at q1
    rw [h3, if_pos (by omega)]
    exact q1)
  | f + 1, g, I, h, h15, hp, h3, hC, he, q => b_P_find_7 hW (by
    rw [h3, if_neg (by omega)]
    refine s_P_putRanks hW hh (by omega) hq h15 hp h3 hC fun J j1 j2 => ?_
    have es : pFind (wOk hs pp F L c) g (f + 1) = if wOk hs pp F L c g = true then (g : Int) else pFind (wOk hs pp F L c) (g + 1) f := rfl
    rw [es] at he
    have hC2 : qC J c ks F L := ⟨by rw [j2 _ _ (by omega)]; exact hC.1, fun j hj => by rw [j2 _ _ (by omega), j2 _ _ (by omega), j2 _ _ (by omega)]; exact hC.2 j hj⟩
    have f3 : J 59 3 = (g : Int) := by rw [j2 _ _ (by omega)]; exact h3
    by_cases g1 : wOk hs pp F L c g = true
    · rw [if_pos g1] at he ⊢
      rw [if_neg (by decide), f3]
      have q1 := q J (.inr ⟨g, he, by omega, by simpa [wOk] using g1, f3, j1 g1⟩) hC2 fun a b h1 h2 => j2 a b h2
      rw [if_neg (by omega), he] at q1
      exact q1
    · rw [if_neg g1] at he ⊢
      rw [if_pos rfl, f3, j2 15 0 (by omega), h15]
      have l2 := wE_le hh (k := g + 1) (by omega)
      have p2 := wE_pos hh.1 (g + 1)
      have e : wE hs g * hs = wE hs (g + 1) := rfl
      rw [e]
      refine ⟨by unfold zr; omega, by unfold zr; omega, ?_⟩
      rw [show (g : Int) + 1 = ((g + 1 : Nat) : Int) by omega]
      exact l_P_find hW hh hq f (g + 1) _ (by omega) (by rw [zup_ne (by omega), j2 _ _ (by omega)]; exact h15) (by rw [zup_ne (by omega), j2 _ _ (by omega)]; exact hp) (zup_eq ⟨rfl, rfl⟩) ⟨by rw [zup_ne (by omega)]; exact hC2.1, fun j hj => by rw [zup_ne (by omega), zup_ne (by omega), zup_ne (by omega)]; exact hC2.2 j hj⟩ he fun M m1 m2 m3 => q M m1 m2 fun a b h1 h2 => by rw [m3 a b h1 h2, zup_ne (by omega), j2 a b h2])
theorem s_P_find {I : ZI} {Q : Int → ZI → Prop} (hW : Wf sh R) (hh : 1 ≤ hs ∧ hs ≤ 9) (hq : qOk K m c ks F L) (h15 : I 15 0 = hs) (hp : I 15 1 = pp) (hC : qC I c ks F L) (q : ∀ (J : ZI), wC J hs pp c ks F L → qC J c ks F L → (∀ a b, ¬ (a = 59 ∧ b = 3) → ¬ a = 60 → J a b = I a b) → Q (if wGo hs pp F L c = -1 then -2 else wGo hs pp F L c) J) : XI (d + 4) 35 [.inr 59] n sh R I Q :=
  b_P_find_0 hW (l_P_find (hs := hs) (pp := pp) hW hh hq 6 0 _ (by omega) (by rw [zup_ne (by omega)]; exact h15) (by rw [zup_ne (by omega)]; exact hp) (zup_eq ⟨rfl, rfl⟩) ⟨by rw [zup_ne (by omega)]; exact hC.1, fun j hj => by rw [zup_ne (by omega), zup_ne (by omega), zup_ne (by omega)]; exact hC.2 j hj⟩ rfl fun M m1 m2 m3 => q M m1 m2 fun a b h1 h2 => by rw [m3 a b h1 h2, zup_ne (by omega)])
end PL
