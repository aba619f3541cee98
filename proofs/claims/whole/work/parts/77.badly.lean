-- BADLY: what the law doesn't ask can't change its answer; the told row
def mkEq (M : Int) (fa fb : Nat → Int) : Prop := ∀ k, k < 8 → M.toNat.testBit k = true → fa k = fb k
def mkOk (M : Int) (cd : Nat → Int) (S : Nat) : Prop := ∀ p, p < S → cd p / 1048576 = 1 → M.toNat.testBit (cd p % 1048576).toNat = true
theorem lStep_mk {M c : Int} {fa fb : Nat → Int} (h : mkEq M fa fb) (hc : c / 1048576 = 1 → M.toNat.testBit (c % 1048576).toNat = true) (p : Nat) (s : List Int) : lStep c fa p s = lStep c fb p s := by
  unfold lStep
  dsimp only
  by_cases h0 : c / 1048576 = 0
  · rw [if_pos h0, if_pos h0]
  rw [if_neg h0, if_neg h0]
  by_cases h1 : c / 1048576 = 1
  · rw [if_pos h1, if_pos h1]
    by_cases g : c % 1048576 < 8
    · rw [if_pos g, if_pos g, h _ (by omega) (hc h1)]
    · rw [if_neg g, if_neg g]
  rw [if_neg h1, if_neg h1]
theorem lGo_mk {M : Int} {cd fa fb : Nat → Int} {S : Nat} (h : mkEq M fa fb) (hm : mkOk M cd S) {q : Nat} (hq : q ≤ S) : ∀ (f p : Nat) (s : List Int), p ≤ q → lGo cd fa q f p s = lGo cd fb q f p s
  | 0, p, s, _ => rfl
  | f + 1, p, s, hp => by
    unfold lGo
    by_cases e : p = q
    · rw [if_pos e, if_pos e]
    rw [if_neg e, if_neg e, lStep_mk h (hm p (by omega)) p s]
    cases lStep (cd p) fb p s with
    | none => rfl
    | some w =>
      cases w with
      | none => rfl
      | some z =>
        obtain ⟨p2, s2⟩ := z
        dsimp only
        by_cases g : p < p2 ∧ p2 ≤ q
        · rw [if_pos g, if_pos g]; exact lGo_mk h hm hq f p2 s2 g.2
        · rw [if_neg g, if_neg g]
theorem lVal_mk {M : Int} {cd fa fb : Nat → Int} {S : Nat} (h : mkEq M fa fb) (hm : mkOk M cd S) {p q : Nat} (hp : p ≤ q) (hq : q ≤ S) : lVal cd fa p q = lVal cd fb p q := by
  rw [lVal_eq, lVal_eq, lGo_mk h hm hq _ _ _ hp]
theorem lFirst_mk {M : Int} {B : ZI} {fa fb : Nat → Int} {S : Nat} {kind : Int} (h : mkEq M fa fb) (hm : mkOk M (B 151) S) (hb : bLaw B S) : ∀ n c : Nat, ((c + n : Nat) : Int) ≤ B 137 22 → lFirst kind B fa n c = lFirst kind B fb n c
  | 0, _, _ => rfl
  | n + 1, c, hc => by
    have b := (hb.2.2 c (by omega)).1
    unfold lFirst
    rw [lVal_mk h hm (by omega) (by omega), lFirst_mk h hm hb n (c + 1) (by omega)]
theorem lFirst_lt {B : ZI} {fa : Nat → Int} {kind : Int} : ∀ (n c e : Nat), lFirst kind B fa n c = some e → c ≤ e ∧ e < c + n
  | 0, c, e, h => by cases h
  | n + 1, c, e, h => by
    unfold lFirst at h
    by_cases g : B 152 c = kind ∧ lVal (B 151) fa (B 154 c).toNat (B 155 c).toNat = 1
    · rw [if_pos g] at h; cases h; omega
    · rw [if_neg g] at h
      have := lFirst_lt n (c + 1) e h
      omega
theorem gHole_mk {M : Int} {B : ZI} {fa fb : Nat → Int} {S : Nat} (h : mkEq M fa fb) (hm : mkOk M (B 151) S) (hb : bLaw B S) : gHole B fa = gHole B fb := by
  have h0 := hb.1.1
  have hc : ((0 + (B 137 22).toNat : Nat) : Int) ≤ B 137 22 := by omega
  unfold gHole
  have e1 : lOut B fa = lOut B fb := by unfold lOut; rw [lFirst_mk h hm hb _ _ hc]
  have e2 : lAm B fa 104 (B 137 3 - 1) = lAm B fb 104 (B 137 3 - 1) := by
    unfold lAm
    rw [lFirst_mk h hm hb _ _ hc]
    cases e : lFirst 104 B fb (B 137 22).toNat 0 with
    | none => rfl
    | some c =>
      have l := lFirst_lt _ _ _ e
      have b := (hb.2.2 c (by omega)).1
      exact congrArg (fun v => lClamp v (B 137 3 - 1)) (lVal_mk h hm (by omega) (by omega))
  rw [e1, e2]
theorem pEach_of {T : Nat → Int} {P : Int → Int} (hT : ∀ b, 0 ≤ P b → 0 ≤ b ∧ b < 32) : ∀ (c j : Nat) (x : Int), zr x → (∀ k, j ≤ k → k < j + c → 0 ≤ P (T k) ∧ zBit x (T k).toNat = false) → (∀ i k, j ≤ i → i < k → k < j + c → ¬ T i = T k) → pEach T P j c x = true
  | 0, j, x, hx, _, _ => rfl
  | c + 1, j, x, hx, h, hd => by
    have hj := h j (Nat.le_refl j) (by omega)
    have b := hT (T j) hj.1
    obtain ⟨k, hk⟩ : ∃ k : Nat, T j = (k : Int) := ⟨(T j).toNat, by omega⟩
    unfold pEach
    rw [if_neg (by omega)]
    rw [hk, Int.toNat_natCast] at hj
    rw [hk, zBit_and1 hx (by omega), hj.2, if_neg (show ¬ (false = true) by decide), if_pos rfl]
    refine pEach_of hT c (j + 1) _ ?_ (fun i h1 h2 => ⟨(h i (by omega) (by omega)).1, ?_⟩) fun i i2 h1 h2 h3 => hd i i2 (by omega) h2 (by omega)
    · have w := (Int32.ofInt x ||| Int32.ofInt (zshl 1 (k : Int))).toInt_lt
      have w2 := (Int32.ofInt x ||| Int32.ofInt (zshl 1 (k : Int))).le_toInt
      unfold zor zr
      omega
    · have a := h i (by omega) (by omega)
      have b2 := hT (T i) a.1
      have n := hd j i (Nat.le_refl j) (by omega) (by omega)
      rw [zBit_or, a.2, zBit_one (by omega)]
      have : ¬ (T i).toNat = k := by omega
      simp [this]
section BT
variable {d n t : Nat} {sh : ZS} {R : ZR} {B : ZI} {lw S o : Nat}
/-- the told row is this one -/
def tTold (I : ZI) (N : List Int) : Prop := ∀ p, p < N.length → I 3 p = N.getD p 0
theorem l_T_tells {I : ZI} {Q : Int → ZI → Prop} {N : List Int} {g : Int} {LA : Nat → Int} (hW : Wf sh R) (hS : St sh R o) (hl : N.length ≤ 32) (hH : gSt B I o N g LA) (h2 : (N.length : Int) ≤ I 2 1) (q : ∀ v : Int, (v = 1 ∧ tTold I N) ∨ (v = 0 ∧ ¬ tTold I N) → Q v I) : ∀ (c p : Nat), p + c = N.length → (∀ k, k < p → I 3 k = N.getD k 0) → XIs (d + 1) 86 2 [some (.inr 2), some (.inr o), some (.inl (p : Int))] [] n sh R I Q
  | 0, p, h, hk => b_T_tells_2 hW hS (by
    rw [hH.1.2.1, if_pos (by omega)]
    exact q 1 (.inl ⟨rfl, fun k hk2 => hk k (by omega)⟩))
  | c + 1, p, h, hk => b_T_tells_2 hW hS (by
    rw [hH.1.2.1, if_neg (by omega), if_neg (by omega), if_neg (by omega), Int.toNat_natCast, hH.2.1 p (by omega), show (p : Int) + 1 = ((p + 1 : Nat) : Int) by omega]
    refine ⟨by omega, by omega, ?_⟩
    by_cases e : I 3 p = N.getD p 0
    · rw [if_pos e]
      refine ⟨by unfold zr; omega, l_T_tells hW hS hl hH h2 q c (p + 1) (by omega) fun k hk2 => ?_⟩
      by_cases x : k = p
      · rw [x]; exact e
      · exact hk k (by omega)
    · rw [if_neg e]
      exact q 0 (.inr ⟨rfl, fun c => e (c p (by omega))⟩))
theorem s_T_tells {I : ZI} {Q : Int → ZI → Prop} {N : List Int} {g : Int} {LA : Nat → Int} (hW : Wf sh R) (hS : St sh R o) (hl : N.length ≤ 32) (hH : gSt B I o N g LA) (h2 : (N.length : Int) ≤ I 2 1) (q : ∀ v : Int, (v = 1 ∧ tTold I N) ∨ (v = 0 ∧ ¬ tTold I N) → Q v I) : XI (d + 1) 86 [.inr 2, .inr o] n sh R I Q :=
  b_T_tells_0 hW hS (l_T_tells hW hS hl hH h2 q N.length 0 (by omega) fun k hk => absurd hk (by omega))
theorem gd_perm {T N : List Int} (h : T.Perm N) {p : Nat} (hp : p < T.length) : ∃ q, q < N.length ∧ N.getD q 0 = T.getD p 0 := by
  have m : T.getD p 0 ∈ N := h.mem_iff.mp (gd_mem hp)
  obtain ⟨q, hq, e⟩ := List.getElem_of_mem m
  refine ⟨q, hq, ?_⟩
  rw [← e]
  simp [List.getD, hq]
theorem tEach_of {I : ZI} {T N : List Int} {g : Int} {LA : Nat → Int} (hH : gSt B I o N g LA) (hp : T.Perm N) (hn : N.Nodup) (hr : ∀ p, p < N.length → 0 ≤ N.getD p 0 ∧ N.getD p 0 < 32) (ht : tTold I T) : pEach (I 3) (pPlace (I (o + 5)) (I o 6)) 0 (I o 6).toNat 0 = true := by
  have el : T.length = N.length := hp.length_eq
  have e6 : I o 6 = (N.length : Int) := hH.1.2.1
  have ec : ∀ b, pPlace (I (o + 5)) (I o 6) b = pPlace (hOd N) (N.length : Int) b := fun b => pPlace_congr (by rw [e6]) (fun k hk => hH.2.1 k (by omega)) b
  refine pEach_of (fun b hb => ?_) _ 0 0 (by unfold zr; omega) (fun k _ hk => ⟨?_, zBit_0 _⟩) fun i k _ h1 h2 c => ?_
  · rw [ec] at hb
    rcases hOd_place (H := N) (i := b) with e | ⟨p, e, e2, e3⟩
    · omega
    · have := hr p e2; omega
  · rw [ec, ht k (by omega)]
    obtain ⟨q, q1, q2⟩ := gd_perm hp (p := k) (by omega)
    rcases hOd_place (H := N) (i := T.getD k 0) with e | ⟨p, e, e2, e3⟩
    · have := (place_nd hn q1 (T.getD k 0)).mpr q2
      omega
    · omega
  · rw [ht i (by omega), ht k (by omega)] at c
    have nt : T.Nodup := hp.nodup_iff.mpr hn
    have a := (place_nd nt (k := i) (by omega) (T.getD i 0)).mpr rfl
    have b := (place_nd nt (k := k) (by omega) (T.getD i 0)).mpr c.symm
    omega
/-- the key's answer -/
def kAn (B : ZI) (p : Nat) (i : Int) (g : Int) (la : Int) : Int := gHole B (gFa B p i g (fun _ => la))
def jEn (bp bh : Bool) (k i p la : Nat) : Nat := 16 * ((k * 32 + i) * 32 + if bp = true then p else 0) + if bh = true then la else 0
def kInv (B : ZI) (bp bh : Bool) (g0 : Int) (I : ZI) : Prop := (I 121 7 = (if bp = true then 1 else 0) ∧ I 121 8 = (if bh = true then 1 else 0)) ∧ ∀ k i p la : Nat, k < 6 → i < 32 → p < 32 → la < 10 → I 135 (jEn bp bh k i p la) = 0 ∨ I 135 (jEn bp bh k i p la) - 2 = kAn B p i (g0 + k) la
theorem kInv.fr {bp bh : Bool} {g0 : Int} {I J : ZI} (h : kInv B bp bh g0 I) (e : ∀ a b, a = 135 ∨ a = 121 ∧ 7 ≤ b ∧ b ≤ 8 → J a b = I a b) : kInv B bp bh g0 J := by
  refine ⟨⟨by rw [e _ _ (by omega)]; exact h.1.1, by rw [e _ _ (by omega)]; exact h.1.2⟩, fun k i p la h1 h2 h3 h4 => ?_⟩
  rw [e _ _ (by omega)]; exact h.2 k i p la h1 h2 h3 h4
theorem zclr_ne {I : ZI} {r n a b : Nat} (h : ¬ a = r) : zclr I r n a b = I a b := if_neg fun q => h q.1
theorem zclr_in {I : ZI} {r n b : Nat} (h : b < n) : zclr I r n r b = 0 := if_pos ⟨rfl, h⟩
theorem jEn_lt {bp bh : Bool} {k i p la : Nat} (hk : k < 6) (hi : i < 32) (hp : p < 32) (hl : la < 10) : jEn bp bh k i p la < 98304 := by
  unfold jEn
  split <;> split <;> omega
theorem kAn_eq {M : Int} (hm : mkOk M (B 151) S) (hb : bLaw B S) {bp bh : Bool} (hp : bp = M.toNat.testBit 4) (hh : bh = M.toNat.testBit 6) {k i p la k2 i2 p2 la2 : Nat} {g0 : Int} (hi : i < 32) (hi2 : i2 < 32) (hpp : p < 32) (hp2 : p2 < 32) (hl : la < 10) (hl2 : la2 < 10) (e : jEn bp bh k i p la = jEn bp bh k2 i2 p2 la2) : kAn B p i (g0 + k) la = kAn B p2 i2 (g0 + k2) la2 := by
  have c : k = k2 ∧ i = i2 ∧ (bp = true → p = p2) ∧ (bh = true → la = la2) := by
    unfold jEn at e
    cases bp <;> cases bh
    · rw [if_neg (show ¬ (false = true) by decide), if_neg (show ¬ (false = true) by decide), if_neg (show ¬ (false = true) by decide), if_neg (show ¬ (false = true) by decide)] at e
      exact ⟨by omega, by omega, fun x => absurd x (by decide), fun x => absurd x (by decide)⟩
    · rw [if_neg (show ¬ (false = true) by decide), if_neg (show ¬ (false = true) by decide), if_pos rfl, if_pos rfl] at e
      exact ⟨by omega, by omega, fun x => absurd x (by decide), fun x => by omega⟩
    · rw [if_pos rfl, if_neg (show ¬ (false = true) by decide), if_pos rfl, if_neg (show ¬ (false = true) by decide)] at e
      exact ⟨by omega, by omega, fun x => by omega, fun x => absurd x (by decide)⟩
    · rw [if_pos rfl, if_pos rfl, if_pos rfl, if_pos rfl] at e
      exact ⟨by omega, by omega, fun x => by omega, fun x => by omega⟩
  obtain ⟨rfl, rfl, c3, c4⟩ := c
  unfold kAn
  refine gHole_mk (M := M) (fun q hq ht => ?_) hm hb
  unfold gFa
  dsimp only
  by_cases q4 : q = 4
  · subst q4
    have := c3 (by rw [hp]; exact ht)
    exact (show ((p : Nat) : Int) = ((p2 : Nat) : Int) by rw [this])
  by_cases q6 : q = 6
  · subst q6
    have := c4 (by rw [hh]; exact ht)
    exact (show ((la : Nat) : Int) = ((la2 : Nat) : Int) by rw [this])
  · rw [if_neg q4, if_neg q4, if_neg q6, if_neg q6]
end BT
