-- BADLY: the model, the call
section BY
variable {d n t : Nat} {sh : ZS} {R : ZR} {B : ZI} {lw S : Nat} {g : Int} {m : Nat} {x1 x2 : Int}
theorem l_M_told {I : ZI} {Q : Int → ZI → Prop} {a1 : Nat} {T : List Int} {TT : Nat → Int} (hW : Wf sh R) (ha : sh a1 = (0, 32)) (hl : T.length ≤ 32) (h64 : I 137 64 = (T.length : Int)) (hT : ∀ p, p < T.length → I a1 p = T.getD p 0) (hr : ∀ p, p < T.length → 0 ≤ T.getD p 0 ∧ T.getD p 0 < 32) (h178 : ∀ p, p < T.length → I 178 p = zi2b (TT p) ∧ 0 ≤ TT p ∧ TT p < 256) (q : Q (if decide (∀ p, p < T.length → TT p = T.getD p 0) = true then 1 else 0) I) : ∀ c p : Nat, p + c = T.length → (∀ k, k < p → TT k = T.getD k 0) → XIs d 237 2 [some (.inr 137), some (.inr a1), some (.inl (p : Int))] [] n sh R I Q
  | 0, p, h, hk => b_M_isAsTold_2 hW ha (by
    rw [h64, if_pos (by omega)]
    rw [if_pos (decide_eq_true fun k hk2 => hk k (by omega))] at q
    exact q)
  | c + 1, p, h, hk => b_M_isAsTold_2 hW ha (by
    have r := hr p (by omega)
    have z := h178 p (by omega)
    rw [h64, if_neg (by omega), Int.toNat_natCast, hT p (by omega), z.1, show (p : Int) + 1 = ((p + 1 : Nat) : Int) by omega]
    refine ⟨by omega, ?_⟩
    have ze := zi2b_eq (TT p)
    by_cases e : T.getD p 0 = zi2b (TT p)
    · rw [if_pos e]
      refine ⟨by unfold zr; omega, l_M_told hW ha hl h64 hT hr h178 q c (p + 1) (by omega) fun k hk2 => ?_⟩
      by_cases x : k = p
      · rw [x]; omega
      · exact hk k (by omega)
    · rw [if_neg e]
      rw [if_neg (fun x => e (by have := of_decide_eq_true x p (by omega); omega))] at q
      exact q)
theorem s_M_told {I : ZI} {Q : Int → ZI → Prop} {a1 : Nat} {T : List Int} {TT : Nat → Int} (hW : Wf sh R) (ha : sh a1 = (0, 32)) (hl : T.length ≤ 32) (h64 : I 137 64 = (T.length : Int)) (hT : ∀ p, p < T.length → I a1 p = T.getD p 0) (hr : ∀ p, p < T.length → 0 ≤ T.getD p 0 ∧ T.getD p 0 < 32) (h178 : ∀ p, p < T.length → I 178 p = zi2b (TT p) ∧ 0 ≤ TT p ∧ TT p < 256) (q : Q (if decide (∀ p, p < T.length → TT p = T.getD p 0) = true then 1 else 0) I) : XI d 237 [.inr 137, .inr a1] n sh R I Q :=
  b_M_isAsTold_0 hW ha (l_M_told hW ha hl h64 hT hr h178 q T.length 0 (by omega) fun k hk => absurd hk (by omega))
def frK (a b : Nat) : Prop := fM 32 a b ∨ a = 142
theorem l_M_106 {Q : Int → ZI → Prop} {K I0 : ZI} {H : List Int} {LA : Nat → Int} {hs L0 : Nat} {TT : Nat → Int} (hW : Wf sh R) (hb : bOk B S) (hg : 0 ≤ g ∧ g + m ≤ 12) (hm : 1 ≤ m ∧ m ≤ 6) (hhs : B 137 3 = (hs : Int)) (hL0 : B 137 0 = (L0 : Int)) (hv : stOk B H g LA) (hx : -1 ≤ x2 ∧ x2 ≤ 2) (hK : mSt K H g LA) (h64 : I0 137 64 = ((gGo B m H g LA).1.length : Int)) (h178 : ∀ p, p < (gGo B m H g LA).1.length → I0 178 p = zi2b (TT p) ∧ 0 ≤ TT p ∧ TT p < 256) (hE0 : mEnv B I0) (hA0 : mAsd K I0)
    (q : ∀ J : ZI, (∀ a b, ¬ frK a b → J a b = I0 a b) → mSt J H g LA → mBk K J → Q (jAns hs (jN (jC B TT m H g LA) (m * 32 * hs)) x2) J) :
    ∀ (f c : Nat) (I : ZI) (u6 u7 : Option AV), c + f = m * 32 * hs → mSt I H g LA → mBk K I → (∀ a b, ¬ frK a b → I a b = I0 a b) → (0 ≤ I 137 36 ∧ I 137 36 ≤ 1000000 + 20000 * c ∧ 0 ≤ I 137 37 ∧ I 137 37 ≤ 1000000 + 20000 * c ∧ 0 ≤ I 137 38 ∧ I 137 38 ≤ 1000000 + 20000 * c) → XIs (d + 8) 238 106 [some (.inr 137), some (.inl (m : Int)), some (.inl x2), some (.inl (jN (jC B TT m H g LA) c).1), some (.inl (jN (jC B TT m H g LA) c).2), some (.inl (c : Int)), u6, u7] [] n sh R I Q
  | 0, c, I, u6, u7, h, hH, hB, hf, hz => b_M_badly_106 hW (by
    have hs9 := hb.2.1
    have i3 : I 137 3 = (hs : Int) := by rw [hf _ _ (by unfold frK fM; omega), hE0.1.2.1]; exact hhs
    have bd : m * 32 * hs ≤ 192 * 9 := Nat.mul_le_mul (by omega) (by omega)
    have e1 : (m : Int) * 32 * (hs : Int) = ((m * 32 * hs : Nat) : Int) := by simp
    obtain rfl : c = m * 32 * hs := by omega
    have jo := jN_ok (ok := jC B TT m H g LA) (m * 32 * hs)
    have q2 := q I hf hH hB
    rw [i3, e1, if_pos (by omega)]
    refine ⟨by unfold zr; omega, by unfold zr; omega, ?_⟩
    unfold jAns at q2
    generalize jN (jC B TT m H g LA) (m * 32 * hs) = mn at jo q2 ⊢
    by_cases g1 : x2 = -1
    · rw [if_neg (not_not_intro g1)]
      rw [if_pos g1] at q2; exact q2
    rw [if_pos g1]
    rw [if_neg g1] at q2
    by_cases g2 : mn.2 = -1
    · rw [if_neg (not_not_intro g2)]
      rw [if_pos g2] at q2; exact q2
    rw [if_pos g2]
    rw [if_neg g2] at q2
    obtain ⟨f, hf2⟩ : ∃ f : Nat, mn.2 = (f : Int) := ⟨mn.2.toNat, by omega⟩
    have d1 : (f : Int) / (hs : Int) = ((f / hs : Nat) : Int) := by simp
    have d2 : (f : Int) % (hs : Int) = ((f % hs : Nat) : Int) := by simp
    have d3 : f / hs ≤ f := Nat.div_le_self f hs
    have d0 : 0 ≤ ((f / hs : Nat) : Int) := Int.natCast_nonneg _
    have d9 : ((f / hs : Nat) : Int) ≤ (f : Int) := Int.ofNat_le.mpr d3
    rw [hf2, Int.toNat_natCast] at q2
    rw [hf2, d1, d2]
    by_cases g3 : x2 = 0
    · rw [if_neg (not_not_intro g3)]
      rw [if_pos g3] at q2
      refine ⟨by omega, by omega, by omega, ?_⟩
      rw [show ((f / hs : Nat) : Int) / 32 = ((f / hs / 32 : Nat) : Int) by omega]; exact q2
    rw [if_pos g3]
    rw [if_neg g3] at q2
    by_cases g4 : x2 = 1
    · rw [if_neg (not_not_intro g4)]
      rw [if_pos g4] at q2
      refine ⟨by omega, by omega, by omega, ?_⟩
      rw [show ((f / hs : Nat) : Int) % 32 = ((f / hs % 32 : Nat) : Int) by omega]; exact q2
    rw [if_pos g4]
    rw [if_neg g4] at q2
    exact ⟨by omega, by omega, q2⟩)
  | f + 1, c, I, u6, u7, h, hH, hB, hf, hz => b_M_badly_106 hW (by
    have hs9 := hb.2.1
    have hb1 := hb.1
    have i3 : I 137 3 = (hs : Int) := by rw [hf _ _ (by unfold frK fM; omega), hE0.1.2.1]; exact hhs
    have i0 : I 137 0 = (L0 : Int) := by rw [hf _ _ (by unfold frK fM; omega), hE0.1.1]; exact hL0
    have bd : m * 32 * hs ≤ 192 * 9 := Nat.mul_le_mul (by omega) (by omega)
    have e1 : (m : Int) * 32 * (hs : Int) = ((m * 32 * hs : Nat) : Int) := by simp
    have jo := jN_ok (ok := jC B TT m H g LA) c
    have d1 : (c : Int) / (hs : Int) = ((c / hs : Nat) : Int) := by simp
    have d2 : (c : Int) % (hs : Int) = ((c % hs : Nat) : Int) := by simp
    have d3 : c / hs ≤ c := Nat.div_le_self c hs
    have d0 : 0 ≤ ((c / hs : Nat) : Int) := Int.natCast_nonneg _
    have d9 : ((c / hs : Nat) : Int) ≤ (c : Int) := Int.ofNat_le.mpr d3
    have d4 : c / hs < m * 32 := (Nat.div_lt_iff_lt_mul (by omega)).mpr (by omega)
    have d5 : c % hs < hs := Nat.mod_lt c (by omega)
    have d6 : ((c / hs : Nat) : Int) % 32 = ((c / hs % 32 : Nat) : Int) := by omega
    have d7 : ((c / hs : Nat) : Int) / 32 = ((c / hs / 32 : Nat) : Int) := by omega
    have hin := hv.1.inb hb
    have es : (B 137 3).toNat = hs := by omega
    have jc : jC B TT m H g LA c = (decide (((c / hs % 32 : Nat) : Int) < B 137 0) && jRt B TT m H g LA (c / hs / 32) ((c / hs % 32 : Nat) : Int) ((c % hs : Nat) : Int)) := by
      unfold jC; rw [es]
    have je : jN (jC B TT m H g LA) (c + 1) = if jC B TT m H g LA c = true then ((jN (jC B TT m H g LA) c).1 + 1, if (jN (jC B TT m H g LA) c).2 = -1 then (c : Int) else (jN (jC B TT m H g LA) c).2) else jN (jC B TT m H g LA) c := rfl
    have nx : ∀ (J : ZI) (x3 x4 : Int) (u6 u7 : Option AV), x3 = (jN (jC B TT m H g LA) (c + 1)).1 → x4 = (jN (jC B TT m H g LA) (c + 1)).2 → mSt J H g LA → mBk K J → (∀ a b, ¬ frK a b → J a b = I0 a b) → (0 ≤ J 137 36 ∧ J 137 36 ≤ 1000000 + 20000 * (c + 1 : Nat) ∧ 0 ≤ J 137 37 ∧ J 137 37 ≤ 1000000 + 20000 * (c + 1 : Nat) ∧ 0 ≤ J 137 38 ∧ J 137 38 ≤ 1000000 + 20000 * (c + 1 : Nat)) → (zr ((c : Int) + 1)) ∧ XIs (d + 8) 238 106 [some (.inr 137), some (.inl (m : Int)), some (.inl x2), some (.inl x3), some (.inl x4), some (.inl ((c : Int) + 1)), u6, u7] [] n sh R J Q := fun J x3 x4 u6 u7 h3 h4 a1 a2 a3 a4 => by
      rw [show (c : Int) + 1 = ((c + 1 : Nat) : Int) by omega, h3, h4]
      exact ⟨by unfold zr; omega, l_M_106 hW hb hg hm hhs hL0 hv hx hK h64 h178 hE0 hA0 q f (c + 1) J u6 u7 (by omega) a1 a2 a3 a4⟩
    rw [i3, e1, if_neg (by omega), d1, d2, d6, d7, i0]
    refine ⟨by unfold zr; omega, by unfold zr; omega, by omega, by omega, by omega, ?_⟩
    rw [if_neg (by omega)]
    by_cases g1 : (L0 : Int) ≤ ((c / hs % 32 : Nat) : Int)
    · rw [if_pos g1]
      have no : ¬ jC B TT m H g LA c = true := by rw [jc, decide_eq_false (by omega), Bool.false_and]; decide
      exact nx I _ _ _ _ (by rw [je, if_neg no]) (by rw [je, if_neg no]) hH hB hf (by omega)
    · rw [if_neg g1]
      rw [decide_eq_true (show ((c / hs % 32 : Nat) : Int) < B 137 0 by omega), Bool.true_and] at jc
      refine ⟨by omega, by omega, ?_⟩
      have hE : mEnv B I := hE0.fr fun a b hab => hf a b (by unfold frK fM; omega)
      have hA : mAsd K I := hA0.fr fun a b hab => hf a b (by unfold frK fM; omega)
      -- put back
      have ag : ∀ (M : ZI) (P : ZI → Prop), (∀ a b, ¬ fM 32 a b → M a b = I a b) → (0 ≤ M 137 36 ∧ M 137 36 ≤ 1000000 + 20000 * (c + 1 : Nat) ∧ 0 ≤ M 137 37 ∧ M 137 37 ≤ 1000000 + 20000 * (c + 1 : Nat) ∧ 0 ≤ M 137 38 ∧ M 137 38 ≤ 1000000 + 20000 * (c + 1 : Nat)) → (∀ J : ZI, mSt J H g LA → mBk K J → (∀ a b, ¬ frK a b → J a b = I0 a b) → (0 ≤ J 137 36 ∧ J 137 36 ≤ 1000000 + 20000 * (c + 1 : Nat) ∧ 0 ≤ J 137 37 ∧ J 137 37 ≤ 1000000 + 20000 * (c + 1 : Nat) ∧ 0 ≤ J 137 38 ∧ J 137 38 ≤ 1000000 + 20000 * (c + 1 : Nat)) → P J) → XV (d + 7) 191 [.inr 137] n sh R M P := fun M P hM hz2 hP => by
        refine s_M_again hW (hA.fr fun a b hab => hM a b (by unfold fM; omega)) fun J k1 k2 => hP J (hK.bk hin.1 k1) k1 (fun a b hab => ?_) ?_
        · have hab2 := hab
          unfold frK fM at hab2
          rw [k2 a b (by omega) (by omega) (by omega), hM a b (by unfold fM; omega)]; exact hf a b hab
        · rw [k2 _ _ (by omega) (by omega) (by omega), k2 _ _ (by omega) (by omega) (by omega), k2 _ _ (by omega) (by omega) (by omega)]; exact hz2
      refine b_M_goesWrong_0 hW (l_M_wr1 (r := m - c / hs / 32 - 1) hW hb (by omega) (by omega) (by omega) (c / hs / 32) 0 I H g LA (1000000 + 20000 * c) _ (by omega) hE hH hv (by omega) (by omega) (by omega) (fun J n1 n4 n2 => ?_) fun J T L2 n1 n2 n4 n3 => ?_)
      · rw [if_pos rfl]
        have no : ¬ jC B TT m H g LA c = true := by
          rw [jc]; unfold jRt; rw [n1]; exact Bool.false_ne_true
        exact ag J _ n2 (by omega) fun J2 a1 a2 a3 a4 => nx J2 _ _ _ _ (by rw [je, if_neg no]) (by rw [je, if_neg no]) a1 a2 a3 a4
      · rw [if_neg (by decide)]
        have hhh : 0 ≤ ((c % hs : Nat) : Int) ∧ ((c % hs : Nat) : Int) < B 137 3 := by omega
        have okT := gWr_ok hb hv hhh n1
        have ok13 := (gGo_ok hb m H g LA hv).1
        have lT := (okT.1.inb hb).1
        have nl : T.length = (gGo B m H g LA).1.length := by
          rw [ok13.1.1, okT.1.1]
          rw [show g + (((c / hs / 32 : Nat) : Int) + 1 + ((m - c / hs / 32 - 1 : Nat) : Int)) = g + m by omega]
        have jr : jC B TT m H g LA c = decide (∀ p, p < T.length → TT p = T.getD p 0) := by
          rw [jc]; unfold jRt; rw [n1]
        have fJ : ∀ a b, ¬ frK a b → J a b = I0 a b := fun a b hab => by
          have hab2 := hab
          unfold frK at hab2
          rw [n3 a b (fun x => hab2 (.inl x))]; exact hf a b hab
        refine s_M_told (T := T) (TT := TT) hW (sh_142 hW) lT (by rw [fJ _ _ (by unfold frK fM; omega), nl]; exact h64) n2.2.1 (fun p hp => by have := (okT.1.inb hb).2 p hp; omega) (fun p hp => by rw [fJ _ _ (by unfold frK fM; omega)]; exact h178 p (by omega)) ?_
        rw [← jr]
        by_cases g2 : jC B TT m H g LA c = true
        · rw [if_pos g2, if_neg (by decide)]
          refine ag J _ n3 (by omega) fun J2 a1 a2 a3 a4 => ?_
          rw [if_pos g2] at je
          have j1 : (jN (jC B TT m H g LA) c).1 + 1 = (jN (jC B TT m H g LA) (c + 1)).1 := by rw [je]
          have j2 : (if (jN (jC B TT m H g LA) c).2 = -1 then (c : Int) else (jN (jC B TT m H g LA) c).2) = (jN (jC B TT m H g LA) (c + 1)).2 := by rw [je]
          by_cases g3 : (jN (jC B TT m H g LA) c).2 = -1
          · rw [if_neg (not_not_intro g3)]
            rw [if_pos g3] at j2
            exact ⟨by unfold zr; omega, nx J2 _ _ _ _ j1 j2 a1 a2 a3 a4⟩
          · rw [if_pos g3]
            rw [if_neg g3] at j2
            exact ⟨by unfold zr; omega, nx J2 _ _ _ _ j1 j2 a1 a2 a3 a4⟩
        · rw [if_neg g2, if_pos rfl]
          exact ag J _ n3 (by omega) fun J2 a1 a2 a3 a4 => nx J2 _ _ _ _ (by rw [je, if_neg g2]) (by rw [je, if_neg g2]) a1 a2 a3 a4)
end BY
