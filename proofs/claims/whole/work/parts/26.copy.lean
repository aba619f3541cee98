-- COPIES; keep, undo
theorem zcpy_eq {I : ZI} {a sp b dp n o k : Nat} (h : o = b ∧ dp ≤ k ∧ k < dp + n) : zcpy I a sp b dp n o k = I a (sp + (k - dp)) := if_pos h
theorem zcpy_ne {I : ZI} {a sp b dp n o k : Nat} (h : ¬ (o = b ∧ dp ≤ k ∧ k < dp + n)) : zcpy I a sp b dp n o k = I o k := if_neg h
theorem zcpy_to {I : ZI} {a b n k : Nat} (h : k < n) : zcpy I a 0 b 0 n b k = I a k := by rw [zcpy_eq (by omega)]; congr 1; omega
theorem cpy_step {I : ZI} {a b j c : Nat} (h : ¬ a = b) : zcpy (zup I b j (I a j)) a (j + 1) b (j + 1) c = zcpy I a j b j (c + 1) := by
  funext o k
  by_cases g : o = b ∧ j ≤ k ∧ k < j + (c + 1)
  · rw [zcpy_eq g]
    by_cases e : k = j
    · rw [zcpy_ne (by omega), zup_eq (by omega)]; congr 1; omega
    · rw [zcpy_eq (by omega), zup_ne (by omega)]; congr 1; omega
  · rw [zcpy_ne g, zcpy_ne (by omega), zup_ne (by omega)]
theorem cpy_0 {I : ZI} {a b j : Nat} : zcpy I a j b j 0 = I := by
  funext o k
  rw [zcpy_ne (by omega)]
section CP
variable {d n t : Nat} {sh : ZS} {R : ZR}
theorem l_M_copies {Q : ZI → Prop} (hW : Wf sh R) {a0 a1 : Nat} (h0 : sh a0 = (0, 32)) (h1 : sh a1 = (0, 32)) (hne : ¬ a0 = a1) : ∀ (c j : Nat) (I : ZI), j + c = 32 → Q (zcpy I a0 j a1 j c) → XVs d 189 2 [some (.inr a0), some (.inr a1), some (.inl (j : Int))] [] n sh R I Q
  | 0, j, I, h, q => b_M_copies_2 hW h0 h1 (by rw [if_pos (by omega)]; rw [cpy_0] at q; exact q)
  | c + 1, j, I, h, q => b_M_copies_2 hW h0 h1 (by
    rw [if_neg (by omega)]
    refine ⟨by omega, by unfold zr; omega, ?_⟩
    rw [Int.toNat_natCast]
    exact l_M_copies hW h0 h1 hne c (j + 1) _ (by omega) (by rw [cpy_step hne]; exact q))
theorem s_M_copies {Q : ZI → Prop} (hW : Wf sh R) {a0 a1 : Nat} (h0 : sh a0 = (0, 32)) (h1 : sh a1 = (0, 32)) (hne : ¬ a0 = a1) {I : ZI} (q : Q (zcpy I a0 0 a1 0 32)) : XV d 189 [.inr a0, .inr a1] n sh R I Q :=
  b_M_copies_0 hW h0 h1 (l_M_copies hW h0 h1 hne 32 0 I rfl q)
/-- what a copy of letters is -/
def sCop (I J : ZI) (s o : Nat) : Prop := (J o 5 = I s 5 ∧ J o 6 = I s 6 ∧ J o 7 = I s 7 ∧ J o 8 = I s 8) ∧ (∀ k, k < 32 → J (o + 1) k = I (s + 1) k ∧ J (o + 2) k = I (s + 2) k ∧ J (o + 3) k = I (s + 3) k ∧ J (o + 4) k = I (s + 4) k ∧ J (o + 5) k = I (s + 5) k) ∧ ∀ a k, ¬ (a = o ∧ 5 ≤ k ∧ k ≤ 8) → ¬ (o + 1 ≤ a ∧ a ≤ o + 5) → J a k = I a k
/-- what a copy of that which goes can change is -/
def sCopG (I J : ZI) (s o : Nat) : Prop := (J o 6 = I s 6 ∧ J o 7 = I s 7) ∧ (∀ k, k < 32 → J (o + 4) k = I (s + 4) k ∧ J (o + 5) k = I (s + 5) k) ∧ ∀ a k, ¬ (a = o ∧ 6 ≤ k ∧ k ≤ 7) → ¬ (o + 4 ≤ a ∧ a ≤ o + 5) → J a k = I a k
theorem s_S_copyGoesFrom {Q : ZI → Prop} (hW : Wf sh R) {o s : Nat} (hO : St sh R o) (hS : St sh R s) (hd : o + 5 < s ∨ s + 5 < o) {I : ZI} (q : ∀ J, sCopG I J s o → Q J) : XV d 62 [.inr o, .inr s] n sh R I Q := by
  refine b_S_copyGoesFrom_0 hW hO hS (q _ ⟨⟨?_, ?_⟩, fun k hk => ⟨?_, ?_⟩, fun a k h1 h2 => ?_⟩)
  · rw [zup_ne (by omega), zup_eq (by omega), zcpy_ne (by omega), zcpy_ne (by omega)]
  · rw [zup_eq (by omega), zup_ne (by omega), zcpy_ne (by omega), zcpy_ne (by omega)]
  · rw [zup_ne (by omega), zup_ne (by omega), zcpy_ne (by omega), zcpy_to (by omega)]
  · rw [zup_ne (by omega), zup_ne (by omega), zcpy_to (by omega), zcpy_ne (by omega)]
  · rw [zup_ne (by omega), zup_ne (by omega), zcpy_ne (by omega), zcpy_ne (by omega)]
theorem s_S_copyFrom {Q : ZI → Prop} (hW : Wf sh R) {o s : Nat} (hO : St sh R o) (hS : St sh R s) (hd : o + 5 < s ∨ s + 5 < o) {I : ZI} (q : ∀ J, sCop I J s o → Q J) : XV (d + 1) 61 [.inr o, .inr s] n sh R I Q := by
  refine b_S_copyFrom_0 hW hO hS (s_S_copyGoesFrom hW hO hS hd fun J hJ => q J ?_)
  obtain ⟨⟨a1, a2⟩, b, c⟩ := hJ
  refine ⟨⟨?_, ?_, ?_, ?_⟩, fun k hk => ⟨?_, ?_, ?_, ?_, ?_⟩, fun a k h1 h2 => ?_⟩
  · rw [c _ _ (by omega) (by omega), zup_ne (by omega), zup_eq (by omega), zcpy_ne (by omega), zcpy_ne (by omega), zcpy_ne (by omega)]
  · rw [a1, zup_ne (by omega), zup_ne (by omega), zcpy_ne (by omega), zcpy_ne (by omega), zcpy_ne (by omega)]
  · rw [a2, zup_ne (by omega), zup_ne (by omega), zcpy_ne (by omega), zcpy_ne (by omega), zcpy_ne (by omega)]
  · rw [c _ _ (by omega) (by omega), zup_eq (by omega), zup_ne (by omega), zcpy_ne (by omega), zcpy_ne (by omega), zcpy_ne (by omega)]
  · rw [c _ _ (by omega) (by omega), zup_ne (by omega), zup_ne (by omega), zcpy_ne (by omega), zcpy_ne (by omega), zcpy_to (by omega)]
  · rw [c _ _ (by omega) (by omega), zup_ne (by omega), zup_ne (by omega), zcpy_ne (by omega), zcpy_to (by omega), zcpy_ne (by omega)]
  · rw [c _ _ (by omega) (by omega), zup_ne (by omega), zup_ne (by omega), zcpy_to (by omega), zcpy_ne (by omega), zcpy_ne (by omega)]
  · rw [(b k hk).1, zup_ne (by omega), zup_ne (by omega), zcpy_ne (by omega), zcpy_ne (by omega), zcpy_ne (by omega)]
  · rw [(b k hk).2, zup_ne (by omega), zup_ne (by omega), zcpy_ne (by omega), zcpy_ne (by omega), zcpy_ne (by omega)]
  · rw [c _ _ (by omega) (by omega), zup_ne (by omega), zup_ne (by omega), zcpy_ne (by omega), zcpy_ne (by omega), zcpy_ne (by omega)]
end CP
theorem SInv.ag {L m g x : Int} {st we co la od st2 we2 co2 la2 od2 : Nat → Int} (h : SInv L m g x st we co la od) (e : ∀ k, k < 32 → st2 k = st k ∧ we2 k = we k ∧ co2 k = co k ∧ la2 k = la k ∧ od2 k = od k) : SInv L m g x st2 we2 co2 la2 od2 := by
  have m0 := h.m0
  obtain ⟨a, b, c, f, i, l⟩ := h
  refine ⟨a, ?_, fun k hk => ?_, fun k hk => ?_, fun j k hj hk => ?_, fun k hk => ?_⟩
  · rw [b]; congr 1; exact pCount_congr _ fun k hk => by rw [(e k (by omega)).2.2.1]
  · obtain ⟨e1, e2, e3, e4, e5⟩ := e k (by omega)
    rw [e1, e2, e3, e4]; exact c k hk
  · rw [(e k (by omega)).2.2.2.2]; exact f k hk
  · rw [(e k (by omega)).2.2.2.2, (e j (by omega)).2.2.2.2]; exact i j k hj hk
  · have := f k hk
    rw [(e k (by omega)).2.2.2.2, (e (od k).toNat (by omega)).2.2.1]; exact l k hk
theorem SInv.to {L m g x L2 m2 g2 x2 : Int} {st we co la od st2 we2 co2 la2 od2 : Nat → Int} (h : SInv L m g x st we co la od) (h1 : L2 = L) (h2 : m2 = m) (h3 : g2 = g) (h4 : x2 = x) (e : ∀ k, k < 32 → st2 k = st k ∧ we2 k = we k ∧ co2 k = co k ∧ la2 k = la k ∧ od2 k = od k) : SInv L2 m2 g2 x2 st2 we2 co2 la2 od2 := by
  subst h1; subst h2; subst h3; subst h4
  exact h.ag e
section CK
variable {d n t : Nat} {sh : ZS} {R : ZR} {I : ZI}
theorem c_keep (hW : Wf sh R) (h : Rel t I R) : XI (d + 2) 124 [.inr 1] n sh R I (fun v J => XI (d + 1) 243 [.inr 137] n sh R J (fun v2 K => v2 = v ∧ Rel (t + 1) K R)) := by
  refine b_N_keep_0 hW (s_S_copyFrom hW (St_24 hW) (St_18 hW) (by omega) fun J hJ => ?_)
  obtain ⟨⟨a1, a2, a3, a4⟩, b, c⟩ := hJ
  refine b_M_keep_0 hW ?_
  refine s_M_copies hW (sh_138 hW) (sh_180 hW) (by omega) ?_
  refine s_M_copies hW (sh_139 hW) (sh_181 hW) (by omega) ?_
  refine s_M_copies hW (sh_140 hW) (sh_182 hW) (by omega) ?_
  refine s_M_copies hW (sh_141 hW) (sh_183 hW) (by omega) ?_
  refine s_M_copies hW (sh_142 hW) (sh_184 hW) (by omega) ?_
  have hn := h.1
  obtain ⟨⟨n1, n2, n3, n4, n5⟩, n6⟩ := hn
  refine ⟨?_, h.up (by omega) (.inr ?_) (.inl ?_) (.inr ?_) (.inr ?_) (.inr ?_) (.inr ?_)⟩
  · repeat (first | rw [zcpy_ne (by omega)] | rw [zup_ne (by omega)])
    rw [c _ _ (by omega) (by omega), c _ _ (by omega) (by omega)]; exact n2.symm
  · intro a k hk; unfold fNow at hk
    repeat (first | rw [zcpy_ne (by omega)] | rw [zup_ne (by omega)])
    exact c _ _ (by omega) (by omega)
  · refine ⟨fun _ => ⟨?_, ?_, ?_, ?_, fun k hk => ⟨?_, ?_, ?_, ?_, ?_⟩⟩, fun _ => ?_, ?_, ?_⟩
    · repeat (first | rw [zcpy_ne (by omega)] | rw [zup_eq (by omega)] | rw [zup_ne (by omega)])
      rw [a1, c _ _ (by omega) (by omega)]; exact n1
    · repeat (first | rw [zcpy_ne (by omega)] | rw [zup_eq (by omega)] | rw [zup_ne (by omega)])
      rw [a2, c _ _ (by omega) (by omega)]; exact n2
    · repeat (first | rw [zcpy_ne (by omega)] | rw [zup_eq (by omega)] | rw [zup_ne (by omega)])
      rw [a3, c _ _ (by omega) (by omega)]; exact n3
    · repeat (first | rw [zcpy_ne (by omega)] | rw [zup_eq (by omega)] | rw [zup_ne (by omega)])
      rw [a4, c _ _ (by omega) (by omega)]; exact n4
    · repeat (first | rw [zcpy_to (by omega)] | rw [zcpy_ne (by omega)] | rw [zup_ne (by omega)])
      rw [(b k hk).1, c 138 _ (by omega) (by omega)]; exact (n5 k hk).1
    · repeat (first | rw [zcpy_to (by omega)] | rw [zcpy_ne (by omega)] | rw [zup_ne (by omega)])
      rw [(b k hk).2.1, c 139 _ (by omega) (by omega)]; exact (n5 k hk).2.1
    · repeat (first | rw [zcpy_to (by omega)] | rw [zcpy_ne (by omega)] | rw [zup_ne (by omega)])
      rw [(b k hk).2.2.1, c 140 _ (by omega) (by omega)]; exact (n5 k hk).2.2.1
    · repeat (first | rw [zcpy_to (by omega)] | rw [zcpy_ne (by omega)] | rw [zup_ne (by omega)])
      rw [(b k hk).2.2.2.1, c 141 _ (by omega) (by omega)]; exact (n5 k hk).2.2.2.1
    · repeat (first | rw [zcpy_to (by omega)] | rw [zcpy_ne (by omega)] | rw [zup_ne (by omega)])
      rw [(b k hk).2.2.2.2, c 142 _ (by omega) (by omega)]; exact (n5 k hk).2.2.2.2
    · refine n6.to ?_ ?_ ?_ ?_ fun k hk => ⟨?_, ?_, ?_, ?_, ?_⟩
      · repeat (first | rw [zcpy_ne (by omega)] | rw [zup_ne (by omega)])
        exact a1
      · repeat (first | rw [zcpy_ne (by omega)] | rw [zup_ne (by omega)])
        exact a2
      · repeat (first | rw [zcpy_ne (by omega)] | rw [zup_ne (by omega)])
        exact a3
      · repeat (first | rw [zcpy_ne (by omega)] | rw [zup_ne (by omega)])
        exact a4
      · repeat (first | rw [zcpy_ne (by omega)] | rw [zup_ne (by omega)])
        exact (b k hk).1
      · repeat (first | rw [zcpy_ne (by omega)] | rw [zup_ne (by omega)])
        exact (b k hk).2.1
      · repeat (first | rw [zcpy_ne (by omega)] | rw [zup_ne (by omega)])
        exact (b k hk).2.2.1
      · repeat (first | rw [zcpy_ne (by omega)] | rw [zup_ne (by omega)])
        exact (b k hk).2.2.2.1
      · repeat (first | rw [zcpy_ne (by omega)] | rw [zup_ne (by omega)])
        exact (b k hk).2.2.2.2
    · repeat (first | rw [zcpy_ne (by omega)] | rw [zup_eq (by omega)] | rw [zup_ne (by omega)])
    · repeat (first | rw [zcpy_ne (by omega)] | rw [zup_eq (by omega)] | rw [zup_ne (by omega)])
      exact .inr rfl
  · intro a k hk; unfold fEnv at hk
    repeat (first | rw [zcpy_ne (by omega)] | rw [zup_ne (by omega)])
    exact c _ _ (by omega) (by omega)
  · intro a k hk; unfold fTape at hk
    repeat (first | rw [zcpy_ne (by omega)] | rw [zup_ne (by omega)])
    exact c _ _ (by omega) (by omega)
  · intro a k hk; unfold fBlame at hk
    repeat (first | rw [zcpy_ne (by omega)] | rw [zup_ne (by omega)])
    exact c _ _ (by omega) (by omega)
  · intro a k hk; unfold fLaw at hk
    repeat (first | rw [zcpy_ne (by omega)] | rw [zup_ne (by omega)])
    exact c _ _ (by omega) (by omega)
end CK
section CU
variable {d n t : Nat} {sh : ZS} {R : ZR} {I : ZI} {x1 x2 : Int}
theorem c_undo (hW : Wf sh R) (h : Rel t I R) : XI (d + 2) 125 [.inr 1] n sh R I (fun v J => XI (d + 1) 244 [.inr 137] n sh R J (fun v2 K => v2 = v ∧ Rel (t + 1) K R)) := by
  obtain ⟨kA, kB, k7, k8⟩ := h.2.1
  refine b_N_undo_0 hW ?_
  by_cases g : I 1 15 = 0
  · rw [if_pos g]
    refine ⟨k8, b_M_undo_0 hW ?_⟩
    rw [if_neg (by omega)]
    exact ⟨g.symm, h.fr (by omega) fun _ _ _ => rfl⟩
  · have k9 : I 1 15 = 1 := k8.resolve_left g
    obtain ⟨k1, k2, k3, k4, k5⟩ := kA k9
    have k6 := kB k9
    rw [if_neg g]
    refine s_S_copyFrom hW (St_18 hW) (St_24 hW) (by omega) fun J hJ => ?_
    obtain ⟨⟨a1, a2, a3, a4⟩, b, c⟩ := hJ
    have c15 : J 1 15 = I 1 15 := c _ _ (by omega) (by omega)
    refine ⟨by rw [c15]; exact k8, b_M_undo_0 hW ?_⟩
    rw [if_pos (by rw [c 137 67 (by omega) (by omega)]; omega)]
    refine s_M_copies hW (sh_180 hW) (sh_138 hW) (by omega) ?_
    refine s_M_copies hW (sh_181 hW) (sh_139 hW) (by omega) ?_
    refine s_M_copies hW (sh_182 hW) (sh_140 hW) (by omega) ?_
    refine s_M_copies hW (sh_183 hW) (sh_141 hW) (by omega) ?_
    refine s_M_copies hW (sh_184 hW) (sh_142 hW) (by omega) ?_
    refine ⟨by rw [c15]; omega, h.up (by omega) (.inl ?_) (.inr ?_) (.inr ?_) (.inr ?_) (.inr ?_) (.inr ?_)⟩
    · refine ⟨⟨?_, ?_, ?_, ?_, fun k hk => ⟨?_, ?_, ?_, ?_, ?_⟩⟩, k6.to ?_ ?_ ?_ ?_ fun k hk => ⟨?_, ?_, ?_, ?_, ?_⟩⟩
      · repeat (first | rw [zcpy_ne (by omega)] | rw [zup_eq (by omega)] | rw [zup_ne (by omega)])
        rw [a1, c 137 _ (by omega) (by omega)]; exact k1
      · repeat (first | rw [zcpy_ne (by omega)] | rw [zup_eq (by omega)] | rw [zup_ne (by omega)])
        rw [a2, c 137 _ (by omega) (by omega)]; exact k2
      · repeat (first | rw [zcpy_ne (by omega)] | rw [zup_eq (by omega)] | rw [zup_ne (by omega)])
        rw [a3, c 137 _ (by omega) (by omega)]; exact k3
      · repeat (first | rw [zcpy_ne (by omega)] | rw [zup_eq (by omega)] | rw [zup_ne (by omega)])
        rw [a4, c 137 _ (by omega) (by omega)]; exact k4
      · repeat (first | rw [zcpy_to (by omega)] | rw [zcpy_ne (by omega)] | rw [zup_ne (by omega)])
        rw [(b k hk).1, c 180 _ (by omega) (by omega)]; exact (k5 k hk).1
      · repeat (first | rw [zcpy_to (by omega)] | rw [zcpy_ne (by omega)] | rw [zup_ne (by omega)])
        rw [(b k hk).2.1, c 181 _ (by omega) (by omega)]; exact (k5 k hk).2.1
      · repeat (first | rw [zcpy_to (by omega)] | rw [zcpy_ne (by omega)] | rw [zup_ne (by omega)])
        rw [(b k hk).2.2.1, c 182 _ (by omega) (by omega)]; exact (k5 k hk).2.2.1
      · repeat (first | rw [zcpy_to (by omega)] | rw [zcpy_ne (by omega)] | rw [zup_ne (by omega)])
        rw [(b k hk).2.2.2.1, c 183 _ (by omega) (by omega)]; exact (k5 k hk).2.2.2.1
      · repeat (first | rw [zcpy_to (by omega)] | rw [zcpy_ne (by omega)] | rw [zup_ne (by omega)])
        rw [(b k hk).2.2.2.2, c 184 _ (by omega) (by omega)]; exact (k5 k hk).2.2.2.2
      · repeat (first | rw [zcpy_ne (by omega)] | rw [zup_ne (by omega)])
        exact a1
      · repeat (first | rw [zcpy_ne (by omega)] | rw [zup_ne (by omega)])
        exact a2
      · repeat (first | rw [zcpy_ne (by omega)] | rw [zup_ne (by omega)])
        exact a3
      · repeat (first | rw [zcpy_ne (by omega)] | rw [zup_ne (by omega)])
        exact a4
      · repeat (first | rw [zcpy_ne (by omega)] | rw [zup_ne (by omega)])
        exact (b k hk).1
      · repeat (first | rw [zcpy_ne (by omega)] | rw [zup_ne (by omega)])
        exact (b k hk).2.1
      · repeat (first | rw [zcpy_ne (by omega)] | rw [zup_ne (by omega)])
        exact (b k hk).2.2.1
      · repeat (first | rw [zcpy_ne (by omega)] | rw [zup_ne (by omega)])
        exact (b k hk).2.2.2.1
      · repeat (first | rw [zcpy_ne (by omega)] | rw [zup_ne (by omega)])
        exact (b k hk).2.2.2.2
    · intro a k hk; unfold fKept at hk
      repeat (first | rw [zcpy_ne (by omega)] | rw [zup_ne (by omega)])
      exact c _ _ (by omega) (by omega)
    · intro a k hk; unfold fEnv at hk
      repeat (first | rw [zcpy_ne (by omega)] | rw [zup_ne (by omega)])
      exact c _ _ (by omega) (by omega)
    · intro a k hk; unfold fTape at hk
      repeat (first | rw [zcpy_ne (by omega)] | rw [zup_ne (by omega)])
      exact c _ _ (by omega) (by omega)
    · intro a k hk; unfold fBlame at hk
      repeat (first | rw [zcpy_ne (by omega)] | rw [zup_ne (by omega)])
      exact c _ _ (by omega) (by omega)
    · intro a k hk; unfold fLaw at hk
      repeat (first | rw [zcpy_ne (by omega)] | rw [zup_ne (by omega)])
      exact c _ _ (by omega) (by omega)
end CU
