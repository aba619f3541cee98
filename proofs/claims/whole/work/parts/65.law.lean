-- LAW, the call
theorem zur_eq {R : ZR} {o k : Nat} {v : Nat} {a b : Nat} (h : a = o ∧ b = k) : zup R o k v a b = v := if_pos h
theorem zur_ne {R : ZR} {o k : Nat} {v : Nat} {a b : Nat} (h : ¬ (a = o ∧ b = k)) : zup R o k v a b = R a b := if_neg h
section LQ
variable {d n t : Nat} {sh : ZS} {R : ZR} {x1 : Int}
theorem rTop_tot {T : Nat → Int} {N f : Nat} (hf : 8 * N + 8 < f) (hN : N ≤ 1000) : ¬ rTop T N f = none := by
  unfold rTop
  split
  · rename_i e; exact absurd e (rCl_tot hf)
  · intro c; cases c
  · rename_i y e
    obtain ⟨a1, _⟩ := rCl_good hN (Nat.le_refl 0) (Nat.zero_le N) e
    exact rLs_tot hf hN 14 _ _ y.1 rfl (by show 1 ≤ 14; omega) (by omega) a1.2.1
theorem rTop_neg {T : Nat → Int} {N f : Nat} {a : Int} (h : rTop T N f = some (.inl a)) : a < 0 := by
  unfold rTop at h
  split at h
  · cases h
  · rename_i e; cases h; exact rCl_neg e
  · exact rLs_neg _ _ _ _ a h
theorem rTop_ok {T : Nat → Int} {N f : Nat} {C : List Int} {D : List CL} (hN : N ≤ 1000) (h : rTop T N f = some (.inr (C, D))) : okD C D ∧ C.length ≤ N ∧ 1 ≤ D.length ∧ D.length ≤ 14 := by
  unfold rTop at h
  split at h
  · cases h
  · cases h
  · rename_i y e
    obtain ⟨a1, _⟩ := rCl_good hN (Nat.le_refl 0) (Nat.zero_le N) e
    have o : okD ([] ++ y.2.1) ([] ++ [(y.2.2.1, ([] : List Int).length, ([] : List Int).length + y.2.2.2, ([] : List Int).length + y.2.1.length)]) := okD.add (fun x hx => by cases hx) hN (Nat.le_refl 0) (Nat.zero_le N) e
    simp only [List.nil_append, List.length_nil, Nat.zero_add] at o
    exact rLs_ok hN 14 _ _ y.1 C D (by show 1 ≤ 14; omega) (by show 1 ≤ 1; omega) (by omega) a1.2.1 o h
theorem c_law {I : ZI} (hW : Wf sh R) (h : Rel t I R) : XR (d + 111) 100 [.inr 1, .inl x1] n sh R I (fun v J R2 => XI (d + 8) 174 [.inr 137, .inl x1] n sh R2 J (fun v2 K => v2 = v ∧ Rel (t + 1) K R2)) := by
  obtain ⟨lw, md, hlm, hR1, hR2, hLw⟩ := h.2.2.2.2.2.1
  have hL : Lw sh R lw := by
    rcases hlm with ⟨a, _⟩ | ⟨a, _⟩ <;> rw [a]
    · exact Lw_5 hW
    · exact Lw_45 hW
  have hM : Lw sh R md := by
    rcases hlm with ⟨_, a⟩ | ⟨_, a⟩ <;> rw [a]
    · exact Lw_45 hW
    · exact Lw_5 hW
  have ht := h.2.2.2.1
  have sm : Rel (t + 1) I R := h.fr (by omega) fun _ _ _ => rfl
  refine b_N_law_0 (d := d + 100) hW (by rw [hR1]; exact hL) (by rw [hR2]; exact hM) ?_
  by_cases g1 : x1 < 1
  · rw [if_pos g1]; refine b_M_law_0 hW ?_; rw [if_pos g1]; exact ⟨rfl, sm⟩
  rw [if_neg g1]
  by_cases g2 : 200 < x1
  · rw [if_pos g2]; refine b_M_law_0 hW ?_; rw [if_neg g1, if_pos g2]; exact ⟨rfl, sm⟩
  rw [if_neg g2]
  by_cases g3 : x1 ≤ I 2 1
  · rw [if_pos g3]
    obtain ⟨N, rfl⟩ : ∃ N : Nat, x1 = N := ⟨x1.toNat, by omega⟩
    obtain ⟨f, hf⟩ : ∃ f, 8 * N + 8 < f := ⟨8 * N + 9, by omega⟩
    have hT : ∀ j, j < N → 0 ≤ I 3 j ∧ I 3 j < 256 := fun j hj => (ht.2 j (by omega)).2
    cases hr : rTop (I 3) N f with
    | none => exact absurd hr (rTop_tot hf (by omega))
    | some r =>
    have md2 : md = 5 ∨ md = 45 := by omega
    -- the model's side begins with the class's cells alone changed
    have mS : ∀ (J : ZI), (∀ a b, ¬ fC md a b → ¬ (a = 4 ∧ b = 2) → ¬ (a = 2 ∧ b = 1) → J a b = I a b) → (∀ j, j < N → J 144 j = zi2b (I 3 j)) ∧ (N : Int) ≤ J 137 13 := fun J hJ => ⟨fun j hj => by rw [hJ 144 j (by unfold fC fL; omega) (by omega) (by omega)]; exact (ht.2 j (by omega)).1, by rw [hJ 137 13 (by unfold fC fL; omega) (by omega) (by omega), ← ht.1.1]; exact g3⟩
    have n1 : ∀ {J K : ZI}, (∀ a b, ¬ fC md a b → ¬ (a = 4 ∧ b = 2) → ¬ (a = 2 ∧ b = 1) → J a b = I a b) → (∀ a b, ¬ fD a b → ¬ (a = 137 ∧ (b = 13 ∨ b = 22)) → ¬ (151 ≤ a ∧ a ≤ 155) → K a b = J a b) → (rNow K ∧ rKept K ∧ rEnv K ∧ rBlame (t + 1) K) := fun {J K} hJ hK => by
      have f : ∀ a b, ¬ (a = 2 ∧ b = 1) → ¬ (4 ≤ a ∧ a ≤ 11) → ¬ (45 ≤ a ∧ a ≤ 51) → ¬ (a = 137 ∧ (b = 13 ∨ 14 ≤ b ∧ b ≤ 22)) → ¬ (145 ≤ a ∧ a ≤ 155) → K a b = I a b := fun a b h1 h2 h3 h4 h5 => by
        rw [hK a b (by unfold fD fR; omega) (by omega) (by omega), hJ a b (by unfold fC fL; omega) (by omega) h1]
      refine ⟨h.1.fr fun a b hab => ?_, h.2.1.fr fun a b hab => ?_, h.2.2.1.fr fun a b hab => ?_, (h.2.2.2.2.1.fr fun a b hab => ?_).le (by omega)⟩
      · unfold fNow at hab; exact f a b (by omega) (by omega) (by omega) (by omega) (by omega)
      · unfold fKept at hab; exact f a b (by omega) (by omega) (by omega) (by omega) (by omega)
      · unfold fEnv at hab; exact f a b (by omega) (by omega) (by omega) (by omega) (by omega)
      · unfold fBlame at hab; exact f a b (by omega) (by omega) (by omega) (by omega) (by omega)
    have tp : ∀ {J K : ZI}, (∀ a b, ¬ fC md a b → ¬ (a = 4 ∧ b = 2) → ¬ (a = 2 ∧ b = 1) → J a b = I a b) → J 2 1 = 0 → K 137 13 = 0 → (∀ a b, ¬ fD a b → ¬ (a = 137 ∧ (b = 13 ∨ b = 22)) → ¬ (151 ≤ a ∧ a ≤ 155) → K a b = J a b) → rTape K := fun {J K} hJ j2 k13 hK => by
      refine ⟨⟨?_, ?_, ?_⟩, fun k hk => ?_⟩
      · rw [hK 2 1 (by unfold fD fR; omega) (by omega) (by omega), j2, k13]
      · rw [hK 2 1 (by unfold fD fR; omega) (by omega) (by omega), j2]; decide
      · rw [hK 2 1 (by unfold fD fR; omega) (by omega) (by omega), j2]; decide
      · rw [hK 144 k (by unfold fD fR; omega) (by omega) (by omega), hJ 144 k (by unfold fC fL; omega) (by omega) (by omega), hK 3 k (by unfold fD fR; omega) (by omega) (by omega), hJ 3 k (by unfold fC fL; omega) (by omega) (by omega)]
        exact ht.2 k hk
    refine s_L_read (md := md) (T := I 3) (N := N) (f := f) hW md2 hR2 hM (by omega) hT (fun _ _ => rfl) (by omega) hr (fun a e J j1 => ?_) (fun C2 D2 e J p2 j0 j1 => ?_)
    · subst e
      rw [if_pos (by have := rTop_neg hr; omega)]
      have hJ : ∀ a b, ¬ fC md a b → ¬ (a = 4 ∧ b = 2) → ¬ (a = 2 ∧ b = 1) → (zup J 2 1 0) a b = I a b := fun a b h1 h2 h3 => by rw [zup_ne h3, j1 a b h1 h2]
      obtain ⟨m1, m2⟩ := mS _ hJ
      refine s_M_law (T := I 3) (N := N) (f := f) hW (by omega) hT m1 m2 hr fun K k1 k2 => ⟨rfl, ?_⟩
      have hK : ∀ a b, ¬ fD a b → ¬ (a = 137 ∧ (b = 13 ∨ b = 22)) → ¬ (151 ≤ a ∧ a ≤ 155) → K a b = (zup J 2 1 0) a b := fun a b h1 h2 h3 => k2 a b h1 (by omega)
      obtain ⟨r1, r2, r3, r4⟩ := n1 hJ hK
      refine ⟨r1, r2, r3, tp hJ (zup_eq ⟨rfl, rfl⟩) k1 hK, r4, ⟨lw, md, hlm, hR1, hR2, hLw.fr fun a b hab => ?_⟩, h.2.2.2.2.2.2⟩
      unfold fLw at hab
      rw [k2 a b (by unfold fD fR; omega) (by omega), hJ a b (by unfold fC fL; omega) (by omega) (by omega)]
    · subst e
      obtain ⟨ok, c2, d1, d14⟩ := rTop_ok (by omega) hr
      rw [if_neg (by omega)]
      have hJ : ∀ a b, ¬ fC md a b → ¬ (a = 4 ∧ b = 2) → ¬ (a = 2 ∧ b = 1) → (zup J 2 1 0) a b = I a b := fun a b h1 h2 h3 => by rw [zup_ne h3, j1 a b h1 h2]
      obtain ⟨m1, m2⟩ := mS _ hJ
      have hW2 : Wf sh (zup (zup R 4 1 (R 42 4)) 42 4 (R 4 1)) := Wf_up (Wf_up hW (by decide)) (by decide)
      refine s_M_law (T := I 3) (N := N) (f := f) hW2 (by omega) hT m1 m2 hr fun K k1 k2 k3 k4 k5 => ⟨rfl, ?_⟩
      have k2 : K 137 22 = (D2.length : Int) := k2
      have k3 : pLs K 151 C2 := k3
      have k4 : dR K 152 153 154 155 D2 := k4
      obtain ⟨r1, r2, r3, r4⟩ := n1 hJ k5
      have fm : ∀ a b, (a = md ∧ 7 ≤ b ∧ b ≤ 9) ∨ md + 1 ≤ a ∧ a ≤ md + 6 → K a b = J a b := fun a b hab => by rw [k5 a b (by unfold fD fR; omega) (by omega) (by omega), zup_ne (by omega)]
      obtain ⟨⟨⟨s1, s2, s3, s4, s5⟩, s6, s7⟩, s8, s9⟩ := j0
      have e7 : K md 7 = (D2.length : Int) := by rw [fm md 7 (by omega)]; exact s8
      have e8 : K md 8 = (C2.length : Int) := by rw [fm md 8 (by omega)]; exact s3
      refine ⟨r1, r2, r3, tp hJ (zup_eq ⟨rfl, rfl⟩) k1 k5, r4, ⟨md, lw, by omega, ?_, ?_, ⟨⟨by rw [e7, k2], by omega, by omega, by omega, by omega, ?_⟩, fun p hp => ?_, fun c hc => ?_⟩⟩, ?_⟩
      · rw [zur_eq ⟨rfl, rfl⟩]; exact hR2
      · rw [zur_ne (by omega), zur_eq ⟨rfl, rfl⟩]; exact hR1
      · rw [fm md 9 (by omega)]; exact ⟨s4, s5⟩
      · rw [e8] at hp
        have z := s7 p (by omega)
        unfold cOk at z
        unfold cAg
        rw [k3 p (by omega), fm (md + 5) p (by omega), fm (md + 6) p (by omega), fm md 9 (by omega)]
        exact z
      · rw [e7] at hc
        have y := s9 c (by omega)
        have w := k4 c (by omega)
        obtain ⟨o1, o2, o3⟩ := ok _ (cd_mem (l := D2) (i := c) (by omega))
        have ag : sAg (K 151) 0 C2 := fun j hj => by rw [Nat.zero_add]; exact k3 j hj
        have o4 := o3 (K 151) ag
        generalize D2.getD c (0, 0, 0, 0) = x at y w o1 o2 o4
        refine ⟨⟨by rw [fm _ _ (by omega), y.1, w.1], by rw [fm _ _ (by omega), y.2.1, w.2.1], by rw [fm _ _ (by omega), y.2.2.1, w.2.2.1], by rw [fm _ _ (by omega), y.2.2.2, w.2.2.2]⟩, by rw [w.1]; exact o1, by rw [w.2.1, w.2.2.1, w.2.2.2, e8]; omega, fun hc => ?_, ?_⟩
        · rw [w.1] at hc
          rw [w.2.1, w.2.2.1, Int.toNat_natCast, Int.toNat_natCast]
          exact (o4.1 hc).is
        · rw [w.2.2.1, w.2.2.2, Int.toNat_natCast, Int.toNat_natCast]
          exact o4.2.is
      · unfold rTab
        rw [zur_ne (by omega), zur_ne (by omega), zur_ne (by omega), zur_ne (by omega)]
        exact h.2.2.2.2.2.2
  · rw [if_neg g3]; refine b_M_law_0 hW ?_; rw [if_neg g1, if_neg g2, if_neg (by rw [← ht.1.1]; exact g3)]; exact ⟨rfl, sm⟩
end LQ
