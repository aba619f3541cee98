-- THE PLAN is done
/-- the number of a rank among those of the plan's heap -/
def kIx (B : ZI) (H0 : List Int) (r : Int) : Nat := (pFind (fun a => decide (kK B H0 a = r)) 0 (kC B H0)).toNat
def kInto (B : ZI) (H0 : List Int) (G : Nat) (H : List Int) (k : Nat) (p : Nat) : Int := wHol (B 137 3) (B 137 4) G (wW (B 137 3) (B 137 4) (kF B H0) (kG B H0) G (kIx B H0 (rK B H p))) k
def kDo (B : ZI) (H0 : List Int) (G : Nat) : Nat → Nat → List Int → List Int
  | 0, _, H => H
  | c + 1, k, H => kDo B H0 G c (k + 1) (gNext B H (kInto B H0 G H k))
section PD
variable {d n t : Nat} {sh : ZS} {R : ZR} {B : ZI} {x1 x2 x3 x4 x5 : Int} {lw S o G : Nat} {H H0 : List Int} {g : Int} {LA into : Nat → Int}
theorem k_ixp (hb : bOk B S) (hh0 : hIn B H0) (hp : H.Perm H0) {p : Nat} (hl : p < H.length) : kIx B H0 (rK B H p) < kC B H0 ∧ kK B H0 (kIx B H0 (rK B H p)) = rK B H p := by
  obtain ⟨p2, h1, h2⟩ := mem_gd (hp.mem_iff.mp (gd_mem hl))
  have e : rK B H0 p2 = rK B H p := by unfold rK; rw [h2]
  obtain ⟨i, i1, i2⟩ := k_ix hb hh0 h1
  rw [e] at i2
  unfold kIx
  rcases pFind_range (p := fun a => decide (kK B H0 a = rK B H p)) (kC B H0) 0 with ⟨_, a⟩ | ⟨j, a, a1, a2, a3, _⟩
  · have := a i (by omega) (by omega)
    simp [i2] at this
  · rw [a, Int.toNat_natCast]
    exact ⟨by omega, of_decide_eq_true a3⟩
theorem hIn.perm (hh : hIn B H0) (hp : H.Perm H0) : hIn B H := by
  refine ⟨by rw [hp.length_eq]; exact hh.1, fun p hl => ?_⟩
  obtain ⟨p2, h1, h2⟩ := mem_gd (hp.mem_iff.mp (gd_mem hl))
  rw [← h2]; exact hh.2 p2 h1
theorem kInto_ok (hb : bOk B S) (hh0 : hIn B H0) (hp : H.Perm H0) (hG : kC B H0 = 0 ∨ wW (B 137 3) (B 137 4) (kF B H0) (kG B H0) G (kC B H0 - 1) < wE (B 137 3) G) (k : Nat) : iOk B H (kInto B H0 G H k) := fun p hl => by
  have h9 := hb.2.1
  have ix := k_ixp hb hh0 hp hl
  have wr := k_way (B := B) (H := H0) (G := G) ix.1 hG
  have hr := wHol_range (pp := B 137 4) h9.1 G _ k wr
  unfold kInto
  omega
theorem s_K_give {I : ZI} {Q : ZI → Prop} (hW : Wf sh R) (hb : bOk B S) (hh : hIn B H) (hi : iOk B H into) (h15 : I 15 0 = B 137 3 ∧ I 15 1 = B 137 4) (hH : gSt B I 18 H g LA) (hI : ∀ k, k < H.length → I 44 k = into k) (q : ∀ J : ZI, gSt B J 18 (gNext B H into) g LA → (∀ a b, ¬ a = 16 → ¬ a = 17 → ¬ (a = 23 ∧ b < H.length) → J a b = I a b) → Q J) : XV (d + 1) 42 [.inr 15, .inr 18, .inr 44] n sh R I Q := by
  have hl9 := hh.1
  have hs9 := hb.2.1
  have hln := gNext_len hi
  refine s_K_giveBack (m := H.length) (hs := (B 137 3).toNat) (od := hOd H) (ix := gIx into) (w := B 137 4) hW (St_18 hW) (.inl rfl) ⟨⟨hH.1.2.1, by omega, by omega, ?_⟩, fun p hp => ⟨?_, ?_, ?_⟩⟩ h15.2 fun K k1 k2 => q K ⟨⟨?_, ?_, ?_⟩, fun p hp => ?_, fun k hk => ?_⟩ fun a b h1 h2 h3 => k2 a b h1 h2 h3
  · rw [h15.1]; omega
  · rw [hI p hp]; have := hi p hp; unfold gIx; omega
  · have := hi p hp; unfold gIx; omega
  · exact hH.2.1 p hp
  · rw [k2 _ _ (by omega) (by omega) (by omega)]; exact hH.1.1
  · rw [k2 _ _ (by omega) (by omega) (by omega), hln]; exact hH.1.2.1
  · rw [k2 _ _ (by omega) (by omega) (by omega)]; exact hH.1.2.2
  · exact k1 p hp (by omega)
  · rw [k2 _ _ (by omega) (by omega) (by omega), k2 _ _ (by omega) (by omega) (by omega), k2 _ _ (by omega) (by omega) (by omega), k2 _ _ (by omega) (by omega) (by omega)]
    exact hH.2.2 k hk
theorem s_M_give {I : ZI} {Q : ZI → Prop} (hW : Wf sh R) (hb : bOk B S) (hh : hIn B H) (hi : iOk B H into) (h15 : I 137 3 = B 137 3 ∧ I 137 4 = B 137 4) (hH : mSt I H g LA) (hI : ∀ k, k < H.length → I 158 k = into k) (q : ∀ J : ZI, mSt J (gNext B H into) g LA → (∀ a b, ¬ (a = 142 ∧ b < H.length) → ¬ a = 159 → J a b = I a b) → Q J) : XV (d + 1) 183 [.inr 137] n sh R I Q := by
  have hl9 := hh.1
  have hs9 := hb.2.1
  have hln := gNext_len hi
  refine s_M_givesBack (m := H.length) (hs := (B 137 3).toNat) (od := hOd H) (ix := gIx into) (w := B 137 4) hW ⟨⟨hH.1.1, by omega, by omega, ?_, h15.2⟩, fun p hp => ⟨?_, ?_, ?_⟩⟩ fun K k1 k2 => q K ⟨⟨?_, ?_⟩, fun p hp => k1 p hp, fun k hk => ?_⟩ fun a b h1 h2 => k2 a b h1 h2
  · rw [h15.1]; omega
  · rw [hI p hp]; have := hi p hp; unfold gIx; omega
  · have := hi p hp; unfold gIx; omega
  · exact hH.2.1 p hp
  · rw [k2 _ _ (by omega) (by omega), hln]; exact hH.1.1
  · rw [k2 _ _ (by omega) (by omega)]; exact hH.1.2
  · rw [k2 _ _ (by omega) (by omega)]; exact hH.2.2 k hk
/-- the class's cells that stand while the plan is done -/
def kSt (B I : ZI) (H0 : List Int) (G : Nat) : Prop := I 59 3 = (G : Int) ∧ ∀ j, j < kC B H0 → I 60 (kK B H0 j).toNat = wW (B 137 3) (B 137 4) (kF B H0) (kG B H0) G j
theorem l_N_pd14 {Q : Int → ZI → Prop} {k : Nat} (hW : Wf sh R) (hl : lw = 5 ∨ lw = 45) (hb : bOk B S) (hh0 : hIn B H0) (hp : H.Perm H0) (hG : kC B H0 = 0 ∨ wW (B 137 3) (B 137 4) (kF B H0) (kG B H0) G (kC B H0 - 1) < wE (B 137 3) G) (hg : G ≤ 5) (hk : k < G) : ∀ (c p : Nat) (I : ZI), p + c = H.length → gEnv B I lw S → gSt B I 18 H g LA → kSt B I H0 G → (∀ j, j < p → I 44 j = kInto B H0 G H k j) → (∀ J : ZI, gSt B J 18 (gNext B H (kInto B H0 G H k)) g LA → (∀ a b, ¬ a = 16 → ¬ a = 17 → ¬ (a = 23 ∧ b < H.length) → ¬ a = 44 → J a b = I a b) → ∀ u, XIs (d + 6) 111 7 [some (.inr 1), some (.inl (G : Int)), some (.inl ((k + 1 : Nat) : Int)), u] [] n sh R J Q) → XIs (d + 6) 111 14 [some (.inr 1), some (.inl (G : Int)), some (.inl (k : Int)), some (.inl (p : Int))] [] n sh R I Q
  | 0, p, I, h, hE, hH, hS, h44, q => b_N_planDone_14 hW (by
    have hh := hh0.perm hp
    rw [hH.1.2.1, if_pos (by omega)]
    refine s_K_give hW hb hh (kInto_ok hb hh0 hp hG k) hE.1 hH (fun j hj => h44 j (by omega)) fun J j1 j2 => ⟨by unfold zr; omega, ?_⟩
    rw [show (k : Int) + 1 = ((k + 1 : Nat) : Int) by omega]
    exact q J j1 (fun a b h1 h2 h3 _ => j2 a b h1 h2 h3) _)
  | c + 1, p, I, h, hE, hH, hS, h44, q => b_N_planDone_14 hW (by
    have hh := hh0.perm hp
    have h9 := hb.2.1
    have l9 := hh.1
    have rr := rK_range hb hh (p := p) (by omega)
    have ix := k_ixp hb hh0 hp (p := p) (by omega)
    have wr := k_way (B := B) (H := H0) (G := G) ix.1 hG
    have e1 : I 23 p = H.getD p 0 := hH.2.1 p (by omega)
    have e2 : I 19 (H.getD p 0).toNat = B 138 (H.getD p 0).toNat := (hH.2.2 _ (by omega)).1
    have e3 : I 13 (B 138 (H.getD p 0).toNat).toNat = rK B H p := hE.2.1 _ (by omega)
    have f60 := hS.2 _ ix.1
    rw [ix.2] at f60
    rw [hH.1.2.1, if_neg (by omega), Int.toNat_natCast, e1, e2, e3]
    refine ⟨by omega, by omega, by omega, b_P_holeFor_0 hW ⟨by omega, ?_⟩⟩
    rw [f60]
    refine s_P_holeOn (hs := B 137 3) (pp := B 137 4) (g := G) hW (by omega) hE.1.1 hE.1.2 (by omega) hS.1 hk wr ?_
    refine ⟨by unfold zr; omega, ?_⟩
    rw [show (p : Int) + 1 = ((p + 1 : Nat) : Int) by omega]
    refine l_N_pd14 hW hl hb hh0 hp hG hg hk c (p + 1) _ (by omega) (hE.fr hl fun a b hab => zup_ne (by omega)) (hH.fr fun a b hab => zup_ne (by omega)) ⟨by rw [zup_ne (by omega)]; exact hS.1, fun j hj => by rw [zup_ne (by omega)]; exact hS.2 j hj⟩ (fun j hj => ?_) fun J j1 j2 u => q J j1 (fun a b g1 g2 g3 g4 => by rw [j2 a b g1 g2 g3 g4, zup_ne (by omega)]) u
    by_cases e : j = p
    · subst e; rw [zup_eq ⟨rfl, rfl⟩]; rfl
    · rw [zup_ne (by omega)]; exact h44 j (by omega))
theorem l_N_pd7 {Q : Int → ZI → Prop} (hW : Wf sh R) (hl : lw = 5 ∨ lw = 45) (hb : bOk B S) (hh0 : hIn B H0) (hG : kC B H0 = 0 ∨ wW (B 137 3) (B 137 4) (kF B H0) (kG B H0) G (kC B H0 - 1) < wE (B 137 3) G) (hg : G ≤ 5) : ∀ (c k : Nat) (H : List Int) (I : ZI) (u : Option AV), k + c = G → H.Perm H0 → gEnv B I lw S → gSt B I 18 H g LA → kSt B I H0 G → (∀ J : ZI, gSt B J 18 (kDo B H0 G c k H) g LA → (∀ a b, ¬ a = 16 → ¬ a = 17 → ¬ (a = 23 ∧ b < H.length) → ¬ a = 44 → J a b = I a b) → Q (G : Int) J) → XIs (d + 6) 111 7 [some (.inr 1), some (.inl (G : Int)), some (.inl (k : Int)), u] [] n sh R I Q
  | 0, k, H, I, u, h, hp, hE, hH, hS, q => b_N_planDone_7 hW (by
    rw [if_pos (by omega)]
    exact q I hH fun _ _ _ _ _ _ => rfl)
  | c + 1, k, H, I, u, h, hp, hE, hH, hS, q => b_N_planDone_7 hW (by
    have hi := kInto_ok (G := G) hb hh0 hp hG k
    have hln := gNext_len hi
    rw [if_neg (by omega)]
    refine l_N_pd14 (k := k) hW hl hb hh0 hp hG hg (by omega) H.length 0 I (by omega) hE hH hS (fun j hj => absurd hj (by omega)) fun J j1 j2 u => ?_
    refine l_N_pd7 hW hl hb hh0 hG hg c (k + 1) _ J u (by omega) ((gNext_perm hi).trans hp) (hE.fr hl fun a b hab => j2 a b (by omega) (by omega) (by omega) (by omega)) j1 ⟨by rw [j2 _ _ (by omega) (by omega) (by omega) (by omega)]; exact hS.1, fun j hj => by rw [j2 _ _ (by omega) (by omega) (by omega) (by omega)]; exact hS.2 j hj⟩ fun M m1 m2 => q M m1 fun a b h1 h2 h3 h4 => by rw [m2 a b h1 h2 (by omega) h4, j2 a b h1 h2 h3 h4])
theorem l_M_pd27 {Q : Int → ZI → Prop} {k : Nat} (hW : Wf sh R) (hb : bOk B S) (hh0 : hIn B H0) (hp : H.Perm H0) (hG : kC B H0 = 0 ∨ wW (B 137 3) (B 137 4) (kF B H0) (kG B H0) G (kC B H0 - 1) < wE (B 137 3) G) (hg : G ≤ 5) (hk : k < G) : ∀ (c p : Nat) (I : ZI), p + c = H.length → mEnv B I → mSt I H g LA → qM I (kC B H0) (kK B H0) (kF B H0) (kG B H0) → wP I (B 137 3) (B 137 4) G (kF B H0) (kG B H0) (kC B H0) → (∀ j, j < p → I 158 j = kInto B H0 G H k j) → (∀ J : ZI, mSt J (gNext B H (kInto B H0 G H k)) g LA → (∀ a b, ¬ (a = 142 ∧ b < H.length) → ¬ a = 159 → ¬ a = 158 → J a b = I a b) → ∀ u, XIs (d + 4) 209 17 [some (.inr 137), some (.inl ((k + 1 : Nat) : Int)), u] [] n sh R J Q) → XIs (d + 4) 209 27 [some (.inr 137), some (.inl (k : Int)), some (.inl (p : Int))] [] n sh R I Q
  | 0, p, I, h, hE, hH, hM, hP, h44, q => b_M_planDone_27 hW (by
    have hh := hh0.perm hp
    rw [hH.1.1, if_pos (by omega)]
    refine s_M_give hW hb hh (kInto_ok hb hh0 hp hG k) hE.1.2 hH (fun j hj => h44 j (by omega)) fun J j1 j2 => ⟨by unfold zr; omega, ?_⟩
    rw [show (k : Int) + 1 = ((k + 1 : Nat) : Int) by omega]
    exact q J j1 (fun a b h1 h2 _ => j2 a b h1 h2) _)
  | c + 1, p, I, h, hE, hH, hM, hP, h44, q => b_M_planDone_27 hW (by
    have hh := hh0.perm hp
    have l9 := hh.1
    have rr := rK_range hb hh (p := p) (by omega)
    have ix := k_ixp hb hh0 hp (p := p) (by omega)
    have c9 := (k_ok (B := B) (H := H0)).1
    have e1 : I 142 p = H.getD p 0 := hH.2.1 p (by omega)
    have e2 : I 138 = B 138 := hE.2.1.1
    have e3 : I 143 = B 143 := hE.2.1.2.2.2
    rw [hH.1.1, if_neg (by omega), Int.toNat_natCast, e1]
    refine ⟨by omega, ?_⟩
    refine b_M_rankNumber_0 hW (l_M_rankNumber (B := B) (H := H0) (i := kIx B H0 (rK B H p)) hW hM ix.1 ix.2 (by omega) (by rw [e2]; omega) (by rw [e2, e3]; rfl) ?_ (kIx B H0 (rK B H p)) 0 (by omega))
    have z := hP _ ix.1 k hk
    have e5 : (5 * ((kIx B H0 (rK B H p) : Nat) : Int) + (k : Int)).toNat = 5 * kIx B H0 (rK B H p) + k := by omega
    rw [e5, z]
    refine ⟨by unfold zr; omega, by unfold zr; omega, by omega, by unfold zr; omega, ?_⟩
    rw [show (p : Int) + 1 = ((p + 1 : Nat) : Int) by omega]
    refine l_M_pd27 hW hb hh0 hp hG hg hk c (p + 1) _ (by omega) (hE.fr fun a b hab => zup_ne (by omega)) (hH.fr fun a b hab => zup_ne (by omega)) ⟨by rw [zup_ne (by omega)]; exact hM.1, fun j hj => by rw [zup_ne (by omega), zup_ne (by omega), zup_ne (by omega)]; exact hM.2 j hj⟩ (fun j hj k2 hk2 => by rw [zup_ne (by omega)]; exact hP j hj k2 hk2) (fun j hj => ?_) fun J j1 j2 u => q J j1 (fun a b g1 g2 g3 => by rw [j2 a b g1 g2 g3, zup_ne (by omega)]) u
    by_cases e : j = p
    · subst e; rw [zup_eq ⟨rfl, rfl⟩]; rfl
    · rw [zup_ne (by omega)]; exact h44 j (by omega))
theorem l_M_pd17 {Q : Int → ZI → Prop} (hW : Wf sh R) (hb : bOk B S) (hh0 : hIn B H0) (hG : kC B H0 = 0 ∨ wW (B 137 3) (B 137 4) (kF B H0) (kG B H0) G (kC B H0 - 1) < wE (B 137 3) G) (hg : G ≤ 5) : ∀ (c k : Nat) (H : List Int) (I : ZI) (u : Option AV), k + c = G → H.Perm H0 → I 137 49 = (G : Int) → mEnv B I → mSt I H g LA → qM I (kC B H0) (kK B H0) (kF B H0) (kG B H0) → wP I (B 137 3) (B 137 4) G (kF B H0) (kG B H0) (kC B H0) → (∀ J : ZI, mSt J (kDo B H0 G c k H) g LA → (∀ a b, ¬ (a = 142 ∧ b < H.length) → ¬ a = 159 → ¬ a = 158 → J a b = I a b) → Q (G : Int) J) → XIs (d + 4) 209 17 [some (.inr 137), some (.inl (k : Int)), u] [] n sh R I Q
  | 0, k, H, I, u, h, hp, h9, hE, hH, hM, hP, q => b_M_planDone_17 hW (by
    rw [h9, if_pos (by omega)]
    exact q I hH fun _ _ _ _ _ => rfl)
  | c + 1, k, H, I, u, h, hp, h9, hE, hH, hM, hP, q => b_M_planDone_17 hW (by
    have hi := kInto_ok (G := G) hb hh0 hp hG k
    have hln := gNext_len hi
    rw [h9, if_neg (by omega)]
    refine l_M_pd27 (k := k) hW hb hh0 hp hG hg (by omega) H.length 0 I (by omega) hE hH hM hP (fun j hj => absurd hj (by omega)) fun J j1 j2 u => ?_
    refine l_M_pd17 hW hb hh0 hG hg c (k + 1) _ J u (by omega) ((gNext_perm hi).trans hp) (by rw [j2 _ _ (by omega) (by omega) (by omega)]; exact h9) (hE.fr fun a b hab => j2 a b (by omega) (by omega) (by omega)) j1 ⟨by rw [j2 _ _ (by omega) (by omega) (by omega)]; exact hM.1, fun j hj => by rw [j2 _ _ (by omega) (by omega) (by omega), j2 _ _ (by omega) (by omega) (by omega), j2 _ _ (by omega) (by omega) (by omega)]; exact hM.2 j hj⟩ (fun j hj k2 hk2 => by rw [j2 _ _ (by omega) (by omega) (by omega)]; exact hP j hj k2 hk2) fun M m1 m2 => q M m1 fun a b h1 h2 h3 => by rw [m2 a b (by omega) h2 h3, j2 a b h1 h2 h3])
theorem kDo_perm (hb : bOk B S) (hh0 : hIn B H0) (hG : kC B H0 = 0 ∨ wW (B 137 3) (B 137 4) (kF B H0) (kG B H0) G (kC B H0 - 1) < wE (B 137 3) G) : ∀ (c k : Nat) (H : List Int), H.Perm H0 → (kDo B H0 G c k H).Perm H0
  | 0, _, _, h => h
  | c + 1, k, H, h => kDo_perm hb hh0 hG c (k + 1) _ ((gNext_perm (kInto_ok hb hh0 h hG k)).trans h)
theorem c_planDone {I : ZI} (hW : Wf sh R) (h : Rel t I R) : XI (d + 6) 111 [.inr 1] n sh R I (fun v J => XI (d + 4) 209 [.inr 137] n sh R J (fun v2 K => v2 = v ∧ Rel (t + 1) K R)) := by
  obtain ⟨lw, S, H, hl, hR, hL, hb, hE, mE, hH, mH, hv, hg⟩ := h.base hW
  have hin := hv.1.inb hb
  have lv := hin.1
  refine b_N_planDone_0 hW (s_N_findPlan (B := I) (g := I 18 7) (LA := I 22) hW hl hb hin hE hH fun J j1 j2 => ?_)
  have hH2 : gSt I J 18 H (I 18 7) (I 22) := hH.fr fun a b hab => j2 a b (by omega) (by omega) (by omega) (by omega) (by omega) (by omega) (by omega)
  have hE2 : gEnv I J lw S := hE.fr hl fun a b hab => j2 a b (by omega) (by omega) (by omega) (by omega) (by omega) (by omega) (by omega)
  by_cases g1 : kGo I H = -1
  · rw [if_pos g1]
    refine b_N_planDone_7 hW ?_
    rw [if_pos (by decide)]
    refine b_M_planDone_0 hW (s_M_laysPlan (B := I) (g := I 18 7) (LA := I 22) hW hb hin (mE.fr fun a b hab => j2 a b (by omega) (by omega) (by omega) (by omega) (by omega) (by omega) (by omega)) (mH.fr fun a b hab => j2 a b (by omega) (by omega) (by omega) (by omega) (by omega) (by omega) (by omega)) fun K k1 k2 => ?_)
    have e : K 137 49 = kGo I H := k1.1.1
    rw [e, if_neg (not_not_intro g1)]
    exact ⟨rfl, h.fr (by omega) fun a b hab => by
      unfold fAll fNow fKept fEnv fTape fBlame fLaw at hab
      rw [k2 a b (by omega) (by omega) (by omega), j2 a b (by omega) (by omega) (by omega) (by omega) (by omega) (by omega) (by omega)]⟩
  rw [if_neg g1]
  rcases j1 with c1 | ⟨G, c1, c2, c3, c4, c5⟩
  · exact absurd c1 g1
  have c1' : kGo I H = (G : Int) := c1
  rw [c1']
  have pm := kDo_perm (G := G) hb hin c3 G 0 H (List.Perm.refl H)
  refine l_N_pd7 (H0 := H) (G := G) (g := I 18 7) (LA := I 22) hW hl hb hin c3 c2 G 0 H J none (by omega) (List.Perm.refl H) hE2 hH2 ⟨c4, c5⟩ fun J2 l1 l2 => ?_
  have f0 : ∀ a b, 137 ≤ a → J2 a b = I a b := fun a b hab => by rw [l2 a b (by omega) (by omega) (by omega) (by omega), j2 a b (by omega) (by omega) (by omega) (by omega) (by omega) (by omega) (by omega)]
  refine b_M_planDone_0 hW (s_M_laysPlan (B := I) (g := I 18 7) (LA := I 22) hW hb hin (mE.fr fun a b hab => f0 a b (by omega)) (mH.fr fun a b hab => f0 a b (by omega)) fun K k1 k2 => ?_)
  have e : K 137 49 = (G : Int) := k1.1.1.trans c1'
  rw [e, if_pos (by omega)]
  have mE2 : mEnv I K := mE.fr fun a b hab => by rw [k2 a b (by omega) (by omega) (by omega), f0 a b (by omega)]
  have mH2 : mSt K H (I 18 7) (I 22) := mH.fr fun a b hab => by rw [k2 a b (by omega) (by omega) (by omega), f0 a b (by omega)]
  refine l_M_pd17 (H0 := H) (G := G) (g := I 18 7) (LA := I 22) hW hb hin c3 c2 G 0 H K none (by omega) (List.Perm.refl H) e mE2 mH2 k1.2 (k1.1.2 G c1).2.2 fun M m1 m2 => ⟨rfl, ?_⟩
  have ff : ∀ a b, ¬ a = 16 → ¬ a = 17 → ¬ (a = 23 ∧ b < H.length) → ¬ a = 44 → ¬ (a = 53 ∧ b = 2) → ¬ a = 54 → ¬ a = 56 → ¬ a = 57 → ¬ a = 14 → ¬ (a = 59 ∧ b = 3) → ¬ a = 60 → ¬ (a = 137 ∧ b = 45) → ¬ (162 ≤ a ∧ a ≤ 166) → ¬ (a = 137 ∧ b = 49) → ¬ (a = 142 ∧ b < H.length) → ¬ a = 159 → ¬ a = 158 → M a b = I a b := fun a b h1 h2 h3 h4 h5 h6 h7 h8 h9 h10 h11 h12 h13 h14 h15 h16 h17 => by
    rw [m2 a b h15 h16 h17, k2 a b h12 h13 h14, l2 a b h1 h2 h3 h4, j2 a b h5 h6 h7 h8 h9 h10 h11]
  have f1 : ∀ a b, fAll a b → ¬ (a = 23 ∧ b < H.length) → ¬ (a = 142 ∧ b < H.length) → M a b = I a b := fun a b hab h1 h2 => by
    unfold fAll fNow fKept fEnv fTape fBlame fLaw at hab
    exact ff a b (by omega) (by omega) h1 (by omega) (by omega) (by omega) (by omega) (by omega) (by omega) (by omega) (by omega) (by omega) (by omega) (by omega) h2 (by omega) (by omega)
  have f2 : ∀ a b, fAll a b → ¬ fNow a b → M a b = I a b := fun a b h1 h2 => f1 a b h1 (by unfold fNow at h2; omega) (by unfold fNow at h2; omega)
  have nx := h.1.2.1
  have e8 : M 18 8 = I 18 8 := f1 18 8 (.inl (by unfold fNow; omega)) (by omega) (by omega)
  have e5 : M 137 5 = I 137 5 := f1 137 5 (.inl (by unfold fNow; omega)) (by omega) (by omega)
  have xx := h.1.1.2.2.2.1
  refine h.up (by omega) (.inl (rNow.mk (S := S) (H := kDo I H G G 0 H) (g := I 18 7) (LA := I 22) hb (mE2.fr fun a b hab => m2 a b (by omega) (by omega) (by omega)) (l1.fr fun a b hab => by rw [m2 a b (by omega) (by omega) (by omega), k2 a b (by omega) (by omega) (by omega)]) m1 ⟨hv.1.perm pm, hv.2⟩ hg (fun k h1 h2 => ?_) ⟨by omega, by omega, by omega⟩)) (.inr fun a k hk => ?_) (.inr fun a k hk => ?_) (.inr fun a k hk => ?_) (.inr fun a k hk => ?_) (.inr fun a k hk => ?_)
  · rw [pm.length_eq] at h1
    rw [f1 23 k (.inl (by unfold fNow; omega)) (by omega) (by omega), f1 142 k (.inl (by unfold fNow; omega)) (by omega) (by omega)]
    exact (h.1.1.2.2.2.2 k h2).2.2.2.2
  · exact f2 a k (.inr (.inl hk)) (by unfold fKept at hk; unfold fNow; omega)
  · exact f2 a k (.inr (.inr (.inl hk))) (by unfold fEnv at hk; unfold fNow; omega)
  · exact f2 a k (.inr (.inr (.inr (.inl hk)))) (by unfold fTape at hk; unfold fNow; omega)
  · exact f2 a k (.inr (.inr (.inr (.inr (.inl hk))))) (by unfold fBlame at hk; unfold fNow; omega)
  · exact f2 a k (.inr (.inr (.inr (.inr (.inr hk))))) (by unfold fLaw at hk; unfold fNow; omega)
end PD
