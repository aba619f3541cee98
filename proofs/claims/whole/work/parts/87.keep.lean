-- THE SCRIPT stays: runs
section GR
variable {mid pc : Nat} {ls : ZL} {st : List AV} {w : ZW}
theorem gs_take {n : Nat} (h : gs st) : gs (st.take n) := fun v hv => h v (List.mem_of_mem_take hv)
theorem gs_drop {n : Nat} (h : gs st) : gs (st.drop n) := fun v hv => h v (List.mem_of_mem_drop hv)
theorem gs_rev (h : gs st) : gs st.reverse := fun v hv => h v (List.mem_reverse.mp hv)
theorem gl_loc {y : Nat} (h : gs st) : gl (zloc y st) := fun v hv => by
  unfold zloc at hv
  rcases List.mem_append.mp hv with e | e
  · obtain ⟨u, hu, e2⟩ := List.mem_map.mp e
    cases e2; exact h v hu
  · exact absurd (List.mem_replicate.mp e).2 (by intro c; cases c)
theorem g_call {ins : Instr} {y : Nat} {as t : List AV} (h : zcall mid ins st w = some (y, as, t)) (hs : gs st) : gs as ∧ gs t := by
  unfold zcall at h
  split at h
  · split at h
    · split at h
      · rename_i o t2 e
        split at h
        · cases h
          have d := gs_c.mp (show gs (.inr o :: t) by rw [← e]; exact gs_drop hs)
          exact ⟨gs_c.mpr ⟨d.1, gs_rev (gs_take hs)⟩, d.2⟩
        · cases h
      · cases h
    · cases h
  · split at h
    · split at h
      · split at h
        · rename_i o t2 e
          split at h
          · cases h
            have d := gs_c.mp (show gs (.inr o :: t) by rw [← e]; exact gs_drop hs)
            exact ⟨gs_c.mpr ⟨d.1, gs_rev (gs_take hs)⟩, d.2⟩
          · cases h
        · cases h
      · cases h
    · cases h
  · split at h
    · split at h
      · cases h; exact ⟨gs_rev (gs_take hs), gs_drop hs⟩
      · cases h
    · cases h
  · cases h
theorem g_ret {ins : Instr} {r : Option AV} (h : zret mid ins st = some r) (hs : gs st) : ∀ v, r = some v → gv v := by
  unfold zret at h
  split at h
  · cases h; intro v e; cases e; exact gv_i _
  · split at h
    · cases h; intro v e; cases e; exact gv_i _
    · cases h
  · cases h; intro v e; cases e; exact hs _ (List.mem_singleton.mpr rfl)
  · cases h; intro v e; cases e
  · cases h
end GR
theorem z_keep : ∀ (f : Nat) {d mid pc : Nat} {ls : ZL} {st : List AV} {w : ZW} {r : Option AV} {w2 : ZW}, zrun f d mid pc ls st w = some (r, w2) → gl ls → gs st → gR w → (∀ v, r = some v → gv v) ∧ gR w2 ∧ gK w w2 := by
  intro f
  induction f with
  | zero => intro d mid pc ls st w r w2 h; simp [zrun] at h
  | succ f ih =>
    intro d mid pc ls st w r w2 h hl hs hR
    unfold zrun at h
    cases hd : decode (zB mid) pc with
    | error e => rw [hd] at h; cases h
    | ok q =>
      obtain ⟨ins, len⟩ := q
      rw [hd] at h
      dsimp only at h
      by_cases hlk : zlk ins len = false
      · rw [if_pos hlk] at h; cases h
      rw [if_neg hlk] at h
      cases hr : zret mid ins st with
      | some r1 =>
        rw [hr] at h
        dsimp only at h
        cases h
        exact ⟨g_ret hr hs, hR, gK_r _⟩
      | none =>
        rw [hr] at h
        dsimp only at h
        cases hc : zcall mid ins st w with
        | some q =>
          obtain ⟨y, as, t⟩ := q
          rw [hc] at h
          have gc := g_call hc hs
          dsimp only at h
          cases d with
          | zero => cases h
          | succ d =>
            dsimp only at h
            by_cases hb : (zMc y).1 ≤ w.1 ∧ (zMc y).2 ≤ w.2.1 ∧ as.length ≤ zL y ∧ zL y ≤ 20
            · rw [if_pos hb] at h
              cases h1 : zrun f d y 0 (zloc y as) [] (zpurse w (zMc y)) with
              | none => rw [h1] at h; cases h
              | some q2 =>
                obtain ⟨r1, w1⟩ := q2
                rw [h1] at h
                have i1 := ih h1 (gl_loc gc.1) (fun v hv => absurd hv (List.not_mem_nil)) (show gR (zpurse w (zMc y)) from hR)
                have s1 : gs (r1.toList ++ t) := fun v hv => by
                  rcases List.mem_append.mp hv with e | e
                  · cases r1 with
                    | none => exact absurd e (List.not_mem_nil)
                    | some u =>
                      have : v = u := List.mem_singleton.mp e
                      rw [this]; exact i1.1 u rfl
                  · exact gc.2 v e
                have i2 := ih h hl s1 (show gR (zpurse w1 _) from i1.2.1)
                exact ⟨i2.1, i2.2.1, fun k => (i2.2.2 k).trans (i1.2.2 k)⟩
            · rw [if_neg hb] at h; cases h
        | none =>
          rw [hc] at h
          dsimp only at h
          cases hs2 : zstep mid pc ins ls st w with
          | none => rw [hs2] at h; cases h
          | some q3 =>
            obtain ⟨pc2, ls2, st2, w3⟩ := q3
            rw [hs2] at h
            obtain ⟨a1, a2, a3, a4⟩ := g_step hs2 hl hs hR
            have i := ih h a1 a2 a3
            exact ⟨i.1, i.2.1, fun k => (i.2.2 k).trans (a4 k)⟩
theorem Ex.keep {d mid pc : Nat} {ls : ZL} {st : List AV} {w : ZW} {Q : Option AV → ZW → Prop} (h : Ex d mid pc ls st w Q) (hl : gl ls) (hs : gs st) (hR : gR w) : Ex d mid pc ls st w (fun r w2 => Q r w2 ∧ gR w2 ∧ gK w w2) := by
  obtain ⟨f, r, w2, h1, h2⟩ := h
  have k := z_keep f h1 hl hs hR
  exact ⟨f, r, w2, h1, h2, k.2.1, k.2.2⟩
def rNo (R : ZR) : Prop := ∀ o k, ¬ R o k = zSc
/-- calls of the law, with the script -/
theorem XR.keep {d y n : Nat} {as : List AV} {sh : ZS} {R : ZR} {I : ZI} {Q : Int → ZI → ZR → Prop} (h : XR d y as n sh R I Q) (ha : gs as) (hR : rNo R) : XR d y as n sh R I (fun v J R2 => Q v J R2 ∧ rNo R2 ∧ ∀ k, J zSc k = I zSc k) := by
  have e := Ex.keep h (gl_loc ha) (fun v hv => absurd hv (List.not_mem_nil)) hR
  refine Ex.mono e fun r w2 ⟨⟨v, J, R2, a, b, c, q⟩, k1, k2⟩ => ?_
  subst b
  exact ⟨v, J, R2, a, rfl, c, q, k1, k2⟩
theorem XI.keep {d y n : Nat} {as : List AV} {sh : ZS} {R : ZR} {I : ZI} {Q : Int → ZI → Prop} (h : XI d y as n sh R I Q) (ha : gs as) (hR : rNo R) : XI d y as n sh R I (fun v J => Q v J ∧ ∀ k, J zSc k = I zSc k) := by
  have e := Ex.keep h (gl_loc ha) (fun v hv => absurd hv (List.not_mem_nil)) hR
  refine Ex.mono e fun r w2 ⟨⟨v, J, a, b, q⟩, k1, k2⟩ => ?_
  subst b
  exact ⟨v, J, a, rfl, q, k2⟩
theorem XI.toR {d y n : Nat} {as : List AV} {sh : ZS} {R : ZR} {I : ZI} {Q : Int → ZI → Prop} (hW : Wf sh R) (h : XI d y as n sh R I Q) : XR d y as n sh R I (fun v J R2 => R2 = R ∧ Q v J) :=
  Ex.mono h fun _ _ ⟨v, J, a, b, q⟩ => ⟨v, J, R, a, b, hW, rfl, q⟩
/-- a call of the law: the class, then the model, and they agree -/
def lCall (sh : ZS) (n y z : Nat) (as : List AV) : Prop := ∀ (t : Nat) (R : ZR) (I : ZI), t < 100000 → Wf sh R → rNo R → Rel t I R → XR 999 y (.inr 1 :: as) n sh R I (fun v J R2 => Wf sh R2 ∧ rNo R2 ∧ (∀ k, J zSc k = I zSc k) ∧ XI 999 z (.inr 137 :: as) n sh R2 J (fun v2 K => v2 = v ∧ Rel (t + 1) K R2 ∧ ∀ k, K zSc k = I zSc k))
theorem XR.wf {d y n : Nat} {as : List AV} {sh : ZS} {R : ZR} {I : ZI} {Q : Int → ZI → ZR → Prop} (h : XR d y as n sh R I Q) : XR d y as n sh R I (fun v J R2 => Wf sh R2 ∧ Q v J R2) :=
  Ex.mono h fun _ _ ⟨v, J, R2, a, b, c, q⟩ => ⟨v, J, R2, a, b, c, c, q⟩
theorem XR.mono {d y n : Nat} {as : List AV} {sh : ZS} {R : ZR} {I : ZI} {P Q : Int → ZI → ZR → Prop} (h : XR d y as n sh R I P) (hPQ : ∀ v J R2, P v J R2 → Q v J R2) : XR d y as n sh R I Q :=
  Ex.mono h fun _ _ ⟨v, J, R2, a, b, c, q⟩ => ⟨v, J, R2, a, b, c, hPQ v J R2 q⟩
theorem gs_args {o : Nat} {as : List AV} (ho : ¬ o = zSc) (h : gs as) : gs (.inr o :: as) := gs_c.mpr ⟨fun c => ho (Sum.inr.inj c), h⟩
theorem lCall.mkR {sh : ZS} {n y z d1 d2 : Nat} {as : List AV} (ha : gs as) (h1 : d1 ≤ 999) (h2 : d2 ≤ 999) (h : ∀ (t : Nat) (R : ZR) (I : ZI), t < 100000 → Wf sh R → Rel t I R → XR d1 y (.inr 1 :: as) n sh R I (fun v J R2 => XI d2 z (.inr 137 :: as) n sh R2 J (fun v2 K => v2 = v ∧ Rel (t + 1) K R2))) : lCall sh n y z as := fun t R I ht hW hN hr => by
  have e := (((h t R I ht hW hr).deep h1).keep (gs_args (by decide) ha) hN).wf
  exact e.mono fun v J R2 ⟨w, a, b, c⟩ => ⟨w, b, c, ((a.deep h2).keep (gs_args (by decide) ha) b).mono fun v2 K ⟨⟨e1, e2⟩, e3⟩ => ⟨e1, e2, fun k => (e3 k).trans (c k)⟩⟩
theorem lCall.mk {sh : ZS} {n y z d1 d2 : Nat} {as : List AV} (ha : gs as) (h1 : d1 ≤ 999) (h2 : d2 ≤ 999) (h : ∀ (t : Nat) (R : ZR) (I : ZI), t < 100000 → Wf sh R → Rel t I R → XI d1 y (.inr 1 :: as) n sh R I (fun v J => XI d2 z (.inr 137 :: as) n sh R J (fun v2 K => v2 = v ∧ Rel (t + 1) K R))) : lCall sh n y z as :=
  lCall.mkR ha h1 h2 fun t R I ht hW hr => (XI.toR hW (h t R I ht hW hr)).mono fun v J R2 ⟨a, b⟩ => by subst a; exact b
theorem gs_nil : gs [] := fun v hv => absurd hv (List.not_mem_nil)
theorem gs_i {x : Int} {t : List AV} (h : gs t) : gs (.inl x :: t) := gs_c.mpr ⟨gv_i x, h⟩
