-- A RUN that ends ends with more depth
theorem zrun_deep : ∀ (f : Nat) {d mid pc : Nat} {ls : ZL} {st : List AV} {w : ZW} {x : Option AV × ZW}, zrun f d mid pc ls st w = some x → zrun f (d + 1) mid pc ls st w = some x := by
  intro f
  induction f with
  | zero => intro d mid pc ls st w x h; simp [zrun] at h
  | succ f ih =>
    intro d mid pc ls st w x h
    unfold zrun at h ⊢
    cases hd : decode (zB mid) pc with
    | error e => rw [hd] at h; cases h
    | ok q =>
      obtain ⟨ins, len⟩ := q
      rw [hd] at h
      dsimp only at h ⊢
      by_cases hlk : zlk ins len = false
      · rw [if_pos hlk] at h; cases h
      rw [if_neg hlk] at h ⊢
      cases hr : zret mid ins st with
      | some r => rw [hr] at h; exact h
      | none =>
        rw [hr] at h
        dsimp only at h ⊢
        cases hc : zcall mid ins st w with
        | some q =>
          obtain ⟨y, as, t⟩ := q
          rw [hc] at h
          dsimp only at h ⊢
          cases d with
          | zero => cases h
          | succ d =>
            dsimp only at h ⊢
            by_cases hb : (zMc y).1 ≤ w.1 ∧ (zMc y).2 ≤ w.2.1 ∧ as.length ≤ zL y ∧ zL y ≤ 20
            · rw [if_pos hb] at h ⊢
              cases h1 : zrun f d y 0 (zloc y as) [] (zpurse w (zMc y)) with
              | none => rw [h1] at h; cases h
              | some q2 =>
                obtain ⟨r, w2⟩ := q2
                rw [h1] at h
                rw [ih h1]
                exact ih h
            · rw [if_neg hb] at h; cases h
        | none =>
          rw [hc] at h
          dsimp only at h ⊢
          cases hs : zstep mid pc ins ls st w with
          | none => rw [hs] at h; cases h
          | some q3 =>
            obtain ⟨pc2, ls2, st2, w2⟩ := q3
            rw [hs] at h
            exact ih h
theorem Ex.deep {d d2 mid pc : Nat} {ls : ZL} {st : List AV} {w : ZW} {Q : Option AV → ZW → Prop} (h : Ex d mid pc ls st w Q) (hd : d ≤ d2) : Ex d2 mid pc ls st w Q := by
  obtain ⟨k, rfl⟩ : ∃ k, d2 = d + k := ⟨d2 - d, by omega⟩
  obtain ⟨f, r, w2, h1, h2⟩ := h
  refine ⟨f, r, w2, ?_, h2⟩
  induction k with
  | zero => exact h1
  | succ k ih => exact zrun_deep f (ih (by omega))
theorem XI.deep {d d2 y n : Nat} {as : List AV} {sh : ZS} {R : ZR} {I : ZI} {Q : Int → ZI → Prop} (h : XI d y as n sh R I Q) (hd : d ≤ d2) : XI d2 y as n sh R I Q := Ex.deep h hd
theorem XR.deep {d d2 y n : Nat} {as : List AV} {sh : ZS} {R : ZR} {I : ZI} {Q : Int → ZI → ZR → Prop} (h : XR d y as n sh R I Q) (hd : d ≤ d2) : XR d2 y as n sh R I Q := Ex.deep h hd
