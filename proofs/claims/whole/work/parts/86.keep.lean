-- THE SCRIPT stays as it was: who has no way to it can't write it
def gv (v : AV) : Prop := ¬ v = .inr zSc
def gs (st : List AV) : Prop := ∀ v, v ∈ st → gv v
def gl (ls : ZL) : Prop := ∀ v, some v ∈ ls → gv v
def gR (w : ZW) : Prop := ∀ o k, ¬ w.2.2.2.2.1 o k = zSc
def gK (w w2 : ZW) : Prop := ∀ k, w2.2.2.2.2.2 zSc k = w.2.2.2.2.2 zSc k
def gO (ls2 : ZL) (st2 : List AV) (w2 w : ZW) : Prop := gl ls2 ∧ gs st2 ∧ gR w2 ∧ gK w w2
theorem gv_i (x : Int) : gv (.inl x) := fun c => by cases c
theorem gs_c {v : AV} {t : List AV} : gs (v :: t) ↔ gv v ∧ gs t := by
  unfold gs
  constructor
  · intro h; exact ⟨h v (List.mem_cons_self), fun u hu => h u (List.mem_cons_of_mem _ hu)⟩
  · intro h u hu
    rcases List.mem_cons.mp hu with e | e
    · rw [e]; exact h.1
    · exact h.2 u e
theorem gK_r (w : ZW) : gK w w := fun _ => rfl
theorem gl_set {ls : ZL} {i : Nat} {v : AV} (h : gl ls) (hv : gv v) : gl (ls.set i (some v)) := fun u hu => by
  rcases List.mem_or_eq_of_mem_set hu with e | e
  · exact h u e
  · cases e; exact hv
theorem gl_get {ls : ZL} {i : Nat} {v : AV} (h : gl ls) (e : ls[i]? = some (some v)) : gv v := h v (List.mem_of_getElem? e)
section GK
variable {mid pc pc2 : Nat} {ls ls2 : ZL} {st st2 : List AV} {w w2 : ZW}
theorem g_bin {g : Int → Int → Int} (h : zbin g pc ls st w = some (pc2, ls2, st2, w2)) (hl : gl ls) (hs : gs st) (hR : gR w) : gO ls2 st2 w2 w := by
  unfold zbin at h
  split at h
  · cases h; exact ⟨hl, gs_c.mpr ⟨gv_i _, (gs_c.mp (gs_c.mp hs).2).2⟩, hR, gK_r _⟩
  · cases h
theorem g_div {g : Int → Int → Int} (h : zdiv g pc ls st w = some (pc2, ls2, st2, w2)) (hl : gl ls) (hs : gs st) (hR : gR w) : gO ls2 st2 w2 w := by
  unfold zdiv at h
  split at h
  · split at h
    · cases h
    · cases h; exact ⟨hl, gs_c.mpr ⟨gv_i _, (gs_c.mp (gs_c.mp hs).2).2⟩, hR, gK_r _⟩
  · cases h
theorem g_un {g : Int → Int} (h : zun g pc ls st w = some (pc2, ls2, st2, w2)) (hl : gl ls) (hs : gs st) (hR : gR w) : gO ls2 st2 w2 w := by
  unfold zun at h
  split at h
  · cases h; exact ⟨hl, gs_c.mpr ⟨gv_i _, (gs_c.mp hs).2⟩, hR, gK_r _⟩
  · cases h
theorem g_pushI {b : Bool} {len : Nat} {v : Int} (h : zpushI b len v pc ls st w = some (pc2, ls2, st2, w2)) (hl : gl ls) (hs : gs st) (hR : gR w) : gO ls2 st2 w2 w := by
  unfold zpushI at h
  split at h
  · cases h; exact ⟨hl, gs_c.mpr ⟨gv_i _, hs⟩, hR, gK_r _⟩
  · cases h
theorem g_iload {i len : Nat} (h : ziload i len pc ls st w = some (pc2, ls2, st2, w2)) (hl : gl ls) (hs : gs st) (hR : gR w) : gO ls2 st2 w2 w := by
  unfold ziload at h
  split at h
  · cases h; exact ⟨hl, gs_c.mpr ⟨gv_i _, hs⟩, hR, gK_r _⟩
  · cases h
theorem g_aload {i len : Nat} (h : zaload i len pc ls st w = some (pc2, ls2, st2, w2)) (hl : gl ls) (hs : gs st) (hR : gR w) : gO ls2 st2 w2 w := by
  unfold zaload at h
  split at h
  · rename_i e; cases h; exact ⟨hl, gs_c.mpr ⟨gl_get hl e, hs⟩, hR, gK_r _⟩
  · cases h
theorem g_istore {i len : Nat} (h : zistore i len pc ls st w = some (pc2, ls2, st2, w2)) (hl : gl ls) (hs : gs st) (hR : gR w) : gO ls2 st2 w2 w := by
  unfold zistore at h
  split at h
  · split at h
    · cases h; exact ⟨gl_set hl (gv_i _), (gs_c.mp hs).2, hR, gK_r _⟩
    · cases h
  · cases h
theorem g_astore {i len : Nat} (h : zastore i len pc ls st w = some (pc2, ls2, st2, w2)) (hl : gl ls) (hs : gs st) (hR : gR w) : gO ls2 st2 w2 w := by
  unfold zastore at h
  split at h
  · split at h
    · cases h; exact ⟨gl_set hl (gs_c.mp hs).1, (gs_c.mp hs).2, hR, gK_r _⟩
    · cases h
  · cases h
theorem g_iinc {i : Nat} {n : Int} (h : ziinc i n pc ls st w = some (pc2, ls2, st2, w2)) (hl : gl ls) (hs : gs st) (hR : gR w) : gO ls2 st2 w2 w := by
  unfold ziinc at h
  split at h
  · cases h; exact ⟨gl_set hl (gv_i _), hs, hR, gK_r _⟩
  · cases h
theorem g_goto {off : Int} (h : zgoto pc off ls st w = some (pc2, ls2, st2, w2)) (hl : gl ls) (hs : gs st) (hR : gR w) : gO ls2 st2 w2 w := by
  unfold zgoto at h
  split at h
  · cases h; exact ⟨hl, hs, hR, gK_r _⟩
  · cases h
theorem g_if2 {c : ClassFile.Cond} {off : Int} (h : zif2 c off pc ls st w = some (pc2, ls2, st2, w2)) (hl : gl ls) (hs : gs st) (hR : gR w) : gO ls2 st2 w2 w := by
  unfold zif2 at h
  split at h
  · split at h
    · cases h; exact ⟨hl, (gs_c.mp (gs_c.mp hs).2).2, hR, gK_r _⟩
    · cases h
  · cases h
theorem g_if1 {c : ClassFile.Cond} {off : Int} (h : zif1 c off pc ls st w = some (pc2, ls2, st2, w2)) (hl : gl ls) (hs : gs st) (hR : gR w) : gO ls2 st2 w2 w := by
  unfold zif1 at h
  split at h
  · split at h
    · cases h; exact ⟨hl, (gs_c.mp hs).2, hR, gK_r _⟩
    · cases h
  · cases h
theorem g_tsw {dd lo hi : Int} {offs : Array Int} (h : ztsw dd lo hi offs pc ls st w = some (pc2, ls2, st2, w2)) (hl : gl ls) (hs : gs st) (hR : gR w) : gO ls2 st2 w2 w := by
  unfold ztsw at h
  split at h
  · split at h
    · exact g_goto h hl (gs_c.mp hs).2 hR
    · split at h
      · exact g_goto h hl (gs_c.mp hs).2 hR
      · cases h
  · cases h
theorem g_lsw {dd : Int} {ps : Array (Int × Int)} (h : zlsw dd ps pc ls st w = some (pc2, ls2, st2, w2)) (hl : gl ls) (hs : gs st) (hR : gR w) : gO ls2 st2 w2 w := by
  unfold zlsw at h
  split at h
  · split at h
    · exact g_goto h hl (gs_c.mp hs).2 hR
    · cases h
  · cases h
theorem g_get {own i : Nat} (h : zget own i pc ls st w = some (pc2, ls2, st2, w2)) (hl : gl ls) (hs : gs st) (hR : gR w) : gO ls2 st2 w2 w := by
  unfold zget at h
  split at h
  · split at h
    · split at h
      · split at h
        · cases h
        · cases h; exact ⟨hl, gs_c.mpr ⟨fun c => hR _ _ (Sum.inr.inj c), (gs_c.mp hs).2⟩, hR, gK_r _⟩
      · cases h; exact ⟨hl, gs_c.mpr ⟨gv_i _, (gs_c.mp hs).2⟩, hR, gK_r _⟩
    · cases h
  · cases h
theorem gK_up {I : ZI} {o k : Nat} {x : Int} (ho : gv (.inr o)) (j : Nat) : zup I o k x zSc j = I zSc j := if_neg fun c => ho (congrArg Sum.inr c.1.symm)
theorem gR_up {R : ZR} {o k r : Nat} (h : ∀ o k, ¬ R o k = zSc) (hr : gv (.inr r)) (a b : Nat) : ¬ zup R o k r a b = zSc := by
  unfold zup
  split
  · exact fun c => hr (congrArg Sum.inr c)
  · exact h a b
theorem g_put {i : Nat} (h : zput mid i pc ls st w = some (pc2, ls2, st2, w2)) (hl : gl ls) (hs : gs st) (hR : gR w) : gO ls2 st2 w2 w := by
  unfold zput at h
  split at h
  · have s1 := gs_c.mp hs
    have s2 := gs_c.mp s1.2
    split at h
    · split at h
      · cases h; exact ⟨hl, s2.2, hR, fun k => gK_up s2.1 k⟩
      · split at h
        · cases h; exact ⟨hl, s2.2, hR, fun k => gK_up s2.1 k⟩
        · cases h
      · cases h; exact ⟨hl, s2.2, gR_up hR s1.1, fun k => rfl⟩
      · cases h; exact ⟨hl, s2.2, gR_up hR s1.1, fun k => rfl⟩
      · cases h
    · cases h
  · cases h
theorem g_ald {kind : Nat} (h : zald kind pc ls st w = some (pc2, ls2, st2, w2)) (hl : gl ls) (hs : gs st) (hR : gR w) : gO ls2 st2 w2 w := by
  unfold zald at h
  split at h
  · split at h
    · cases h; exact ⟨hl, gs_c.mpr ⟨gv_i _, (gs_c.mp (gs_c.mp hs).2).2⟩, hR, gK_r _⟩
    · cases h
  · cases h
theorem g_aldR (h : zaldR pc ls st w = some (pc2, ls2, st2, w2)) (hl : gl ls) (hs : gs st) (hR : gR w) : gO ls2 st2 w2 w := by
  unfold zaldR at h
  split at h
  · split at h
    · cases h; exact ⟨hl, gs_c.mpr ⟨fun c => hR _ _ (Sum.inr.inj c), (gs_c.mp (gs_c.mp hs).2).2⟩, hR, gK_r _⟩
    · cases h
  · cases h
theorem g_ast {kind : Nat} {g : Int → Int} (h : zast kind g pc ls st w = some (pc2, ls2, st2, w2)) (hl : gl ls) (hs : gs st) (hR : gR w) : gO ls2 st2 w2 w := by
  unfold zast at h
  split at h
  · have s3 := gs_c.mp (gs_c.mp (gs_c.mp hs).2).2
    split at h
    · cases h; exact ⟨hl, s3.2, hR, fun k => gK_up s3.1 k⟩
    · cases h
  · cases h
theorem g_len (h : zlen pc ls st w = some (pc2, ls2, st2, w2)) (hl : gl ls) (hs : gs st) (hR : gR w) : gO ls2 st2 w2 w := by
  unfold zlen at h
  split at h
  · split at h
    · cases h; exact ⟨hl, gs_c.mpr ⟨gv_i _, (gs_c.mp hs).2⟩, hR, gK_r _⟩
    · cases h
  · cases h
theorem g_dup (h : zdup pc ls st w = some (pc2, ls2, st2, w2)) (hl : gl ls) (hs : gs st) (hR : gR w) : gO ls2 st2 w2 w := by
  unfold zdup at h
  split at h
  · cases h; exact ⟨hl, gs_c.mpr ⟨(gs_c.mp hs).1, hs⟩, hR, gK_r _⟩
  · cases h
theorem g_dup2 (h : zdup2 pc ls st w = some (pc2, ls2, st2, w2)) (hl : gl ls) (hs : gs st) (hR : gR w) : gO ls2 st2 w2 w := by
  unfold zdup2 at h
  split at h
  · cases h; exact ⟨hl, gs_c.mpr ⟨(gs_c.mp hs).1, gs_c.mpr ⟨(gs_c.mp (gs_c.mp hs).2).1, hs⟩⟩, hR, gK_r _⟩
  · cases h
theorem g_pop (h : zpop pc ls st w = some (pc2, ls2, st2, w2)) (hl : gl ls) (hs : gs st) (hR : gR w) : gO ls2 st2 w2 w := by
  unfold zpop at h
  split at h
  · cases h; exact ⟨hl, (gs_c.mp hs).2, hR, gK_r _⟩
  · cases h
theorem gR_n1 {kind len : Nat} (hR : gR w) : gR (znew1 w kind len) := fun o k => by
  show ¬ (if o = w.2.2.1 + 1 then 0 else w.2.2.2.2.1 o k) = zSc
  split
  · decide
  · exact hR o k
theorem gK_n1 {kind len : Nat} (hn : w.2.2.1 < 900000) : gK w (znew1 w kind len) := fun k => by
  show (if zSc = w.2.2.1 + 1 then 0 else w.2.2.2.2.2 zSc k) = _
  rw [if_neg (by unfold zSc; omega)]
theorem gv_n {n : Nat} (hn : n < 900000) : gv (.inr (n + 1)) := fun c => by
  have := Sum.inr.inj c
  unfold zSc at this
  omega
theorem g_new {own i : Nat} (h : znew own i pc ls st w = some (pc2, ls2, st2, w2)) (hl : gl ls) (hs : gs st) (hR : gR w) : gO ls2 st2 w2 w := by
  unfold znew at h
  split at h
  · split at h
    · rename_i e; cases h; exact ⟨hl, gs_c.mpr ⟨gv_n e.2.2, hs⟩, gR_n1 hR, gK_n1 e.2.2⟩
    · cases h
  · cases h
theorem g_newa {t : ArrayType} (h : znewa t pc ls st w = some (pc2, ls2, st2, w2)) (hl : gl ls) (hs : gs st) (hR : gR w) : gO ls2 st2 w2 w := by
  unfold znewa at h
  split at h
  · split at h
    · rename_i e
      split at h
      · cases h; exact ⟨hl, gs_c.mpr ⟨gv_n e.2.2.2.2, (gs_c.mp hs).2⟩, gR_n1 hR, gK_n1 e.2.2.2.2⟩
      · cases h; exact ⟨hl, gs_c.mpr ⟨gv_n e.2.2.2.2, (gs_c.mp hs).2⟩, gR_n1 hR, gK_n1 e.2.2.2.2⟩
      · cases h; exact ⟨hl, gs_c.mpr ⟨gv_n e.2.2.2.2, (gs_c.mp hs).2⟩, gR_n1 hR, gK_n1 e.2.2.2.2⟩
      · cases h
    · cases h
  · cases h
theorem g_mna {own i dd : Nat} (h : zmna own i dd pc ls st w = some (pc2, ls2, st2, w2)) (hl : gl ls) (hs : gs st) (hR : gR w) : gO ls2 st2 w2 w := by
  unfold zmna at h
  split at h
  · split at h
    · rename_i e
      obtain ⟨e1, e2, e3, e4, e5, e6, e7, e8, e9, e10⟩ := e
      cases h
      refine ⟨hl, gs_c.mpr ⟨gv_n e10, (gs_c.mp (gs_c.mp hs).2).2⟩, fun o k => ?_, fun k => ?_⟩
      · show ¬ (if o = w.2.2.1 + 1 then (if k < _ then w.2.2.1 + 2 + k else 0) else if w.2.2.1 + 1 < o ∧ o ≤ w.2.2.1 + 1 + _ then 0 else w.2.2.2.2.1 o k) = zSc
        split
        · split
          · unfold zSc; omega
          · decide
        · split
          · decide
          · exact hR o k
      · show (if w.2.2.1 < zSc ∧ zSc ≤ w.2.2.1 + 1 + _ then 0 else w.2.2.2.2.2 zSc k) = _
        rw [if_neg (by unfold zSc; omega)]
    · cases h
  · cases h
theorem g_jS {own i : Nat} (h : zjS own i pc ls st w = some (pc2, ls2, st2, w2)) (hl : gl ls) (hs : gs st) (hR : gR w) : gO ls2 st2 w2 w := by
  unfold zjS at h
  split at h
  · split at h
    · cases h; exact ⟨hl, gs_c.mpr ⟨gv_i _, (gs_c.mp (gs_c.mp hs).2).2⟩, hR, gK_r _⟩
    · cases h
  · split at h
    · cases h; exact ⟨hl, gs_c.mpr ⟨gv_i _, (gs_c.mp (gs_c.mp hs).2).2⟩, hR, gK_r _⟩
    · cases h
  · split at h
    · cases h; exact ⟨hl, gs_c.mpr ⟨gv_i _, (gs_c.mp hs).2⟩, hR, gK_r _⟩
    · cases h
  · have s3 := gs_c.mp (gs_c.mp (gs_c.mp hs).2).2
    split at h
    · cases h
      refine ⟨hl, (gs_c.mp (gs_c.mp s3.2).2).2, hR, fun k => ?_⟩
      exact if_neg fun c => s3.1 (congrArg Sum.inr c.1.symm)
    · cases h
  · cases h
theorem g_jV {own i : Nat} (h : zjV own i pc ls st w = some (pc2, ls2, st2, w2)) (hl : gl ls) (hs : gs st) (hR : gR w) : gO ls2 st2 w2 w := by
  unfold zjV at h
  split at h
  · split at h
    · cases h; exact ⟨hl, gs_c.mpr ⟨gv_i _, (gs_c.mp (gs_c.mp hs).2).2⟩, hR, gK_r _⟩
    · cases h
  · split at h
    · cases h; exact ⟨hl, gs_c.mpr ⟨gv_i _, (gs_c.mp hs).2⟩, hR, gK_r _⟩
    · cases h
  · cases h
theorem g_jI {own i : Nat} (h : zjI own i pc ls st w = some (pc2, ls2, st2, w2)) (hl : gl ls) (hs : gs st) (hR : gR w) : gO ls2 st2 w2 w := by
  unfold zjI at h
  split at h
  · split at h
    · cases h; exact ⟨hl, (gs_c.mp hs).2, hR, gK_r _⟩
    · cases h
  · cases h
theorem g_lal (h : zlal mid pc ls st w = some (pc2, ls2, st2, w2)) (hl : gl ls) (hs : gs st) (hR : gR w) : gO ls2 st2 w2 w := by
  unfold zlal at h
  split at h
  · unfold zlr at h
    split at h
    · split at h
      · cases h; exact ⟨hl, gs_c.mpr ⟨gv_i _, (gs_c.mp (gs_c.mp hs).2).2⟩, hR, gK_r _⟩
      · cases h
    · cases h
  · split at h
    · unfold zlw at h
      split at h
      · have s2 := gs_c.mp (gs_c.mp hs).2
        split at h
        · cases h; exact ⟨hl, (gs_c.mp (gs_c.mp s2.2).2).2, hR, fun k => gK_up s2.1 k⟩
        · cases h
      · cases h
    · cases h
theorem g_fil (h : zfil mid pc ls st w = some (pc2, ls2, st2, w2)) (hl : gl ls) (hs : gs st) (hR : gR w) : gO ls2 st2 w2 w := by
  unfold zfil at h
  split at h
  · have s1 := gs_c.mp hs
    split at h
    · split at h
      · cases h; exact ⟨hl, s1.2, hR, fun k => if_neg fun c => s1.1 (congrArg Sum.inr c.1.symm)⟩
      · cases h
    · cases h
  · cases h
theorem g_step {ins : Instr} (h : zstep mid pc ins ls st w = some (pc2, ls2, st2, w2)) (hl : gl ls) (hs : gs st) (hR : gR w) : gO ls2 st2 w2 w := by
  unfold zstep at h
  split at h
  all_goals first
    | (cases h; done)
    | exact g_pushI h hl hs hR
    | exact g_iload h hl hs hR
    | exact g_aload h hl hs hR
    | exact g_istore h hl hs hR
    | exact g_astore h hl hs hR
    | exact g_iinc h hl hs hR
    | exact g_bin h hl hs hR
    | exact g_div h hl hs hR
    | exact g_un h hl hs hR
    | exact g_goto h hl hs hR
    | exact g_if2 h hl hs hR
    | exact g_if1 h hl hs hR
    | exact g_tsw h hl hs hR
    | exact g_lsw h hl hs hR
    | exact g_get h hl hs hR
    | exact g_put h hl hs hR
    | exact g_ald h hl hs hR
    | exact g_aldR h hl hs hR
    | exact g_ast h hl hs hR
    | exact g_len h hl hs hR
    | exact g_dup h hl hs hR
    | exact g_dup2 h hl hs hR
    | exact g_lal h hl hs hR
    | (split at h; exact g_fil h hl hs hR; cases h; done)
    | exact g_pop h hl hs hR
    | exact g_new h hl hs hR
    | exact g_newa h hl hs hR
    | exact g_mna h hl hs hR
    | exact g_jS h hl hs hR
    | exact g_jV h hl hs hR
    | exact g_jI h hl hs hR
    | (split at h
       · exact g_pushI h hl hs hR
       · first
         | (cases h; done)
         | (split at h
            · cases h; exact ⟨hl, gs_c.mpr ⟨by intro c; exact absurd (Sum.inr.inj c) (by decide), hs⟩, hR, gK_r _⟩
            · cases h))
end GK
