-- calls as goals, by the methods' numbers
section XY
variable {d mid pc own n na m c : Nat} {ls ls2 : ZL} {t : List AV} {sh : ZS} {R : ZR} {I : ZI} {Q : Option AV → ZW → Prop} {o y i bc bs : Nat} {as : List AV}
theorem zq3 {a b c : Bool} (h : (a && b && c) = true) : a = true ∧ b = true ∧ c = true := by simpa [and_assoc] using h
theorem zq4 {a b c e : Bool} (h : (a && b && c && e) = true) : a = true ∧ b = true ∧ c = true ∧ e = true := by simpa [and_assoc] using h
theorem y_inv (hy : zA y = na ∧ zMc y = (0, 0) ∧ zL y = m ∧ zO y = c) (hd : decode (zB mid) pc = .ok (.invokevirtual i, 3)) (ho : zO mid = own) (hM : zM own i = some (0, y)) (hA : as.length = na) (hs : sh o = (10 + c, zNf c)) (hq : (decide (c < 13) && decide (t.length ≤ 8) && decide (as.length + 1 ≤ m) && decide (m ≤ 20)) = true) (hloc : (Sum.inr o :: as : List AV).map some ++ List.replicate (m - (as.length + 1)) none = ls2)
    (kk : Ex d y 0 ls2 [] (0, 0, n, sh, R, I) (fun r w2 => Ex (d + 1) mid (pc + 3) ls (r.toList ++ t) (zpurse w2 (bc, bs)) Q)) : Ex (d + 1) mid pc ls (as.reverse ++ .inr o :: t) (bc, bs, n, sh, R, I) Q := by
  obtain ⟨h1, h2, h3, h4⟩ := hy
  obtain ⟨q1, q2, q3, q4⟩ := zq4 hq
  exact x_inv hd ho hM (h1.trans hA.symm) (by rw [h4]; exact hs) (by rw [h4]; exact of_decide_eq_true q1) (of_decide_eq_true q2) h2 (by rw [h3]; exact ⟨of_decide_eq_true q3, of_decide_eq_true q4⟩) ((zloc_eq h3).trans hloc) kk
theorem y_ins (hy : zA y = na ∧ zMc y = (0, 0) ∧ zL y = m ∧ zO y = c) (hd : decode (zB mid) pc = .ok (.invokestatic i, 3)) (ho : zO mid = own) (hM : zM own i = some (4, y)) (hA : as.length = na) (hq : (decide (t.length ≤ 8) && decide (as.length ≤ m) && decide (m ≤ 20)) = true) (hloc : as.map some ++ List.replicate (m - as.length) none = ls2)
    (kk : Ex d y 0 ls2 [] (0, 0, n, sh, R, I) (fun r w2 => Ex (d + 1) mid (pc + 3) ls (r.toList ++ t) (zpurse w2 (bc, bs)) Q)) : Ex (d + 1) mid pc ls (as.reverse ++ t) (bc, bs, n, sh, R, I) Q := by
  obtain ⟨h1, h2, h3, h4⟩ := hy
  obtain ⟨q2, q3, q4⟩ := zq3 hq
  exact x_ins hd ho hM (h1.trans hA.symm) (of_decide_eq_true q2) h2 (by rw [h3]; exact ⟨of_decide_eq_true q3, of_decide_eq_true q4⟩) ((zloc_eq h3).trans hloc) kk
theorem y_invI {P : Int → ZI → Prop} (hy : zA y = na ∧ zMc y = (0, 0) ∧ zL y = m ∧ zO y = c) (hd : decode (zB mid) pc = .ok (.invokevirtual i, 3)) (ho : zO mid = own) (hM : zM own i = some (0, y)) (hA : as.length = na) (hs : sh o = (10 + c, zNf c)) (hq : (decide (c < 13) && decide (t.length ≤ 8) && decide (as.length + 1 ≤ m) && decide (m ≤ 20)) = true)
    (k : XI d y (.inr o :: as) n sh R I P) (kk : ∀ v I', P v I' → Ex (d + 1) mid (pc + 3) ls (.inl v :: t) (bc, bs, n, sh, R, I') Q) : Ex (d + 1) mid pc ls (as.reverse ++ .inr o :: t) (bc, bs, n, sh, R, I) Q := by
  obtain ⟨h1, h2, h3, h4⟩ := hy
  obtain ⟨q1, q2, q3, q4⟩ := zq4 hq
  exact x_invI hd ho hM (h1.trans hA.symm) (by rw [h4]; exact hs) (by rw [h4]; exact of_decide_eq_true q1) (of_decide_eq_true q2) h2 (by rw [h3]; exact ⟨of_decide_eq_true q3, of_decide_eq_true q4⟩) k kk
theorem y_invV {P : ZI → Prop} (hy : zA y = na ∧ zMc y = (0, 0) ∧ zL y = m ∧ zO y = c) (hd : decode (zB mid) pc = .ok (.invokevirtual i, 3)) (ho : zO mid = own) (hM : zM own i = some (0, y)) (hA : as.length = na) (hs : sh o = (10 + c, zNf c)) (hq : (decide (c < 13) && decide (t.length ≤ 8) && decide (as.length + 1 ≤ m) && decide (m ≤ 20)) = true)
    (k : XV d y (.inr o :: as) n sh R I P) (kk : ∀ I', P I' → Ex (d + 1) mid (pc + 3) ls t (bc, bs, n, sh, R, I') Q) : Ex (d + 1) mid pc ls (as.reverse ++ .inr o :: t) (bc, bs, n, sh, R, I) Q := by
  obtain ⟨h1, h2, h3, h4⟩ := hy
  obtain ⟨q1, q2, q3, q4⟩ := zq4 hq
  exact x_invV hd ho hM (h1.trans hA.symm) (by rw [h4]; exact hs) (by rw [h4]; exact of_decide_eq_true q1) (of_decide_eq_true q2) h2 (by rw [h3]; exact ⟨of_decide_eq_true q3, of_decide_eq_true q4⟩) k kk
theorem y_insI {P : Int → ZI → Prop} (hy : zA y = na ∧ zMc y = (0, 0) ∧ zL y = m ∧ zO y = c) (hd : decode (zB mid) pc = .ok (.invokestatic i, 3)) (ho : zO mid = own) (hM : zM own i = some (4, y)) (hA : as.length = na) (hq : (decide (t.length ≤ 8) && decide (as.length ≤ m) && decide (m ≤ 20)) = true)
    (k : XI d y as n sh R I P) (kk : ∀ v I', P v I' → Ex (d + 1) mid (pc + 3) ls (.inl v :: t) (bc, bs, n, sh, R, I') Q) : Ex (d + 1) mid pc ls (as.reverse ++ t) (bc, bs, n, sh, R, I) Q := by
  obtain ⟨h1, h2, h3, h4⟩ := hy
  obtain ⟨q2, q3, q4⟩ := zq3 hq
  exact x_insI hd ho hM (h1.trans hA.symm) (of_decide_eq_true q2) h2 (by rw [h3]; exact ⟨of_decide_eq_true q3, of_decide_eq_true q4⟩) k kk
theorem y_insV {P : ZI → Prop} (hy : zA y = na ∧ zMc y = (0, 0) ∧ zL y = m ∧ zO y = c) (hd : decode (zB mid) pc = .ok (.invokestatic i, 3)) (ho : zO mid = own) (hM : zM own i = some (4, y)) (hA : as.length = na) (hq : (decide (t.length ≤ 8) && decide (as.length ≤ m) && decide (m ≤ 20)) = true)
    (k : XV d y as n sh R I P) (kk : ∀ I', P I' → Ex (d + 1) mid (pc + 3) ls t (bc, bs, n, sh, R, I') Q) : Ex (d + 1) mid pc ls (as.reverse ++ t) (bc, bs, n, sh, R, I) Q := by
  obtain ⟨h1, h2, h3, h4⟩ := hy
  obtain ⟨q2, q3, q4⟩ := zq3 hq
  exact x_insV hd ho hM (h1.trans hA.symm) (of_decide_eq_true q2) h2 (by rw [h3]; exact ⟨of_decide_eq_true q3, of_decide_eq_true q4⟩) k kk
theorem zts_dflt {lo hi dt x : Int} {offs : Array Int} (L : List Int) (h0 : (List.range (hi - lo + 1).toNat).all (fun i => offs[i]? == some dt || L.contains (lo + (i : Int))) = true) (hx : ∀ v ∈ L, ¬ x = v) : (if x < lo ∨ hi < x then some dt else offs[(x - lo).toNat]?) = some dt := by
  by_cases h : x < lo ∨ hi < x
  · rw [if_pos h]
  · rw [if_neg h]
    have h1 := List.all_eq_true.mp h0 (x - lo).toNat (List.mem_range.mpr (by omega))
    simp only [Bool.or_eq_true, beq_iff_eq, List.contains_iff_mem] at h1
    rcases h1 with h1 | h1
    · exact h1
    · exact absurd (by omega) (hx _ h1)
theorem zls_dflt {dt x : Int} {ps : List (Int × Int)} (L : List Int) (h0 : ps.all (fun q => L.contains q.1) = true) (hx : ∀ v ∈ L, ¬ x = v) : Op.lookupswitch.offset ps dt x = dt := by
  induction ps with
  | nil => rfl
  | cons q r ih =>
    obtain ⟨a, o⟩ := q
    simp only [List.all_cons, Bool.and_eq_true, List.contains_iff_mem] at h0
    rw [Op.lookupswitch.offset_cons, if_neg (fun c => hx a h0.1 c.symm)]
    exact ih h0.2
end XY
