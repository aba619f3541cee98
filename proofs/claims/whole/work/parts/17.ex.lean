-- RUNS AS GOALS: a row of the interpreter turns the goal at a row into the goal at the next
def Ex (d mid pc : Nat) (ls : ZL) (st : List AV) (w : ZW) (Q : Option AV → ZW → Prop) : Prop := ∃ f r w2, zrun f d mid pc ls st w = some (r, w2) ∧ Q r w2
theorem Ex.mono {d mid pc : Nat} {ls : ZL} {st : List AV} {w : ZW} {P Q : Option AV → ZW → Prop} (h : Ex d mid pc ls st w P) (hPQ : ∀ r w2, P r w2 → Q r w2) : Ex d mid pc ls st w Q := by
  obtain ⟨f, r, w2, h1, h2⟩ := h
  exact ⟨f, r, w2, h1, hPQ r w2 h2⟩
section XR
variable {d mid pc pc2 len own : Nat} {ls ls2 : ZL} {st st2 t : List AV} {w w2 : ZW} {Q : Option AV → ZW → Prop} {ins : Instr}
theorem Ex.step (hd : decode (zB mid) pc = .ok (ins, len)) (hk : zlk ins len = true) (hr : zret mid ins st = none) (hc : zcall mid ins st w = none) (hs : zstep mid pc ins ls st w = some (pc2, ls2, st2, w2)) (k : Ex d mid pc2 ls2 st2 w2 Q) : Ex d mid pc ls st w Q := by
  obtain ⟨f, r, w3, h1, h2⟩ := k
  refine ⟨f + 1, r, w3, ?_, h2⟩
  unfold zrun
  rw [hd]
  dsimp only
  rw [hk, if_neg (by decide), hr]
  dsimp only
  rw [hc]
  dsimp only
  rw [hs]
  exact h1
theorem Ex.ret {r : Option AV} (hd : decode (zB mid) pc = .ok (ins, len)) (hk : zlk ins len = true) (hr : zret mid ins st = some r) (k : Q r w) : Ex d mid pc ls st w Q := by
  refine ⟨1, r, w, ?_, k⟩
  unfold zrun
  rw [hd]
  dsimp only
  rw [hk, if_neg (by decide), hr]
theorem Ex.call {y : Nat} {as : List AV} (hd : decode (zB mid) pc = .ok (ins, len)) (hk : zlk ins len = true) (hr : zret mid ins st = none) (hc : zcall mid ins st w = some (y, as, t)) (hb : (zMc y).1 ≤ w.1 ∧ (zMc y).2 ≤ w.2.1 ∧ as.length ≤ zL y ∧ zL y ≤ 20)
    (k : Ex d y 0 (zloc y as) [] (zpurse w (zMc y)) (fun r w2 => Ex (d + 1) mid (pc + 3) ls (r.toList ++ t) (zpurse w2 (w.1 - (zMc y).1, w.2.1 - (zMc y).2)) Q)) : Ex (d + 1) mid pc ls st w Q := by
  obtain ⟨f, r, w3, h1, f2, r2, w4, h3, h4⟩ := k
  refine ⟨f + f2 + 1, r2, w4, ?_, h4⟩
  unfold zrun
  rw [hd]
  dsimp only
  rw [hk, if_neg (by decide), hr]
  dsimp only
  rw [hc]
  dsimp only
  rw [if_pos hb, zrun_mono f h1 (f + f2) (by omega)]
  exact zrun_mono f2 h3 (f + f2) (by omega)
theorem x_iconst {n : Int} (hd : decode (zB mid) pc = .ok (.iconst n, 1)) (h : zrb n = true) (k : Ex d mid (pc + 1) ls (.inl n :: st) w Q) : Ex d mid pc ls st w Q := Ex.step hd rfl rfl rfl (by show zpushI (zrb n) 1 n pc ls st w = _; unfold zpushI; rw [h]; rfl) k
theorem x_bipush {n : Int} (hd : decode (zB mid) pc = .ok (.bipush n, 2)) (h : (decide (-128 ≤ n) && decide (n < 128)) = true) (k : Ex d mid (pc + 2) ls (.inl n :: st) w Q) : Ex d mid pc ls st w Q := Ex.step hd rfl rfl rfl (by show zpushI (decide (-128 ≤ n) && decide (n < 128)) 2 n pc ls st w = _; unfold zpushI; rw [h]; rfl) k
theorem x_sipush {n : Int} (hd : decode (zB mid) pc = .ok (.sipush n, 3)) (h : (decide (-32768 ≤ n) && decide (n < 32768)) = true) (k : Ex d mid (pc + 3) ls (.inl n :: st) w Q) : Ex d mid pc ls st w Q := Ex.step hd rfl rfl rfl (by show zpushI (decide (-32768 ≤ n) && decide (n < 32768)) 3 n pc ls st w = _; unfold zpushI; rw [h]; rfl) k
theorem x_ldc {i : Nat} {n : Int} (hd : decode (zB mid) pc = .ok (.ldc i, 2)) (ho : zO mid = own) (hv : zK own i = some n) (h : zrb n = true) (k : Ex d mid (pc + 2) ls (.inl n :: st) w Q) : Ex d mid pc ls st w Q := Ex.step hd rfl rfl rfl (by
  show (match zK (zO mid) i with
    | some v => zpushI (zrb v) 2 v pc ls st w
    | none => if zSt (zO mid) i = true ∧ (w.2.2.2.1 zSx).1 = 4 then some (pc + 2, ls, .inr zSx :: st, w) else none) = _
  rw [ho, hv]; dsimp only; unfold zpushI; rw [h]; rfl) k
theorem x_ldcw {i : Nat} {n : Int} (hd : decode (zB mid) pc = .ok (.ldc_w i, 3)) (ho : zO mid = own) (hv : zK own i = some n) (h : zrb n = true) (k : Ex d mid (pc + 3) ls (.inl n :: st) w Q) : Ex d mid pc ls st w Q := Ex.step hd rfl rfl rfl (by
  show (match zK (zO mid) i with
    | some v => zpushI (zrb v) 3 v pc ls st w
    | none => none) = _
  rw [ho, hv]; dsimp only; unfold zpushI; rw [h]; rfl) k
theorem x_ldcS {i : Nat} (hd : decode (zB mid) pc = .ok (.ldc i, 2)) (ho : zO mid = own) (hv : zK own i = none) (h : zSt own i = true) (h4 : (w.2.2.2.1 zSx).1 = 4) (k : Ex d mid (pc + 2) ls (.inr zSx :: st) w Q) : Ex d mid pc ls st w Q := Ex.step hd rfl rfl rfl (by
  show (match zK (zO mid) i with
    | some v => zpushI (zrb v) 2 v pc ls st w
    | none => if zSt (zO mid) i = true ∧ (w.2.2.2.1 zSx).1 = 4 then some (pc + 2, ls, .inr zSx :: st, w) else none) = _
  rw [ho, hv]; dsimp only; rw [if_pos ⟨h, h4⟩]) k
theorem x_iload {i : Nat} {x : Int} (hd : decode (zB mid) pc = .ok (.iload i, 2)) (h : ls[i]? = some (some (.inl x))) (k : Ex d mid (pc + 2) ls (.inl x :: st) w Q) : Ex d mid pc ls st w Q := Ex.step hd rfl rfl rfl (by show ziload i 2 pc ls st w = _; unfold ziload; rw [h]) k
theorem x_iload_n {i : Fin 4} {x : Int} (hd : decode (zB mid) pc = .ok (.iload_n i, 1)) (h : ls[i.val]? = some (some (.inl x))) (k : Ex d mid (pc + 1) ls (.inl x :: st) w Q) : Ex d mid pc ls st w Q := Ex.step hd rfl rfl rfl (by show ziload i.val 1 pc ls st w = _; unfold ziload; rw [h]) k
theorem x_aload {i : Nat} {x : Nat} (hd : decode (zB mid) pc = .ok (.aload i, 2)) (h : ls[i]? = some (some (.inr x))) (k : Ex d mid (pc + 2) ls (.inr x :: st) w Q) : Ex d mid pc ls st w Q := Ex.step hd rfl rfl rfl (by show zaload i 2 pc ls st w = _; unfold zaload; rw [h]) k
theorem x_aload_n {i : Fin 4} {x : Nat} (hd : decode (zB mid) pc = .ok (.aload_n i, 1)) (h : ls[i.val]? = some (some (.inr x))) (k : Ex d mid (pc + 1) ls (.inr x :: st) w Q) : Ex d mid pc ls st w Q := Ex.step hd rfl rfl rfl (by show zaload i.val 1 pc ls st w = _; unfold zaload; rw [h]) k
theorem x_istore {i : Nat} {x : Int} (hd : decode (zB mid) pc = .ok (.istore i, 2)) (h : decide (i < ls.length) = true) (hl : ls.set i (some (.inl x)) = ls2) (k : Ex d mid (pc + 2) ls2 t w Q) : Ex d mid pc ls (.inl x :: t) w Q := Ex.step hd rfl rfl rfl (by show zistore i 2 pc ls (.inl x :: t) w = _; unfold zistore; dsimp only; rw [if_pos (of_decide_eq_true h), hl]) k
theorem x_istore_n {i : Fin 4} {x : Int} (hd : decode (zB mid) pc = .ok (.istore_n i, 1)) (h : decide (i.val < ls.length) = true) (hl : ls.set i.val (some (.inl x)) = ls2) (k : Ex d mid (pc + 1) ls2 t w Q) : Ex d mid pc ls (.inl x :: t) w Q := Ex.step hd rfl rfl rfl (by show zistore i.val 1 pc ls (.inl x :: t) w = _; unfold zistore; dsimp only; rw [if_pos (of_decide_eq_true h), hl]) k
theorem x_astore {i : Nat} {x : Nat} (hd : decode (zB mid) pc = .ok (.astore i, 2)) (h : decide (i < ls.length) = true) (hl : ls.set i (some (.inr x)) = ls2) (k : Ex d mid (pc + 2) ls2 t w Q) : Ex d mid pc ls (.inr x :: t) w Q := Ex.step hd rfl rfl rfl (by show zastore i 2 pc ls (.inr x :: t) w = _; unfold zastore; dsimp only; rw [if_pos (of_decide_eq_true h), hl]) k
theorem x_astore_n {i : Fin 4} {x : Nat} (hd : decode (zB mid) pc = .ok (.astore_n i, 1)) (h : decide (i.val < ls.length) = true) (hl : ls.set i.val (some (.inr x)) = ls2) (k : Ex d mid (pc + 1) ls2 t w Q) : Ex d mid pc ls (.inr x :: t) w Q := Ex.step hd rfl rfl rfl (by show zastore i.val 1 pc ls (.inr x :: t) w = _; unfold zastore; dsimp only; rw [if_pos (of_decide_eq_true h), hl]) k
theorem x_iincW {i : Nat} {n x : Int} (hd : decode (zB mid) pc = .ok (.iinc i n, 3)) (h : ls[i]? = some (some (.inl x))) (hl : ls.set i (some (.inl (zw (x + n)))) = ls2) (k : Ex d mid (pc + 3) ls2 st w Q) : Ex d mid pc ls st w Q := Ex.step hd rfl rfl rfl (by show ziinc i n pc ls st w = _; unfold ziinc; rw [h]; dsimp only; rw [hl]) k
theorem x_iinc {i : Nat} {n x : Int} (hd : decode (zB mid) pc = .ok (.iinc i n, 3)) (h : ls[i]? = some (some (.inl x))) (hz : zr (x + n)) (hl : ls.set i (some (.inl (x + n))) = ls2) (k : Ex d mid (pc + 3) ls2 st w Q) : Ex d mid pc ls st w Q := x_iincW hd h (by rw [zw_id hz]; exact hl) k
theorem x_iaddW {a b : Int} (hd : decode (zB mid) pc = .ok (.iadd, 1)) (k : Ex d mid (pc + 1) ls (.inl (zw (a + b)) :: t) w Q) : Ex d mid pc ls (.inl b :: .inl a :: t) w Q := Ex.step hd rfl rfl rfl rfl k
theorem x_isubW {a b : Int} (hd : decode (zB mid) pc = .ok (.isub, 1)) (k : Ex d mid (pc + 1) ls (.inl (zw (a - b)) :: t) w Q) : Ex d mid pc ls (.inl b :: .inl a :: t) w Q := Ex.step hd rfl rfl rfl rfl k
theorem x_imulW {a b : Int} (hd : decode (zB mid) pc = .ok (.imul, 1)) (k : Ex d mid (pc + 1) ls (.inl (zw (a * b)) :: t) w Q) : Ex d mid pc ls (.inl b :: .inl a :: t) w Q := Ex.step hd rfl rfl rfl rfl k
theorem x_iadd {a b : Int} (hd : decode (zB mid) pc = .ok (.iadd, 1)) (hz : zr (a + b)) (k : Ex d mid (pc + 1) ls (.inl (a + b) :: t) w Q) : Ex d mid pc ls (.inl b :: .inl a :: t) w Q := x_iaddW hd (by rw [zw_id hz]; exact k)
theorem x_isub {a b : Int} (hd : decode (zB mid) pc = .ok (.isub, 1)) (hz : zr (a - b)) (k : Ex d mid (pc + 1) ls (.inl (a - b) :: t) w Q) : Ex d mid pc ls (.inl b :: .inl a :: t) w Q := x_isubW hd (by rw [zw_id hz]; exact k)
theorem x_imul {a b : Int} (hd : decode (zB mid) pc = .ok (.imul, 1)) (hz : zr (a * b)) (k : Ex d mid (pc + 1) ls (.inl (a * b) :: t) w Q) : Ex d mid pc ls (.inl b :: .inl a :: t) w Q := x_imulW hd (by rw [zw_id hz]; exact k)
theorem x_iand {a b : Int} (hd : decode (zB mid) pc = .ok (.iand, 1)) (k : Ex d mid (pc + 1) ls (.inl (zand a b) :: t) w Q) : Ex d mid pc ls (.inl b :: .inl a :: t) w Q := Ex.step hd rfl rfl rfl rfl k
theorem x_ior {a b : Int} (hd : decode (zB mid) pc = .ok (.ior, 1)) (k : Ex d mid (pc + 1) ls (.inl (zor a b) :: t) w Q) : Ex d mid pc ls (.inl b :: .inl a :: t) w Q := Ex.step hd rfl rfl rfl rfl k
theorem x_ishl {a b : Int} (hd : decode (zB mid) pc = .ok (.ishl, 1)) (k : Ex d mid (pc + 1) ls (.inl (zshl a b) :: t) w Q) : Ex d mid pc ls (.inl b :: .inl a :: t) w Q := Ex.step hd rfl rfl rfl rfl k
theorem x_ishr {a b : Int} (hd : decode (zB mid) pc = .ok (.ishr, 1)) (k : Ex d mid (pc + 1) ls (.inl (zshr a b) :: t) w Q) : Ex d mid pc ls (.inl b :: .inl a :: t) w Q := Ex.step hd rfl rfl rfl rfl k
theorem x_idivW {a b : Int} (hd : decode (zB mid) pc = .ok (.idiv, 1)) (h0 : ¬ b = 0) (k : Ex d mid (pc + 1) ls (.inl (zw (a.tdiv b)) :: t) w Q) : Ex d mid pc ls (.inl b :: .inl a :: t) w Q := Ex.step hd rfl rfl rfl (by show zdiv (fun a b => zw (a.tdiv b)) pc ls (.inl b :: .inl a :: t) w = _; unfold zdiv; dsimp only; rw [if_neg h0]) k
theorem x_iremW {a b : Int} (hd : decode (zB mid) pc = .ok (.irem, 1)) (h0 : ¬ b = 0) (k : Ex d mid (pc + 1) ls (.inl (a.tmod b) :: t) w Q) : Ex d mid pc ls (.inl b :: .inl a :: t) w Q := Ex.step hd rfl rfl rfl (by show zdiv (fun a b => a.tmod b) pc ls (.inl b :: .inl a :: t) w = _; unfold zdiv; dsimp only; rw [if_neg h0]) k
theorem x_idiv {a b : Int} (hd : decode (zB mid) pc = .ok (.idiv, 1)) (ha : 0 ≤ a ∧ a < 2147483648) (hb : 0 < b) (k : Ex d mid (pc + 1) ls (.inl (a / b) :: t) w Q) : Ex d mid pc ls (.inl b :: .inl a :: t) w Q := x_idivW hd (by omega) (by
  have e : a.tdiv b = a / b := Int.tdiv_eq_ediv_of_nonneg ha.1
  have h1 : 0 ≤ a / b := Int.ediv_nonneg ha.1 (by omega)
  have h2 : a / b ≤ a := Int.ediv_le_self _ ha.1
  rw [e, zw_id (by unfold zr; omega)]; exact k)
theorem x_irem {a b : Int} (hd : decode (zB mid) pc = .ok (.irem, 1)) (ha : 0 ≤ a) (hb : 0 < b) (k : Ex d mid (pc + 1) ls (.inl (a % b) :: t) w Q) : Ex d mid pc ls (.inl b :: .inl a :: t) w Q := x_iremW hd (by omega) (by
  have e : a.tmod b = a % b := Int.tmod_eq_emod_of_nonneg ha
  rw [e]; exact k)
theorem x_i2b {a : Int} (hd : decode (zB mid) pc = .ok (.i2b, 1)) (k : Ex d mid (pc + 1) ls (.inl (zi2b a) :: t) w Q) : Ex d mid pc ls (.inl a :: t) w Q := Ex.step hd rfl rfl rfl rfl k
theorem x_i2c {a : Int} (hd : decode (zB mid) pc = .ok (.i2c, 1)) (k : Ex d mid (pc + 1) ls (.inl (zi2c a) :: t) w Q) : Ex d mid pc ls (.inl a :: t) w Q := Ex.step hd rfl rfl rfl rfl k
theorem x_goto {off : Int} (hd : decode (zB mid) pc = .ok (.goto off, 3)) (hp : zbr pc off = some pc2) (k : Ex d mid pc2 ls st w Q) : Ex d mid pc ls st w Q := Ex.step hd rfl rfl rfl (by show zgoto pc off ls st w = _; unfold zgoto; rw [hp]) k
theorem x_if2 {cd : ClassFile.Cond} {off a b : Int} (hd : decode (zB mid) pc = .ok (.if_icmp cd off, 3)) (hp : zbr pc off = some pc2) (k1 : zcond cd a b → Ex d mid pc2 ls t w Q) (k2 : ¬ zcond cd a b → Ex d mid (pc + 3) ls t w Q) : Ex d mid pc ls (.inl b :: .inl a :: t) w Q := by
  by_cases h : zcond cd a b
  · exact Ex.step hd rfl rfl rfl (by show zif2 cd off pc ls (.inl b :: .inl a :: t) w = _; unfold zif2; dsimp only; rw [hp]; dsimp only; rw [if_pos (zcb_iff.mpr h)]) (k1 h)
  · exact Ex.step hd rfl rfl rfl (by show zif2 cd off pc ls (.inl b :: .inl a :: t) w = _; unfold zif2; dsimp only; rw [hp]; dsimp only; rw [if_neg (fun q => h (zcb_iff.mp q))]) (k2 h)
theorem x_if1 {cd : ClassFile.Cond} {off a : Int} (hd : decode (zB mid) pc = .ok (.ifCond cd off, 3)) (hp : zbr pc off = some pc2) (k1 : zcond cd a 0 → Ex d mid pc2 ls t w Q) (k2 : ¬ zcond cd a 0 → Ex d mid (pc + 3) ls t w Q) : Ex d mid pc ls (.inl a :: t) w Q := by
  by_cases h : zcond cd a 0
  · exact Ex.step hd rfl rfl rfl (by show zif1 cd off pc ls (.inl a :: t) w = _; unfold zif1; dsimp only; rw [hp]; dsimp only; rw [if_pos (zcb_iff.mpr h)]) (k1 h)
  · exact Ex.step hd rfl rfl rfl (by show zif1 cd off pc ls (.inl a :: t) w = _; unfold zif1; dsimp only; rw [hp]; dsimp only; rw [if_neg (fun q => h (zcb_iff.mp q))]) (k2 h)
theorem x_dup {v : AV} (hd : decode (zB mid) pc = .ok (.dup, 1)) (k : Ex d mid (pc + 1) ls (v :: v :: t) w Q) : Ex d mid pc ls (v :: t) w Q := Ex.step hd rfl rfl rfl rfl k
theorem x_dup2 {u v : AV} (hd : decode (zB mid) pc = .ok (.dup2, 1)) (k : Ex d mid (pc + 1) ls (v :: u :: v :: u :: t) w Q) : Ex d mid pc ls (v :: u :: t) w Q := Ex.step hd rfl rfl rfl rfl k
theorem x_pop {v : AV} (hd : decode (zB mid) pc = .ok (.pop, 1)) (k : Ex d mid (pc + 1) ls t w Q) : Ex d mid pc ls (v :: t) w Q := Ex.step hd rfl rfl rfl rfl k
/-- a tableswitch: one of its cases, or none -/
theorem x_tsw {dt lo hi x : Int} {offs : Array Int} (hd : decode (zB mid) pc = .ok (.tableswitch dt lo hi offs, len)) {off : Int} (h : (if x < lo ∨ hi < x then some dt else offs[(x - lo).toNat]?) = some off) (hp : zbr pc off = some pc2) (k : Ex d mid pc2 ls t w Q) : Ex d mid pc ls (.inl x :: t) w Q := Ex.step hd rfl rfl rfl (by
  show ztsw dt lo hi offs pc ls (.inl x :: t) w = _
  unfold ztsw
  dsimp only
  split at h
  · rename_i h1
    cases h
    rw [if_pos h1]; unfold zgoto; rw [hp]
  · rename_i h1
    rw [if_neg h1, h]; dsimp only; unfold zgoto; rw [hp]) k
theorem x_lsw {dt x : Int} {ps : Array (Int × Int)} (hd : decode (zB mid) pc = .ok (.lookupswitch dt ps, len)) (hs : (ps.toList.zip (ps.toList.drop 1)).all (fun (a, next) => a.1 < next.1) = true) {off : Int} (h : Op.lookupswitch.offset ps.toList dt x = off) (hp : zbr pc off = some pc2) (k : Ex d mid pc2 ls t w Q) : Ex d mid pc ls (.inl x :: t) w Q := Ex.step hd rfl rfl rfl (by
  show zlsw dt ps pc ls (.inl x :: t) w = _
  unfold zlsw
  dsimp only
  rw [if_pos hs, h]; unfold zgoto; rw [hp]) k
theorem x_iret {v : Int} (hd : decode (zB mid) pc = .ok (.ireturn, 1)) (ht : zRt mid = some .int) (k : Q (some (.inl v)) w) : Ex d mid pc ls [.inl v] w Q := Ex.ret hd rfl (by unfold zret; rw [ht]) k
theorem x_zret {v : Int} (hd : decode (zB mid) pc = .ok (.ireturn, 1)) (ht : zRt mid = some .boolean) (h : v = 0 ∨ v = 1) (k : Q (some (.inl v)) w) : Ex d mid pc ls [.inl v] w Q := Ex.ret hd rfl (by unfold zret; rw [ht]; dsimp only; rw [if_pos h]) k
theorem x_vret (hd : decode (zB mid) pc = .ok (.return_, 1)) (ht : zRt mid = none) (k : Q none w) : Ex d mid pc ls [] w Q := Ex.ret hd rfl (by unfold zret; rw [ht]) k
theorem x_aret {r : Nat} {nm : String} (hd : decode (zB mid) pc = .ok (.areturn, 1)) (ht : zRt mid = some (.object nm)) (k : Q (some (.inr r)) w) : Ex d mid pc ls [.inr r] w Q := Ex.ret hd rfl (by unfold zret; rw [ht]) k
end XR
/-- the world of a run between the calls: nothing is made any more -/
abbrev zWc (n : Nat) (sh : ZS) (R : ZR) (I : ZI) : ZW := (0, 0, n, sh, R, I)
section XH
variable {d mid pc pc2 len own n : Nat} {ls ls2 : ZL} {st st2 t : List AV} {sh : ZS} {R : ZR} {I : ZI} {Q : Option AV → ZW → Prop} {ci k o : Nat} {bc bs : Nat}
theorem x_getI {i : Nat} (hd : decode (zB mid) pc = .ok (.getfield i, 3)) (ho : zO mid = own) (hf : zF own i = some (ci, k)) (ht : zIsR (zTy ci k) = false) (hs : sh o = (10 + ci, zNf ci)) (kk : Ex d mid (pc + 3) ls (.inl (I o k) :: t) (bc, bs, n, sh, R, I) Q) : Ex d mid pc ls (.inr o :: t) (bc, bs, n, sh, R, I) Q := Ex.step hd rfl rfl rfl (by
  show zget (zO mid) i pc ls (.inr o :: t) (bc, bs, n, sh, R, I) = _
  unfold zget
  rw [ho, hf]
  dsimp only
  rw [if_pos hs, ht, if_neg (by decide)]) kk
theorem x_getR {i r : Nat} (hd : decode (zB mid) pc = .ok (.getfield i, 3)) (ho : zO mid = own) (hf : zF own i = some (ci, k)) (ht : zIsR (zTy ci k) = true) (hs : sh o = (10 + ci, zNf ci)) (hR : R o k = r) (h0 : ¬ r = 0) (kk : Ex d mid (pc + 3) ls (.inr r :: t) (bc, bs, n, sh, R, I) Q) : Ex d mid pc ls (.inr o :: t) (bc, bs, n, sh, R, I) Q := Ex.step hd rfl rfl rfl (by
  show zget (zO mid) i pc ls (.inr o :: t) (bc, bs, n, sh, R, I) = _
  unfold zget
  rw [ho, hf]
  dsimp only
  rw [if_pos hs, ht, if_pos rfl, if_neg (by rw [hR]; exact h0), hR]) kk
theorem x_putI {i : Nat} {x : Int} (hd : decode (zB mid) pc = .ok (.putfield i, 3)) (ho : zO mid = own) (hf : zF own i = some (ci, k)) (ht : zTy ci k = .int) (hfi : zfin mid ci k = true) (hs : sh o = (10 + ci, zNf ci)) (kk : Ex d mid (pc + 3) ls t (bc, bs, n, sh, R, zup I o k x) Q) : Ex d mid pc ls (.inl x :: .inr o :: t) (bc, bs, n, sh, R, I) Q := Ex.step hd rfl rfl rfl (by
  show zput mid i pc ls (.inl x :: .inr o :: t) (bc, bs, n, sh, R, I) = _
  unfold zput
  rw [ho, hf]
  dsimp only
  rw [if_pos ⟨hs, hfi⟩, ht]
  rfl) kk
theorem x_putZ {i : Nat} {x : Int} (hd : decode (zB mid) pc = .ok (.putfield i, 3)) (ho : zO mid = own) (hf : zF own i = some (ci, k)) (ht : zTy ci k = .boolean) (hfi : zfin mid ci k = true) (hs : sh o = (10 + ci, zNf ci)) (hx : x = 0 ∨ x = 1) (kk : Ex d mid (pc + 3) ls t (bc, bs, n, sh, R, zup I o k x) Q) : Ex d mid pc ls (.inl x :: .inr o :: t) (bc, bs, n, sh, R, I) Q := Ex.step hd rfl rfl rfl (by
  show zput mid i pc ls (.inl x :: .inr o :: t) (bc, bs, n, sh, R, I) = _
  unfold zput
  rw [ho, hf]
  dsimp only
  rw [if_pos ⟨hs, hfi⟩, ht]
  dsimp only
  rw [if_pos hx]
  rfl) kk
theorem x_putO {i r : Nat} {nm : String} (hd : decode (zB mid) pc = .ok (.putfield i, 3)) (ho : zO mid = own) (hf : zF own i = some (ci, k)) (ht : zTy ci k = .object nm) (hfi : zfin mid ci k = true) (hs : sh o = (10 + ci, zNf ci)) (kk : Ex d mid (pc + 3) ls t (bc, bs, n, sh, zup R o k r, I) Q) : Ex d mid pc ls (.inr r :: .inr o :: t) (bc, bs, n, sh, R, I) Q := Ex.step hd rfl rfl rfl (by
  show zput mid i pc ls (.inr r :: .inr o :: t) (bc, bs, n, sh, R, I) = _
  unfold zput
  rw [ho, hf]
  dsimp only
  rw [if_pos ⟨hs, hfi⟩, ht]
  rfl) kk
theorem x_putA {i r : Nat} {ty : FieldType} (hd : decode (zB mid) pc = .ok (.putfield i, 3)) (ho : zO mid = own) (hf : zF own i = some (ci, k)) (ht : zTy ci k = .array ty) (hfi : zfin mid ci k = true) (hs : sh o = (10 + ci, zNf ci)) (kk : Ex d mid (pc + 3) ls t (bc, bs, n, sh, zup R o k r, I) Q) : Ex d mid pc ls (.inr r :: .inr o :: t) (bc, bs, n, sh, R, I) Q := Ex.step hd rfl rfl rfl (by
  show zput mid i pc ls (.inr r :: .inr o :: t) (bc, bs, n, sh, R, I) = _
  unfold zput
  rw [ho, hf]
  dsimp only
  rw [if_pos ⟨hs, hfi⟩, ht]
  rfl) kk
theorem x_iald {r ln : Nat} {j : Int} (hd : decode (zB mid) pc = .ok (.iaload, 1)) (hs : sh r = (0, ln)) (h0 : 0 ≤ j) (h1 : j < (ln : Int)) (kk : Ex d mid (pc + 1) ls (.inl (I r j.toNat) :: t) (bc, bs, n, sh, R, I) Q) : Ex d mid pc ls (.inl j :: .inr r :: t) (bc, bs, n, sh, R, I) Q := Ex.step hd rfl rfl rfl (by
  show zald 0 pc ls (.inl j :: .inr r :: t) (bc, bs, n, sh, R, I) = _
  unfold zald
  dsimp only
  rw [if_pos ⟨Or.inl (by rw [hs]), h0, by rw [hs]; exact h1⟩]) kk
theorem x_sald {r ln : Nat} {j : Int} (hd : decode (zB mid) pc = .ok (.iaload, 1)) (hs : sh r = (3, ln)) (h0 : 0 ≤ j) (h1 : j < (ln : Int)) (kk : Ex d mid (pc + 1) ls (.inl (I r j.toNat) :: t) (bc, bs, n, sh, R, I) Q) : Ex d mid pc ls (.inl j :: .inr r :: t) (bc, bs, n, sh, R, I) Q := Ex.step hd rfl rfl rfl (by
  show zald 0 pc ls (.inl j :: .inr r :: t) (bc, bs, n, sh, R, I) = _
  unfold zald
  dsimp only
  rw [if_pos ⟨Or.inr ⟨by rw [hs], rfl⟩, h0, by rw [hs]; exact h1⟩]) kk
theorem x_bald {r ln : Nat} {j : Int} (hd : decode (zB mid) pc = .ok (.baload, 1)) (hs : sh r = (1, ln)) (h0 : 0 ≤ j) (h1 : j < (ln : Int)) (kk : Ex d mid (pc + 1) ls (.inl (I r j.toNat) :: t) (bc, bs, n, sh, R, I) Q) : Ex d mid pc ls (.inl j :: .inr r :: t) (bc, bs, n, sh, R, I) Q := Ex.step hd rfl rfl rfl (by
  show zald 1 pc ls (.inl j :: .inr r :: t) (bc, bs, n, sh, R, I) = _
  unfold zald
  dsimp only
  rw [if_pos ⟨Or.inl (by rw [hs]), h0, by rw [hs]; exact h1⟩]) kk
theorem x_aald {r ln q : Nat} {j : Int} (hd : decode (zB mid) pc = .ok (.aaload, 1)) (hs : sh r = (2, ln)) (h0 : 0 ≤ j) (h1 : j < (ln : Int)) (hR : R r j.toNat = q) (hq : ¬ q = 0) (kk : Ex d mid (pc + 1) ls (.inr q :: t) (bc, bs, n, sh, R, I) Q) : Ex d mid pc ls (.inl j :: .inr r :: t) (bc, bs, n, sh, R, I) Q := Ex.step hd rfl rfl rfl (by
  show zaldR pc ls (.inl j :: .inr r :: t) (bc, bs, n, sh, R, I) = _
  unfold zaldR
  dsimp only
  rw [if_pos ⟨by rw [hs], h0, by rw [hs]; exact h1, by rw [hR]; exact hq⟩, hR]) kk
theorem x_iast {r ln : Nat} {j x : Int} (hd : decode (zB mid) pc = .ok (.iastore, 1)) (hs : sh r = (0, ln)) (h0 : 0 ≤ j) (h1 : j < (ln : Int)) (kk : Ex d mid (pc + 1) ls t (bc, bs, n, sh, R, zup I r j.toNat x) Q) : Ex d mid pc ls (.inl x :: .inl j :: .inr r :: t) (bc, bs, n, sh, R, I) Q := Ex.step hd rfl rfl rfl (by
  show zast 0 (fun x => x) pc ls (.inl x :: .inl j :: .inr r :: t) (bc, bs, n, sh, R, I) = _
  unfold zast
  dsimp only
  rw [if_pos ⟨by rw [hs], h0, by rw [hs]; exact h1⟩]
  rfl) kk
theorem x_bast {r ln : Nat} {j x : Int} (hd : decode (zB mid) pc = .ok (.bastore, 1)) (hs : sh r = (1, ln)) (h0 : 0 ≤ j) (h1 : j < (ln : Int)) (kk : Ex d mid (pc + 1) ls t (bc, bs, n, sh, R, zup I r j.toNat (zi2b x)) Q) : Ex d mid pc ls (.inl x :: .inl j :: .inr r :: t) (bc, bs, n, sh, R, I) Q := Ex.step hd rfl rfl rfl (by
  show zast 1 zi2b pc ls (.inl x :: .inl j :: .inr r :: t) (bc, bs, n, sh, R, I) = _
  unfold zast
  dsimp only
  rw [if_pos ⟨by rw [hs], h0, by rw [hs]; exact h1⟩]
  rfl) kk
theorem x_alen {r ln kd : Nat} (hd : decode (zB mid) pc = .ok (.arraylength, 1)) (hs : sh r = (kd, ln)) (hk : kd < 4) (kk : Ex d mid (pc + 1) ls (.inl (ln : Int) :: t) (bc, bs, n, sh, R, I) Q) : Ex d mid pc ls (.inr r :: t) (bc, bs, n, sh, R, I) Q := Ex.step hd rfl rfl rfl (by
  show zlen pc ls (.inr r :: t) (bc, bs, n, sh, R, I) = _
  unfold zlen
  dsimp only
  rw [if_pos (by rw [hs]; exact hk), hs]) kk
/-- longs -/
theorem x_lr {i r ln : Nat} {j x : Int} (hd : decode (zB mid) pc = .ok (.laload, 1)) (hN : zldN mid pc = some i) (hx : ls[i]? = some (some (.inl x))) (hs : sh r = (5, ln)) (h0 : 0 ≤ j) (h1 : j < (ln : Int)) (h2 : 0 ≤ x ∧ x < 64 ∧ x % 4 = 0) (kk : Ex d mid (pc + 8) ls (.inl (I r (16 * j.toNat + x.toNat / 4) % 16) :: t) (bc, bs, n, sh, R, I) Q) : Ex d mid pc ls (.inl j :: .inr r :: t) (bc, bs, n, sh, R, I) Q := Ex.step hd rfl rfl rfl (by
  show zlal mid pc ls (.inl j :: .inr r :: t) (bc, bs, n, sh, R, I) = _
  unfold zlal
  rw [hN]
  dsimp only
  unfold zlr
  rw [hx]
  dsimp only
  rw [if_pos ⟨by rw [hs], h0, by rw [hs]; exact h1, h2⟩]) kk
theorem x_lw {i k r ln : Nat} {j x y : Int} (hd : decode (zB mid) pc = .ok (.laload, 1)) (hN1 : zldN mid pc = none) (hN : zstN mid pc = some (i, k)) (hy : ls[i]? = some (some (.inl y))) (hx : ls[k]? = some (some (.inl x))) (hs : sh r = (5, ln)) (h0 : 0 ≤ j) (h1 : j < (ln : Int)) (h2 : 0 ≤ x ∧ x < 64 ∧ x % 4 = 0) (h3 : 0 ≤ y ∧ y < 16) (h4 : I r (16 * j.toNat + x.toNat / 4) % 16 = 0) (kk : Ex d mid (pc + 9) ls t (bc, bs, n, sh, R, zup I r (16 * j.toNat + x.toNat / 4) y) Q) : Ex d mid pc ls (.inl j :: .inr r :: .inl j :: .inr r :: t) (bc, bs, n, sh, R, I) Q := Ex.step hd rfl rfl rfl (by
  show zlal mid pc ls (.inl j :: .inr r :: .inl j :: .inr r :: t) (bc, bs, n, sh, R, I) = _
  unfold zlal
  rw [hN1]
  dsimp only
  rw [hN]
  dsimp only
  unfold zlw
  rw [hy, hx]
  dsimp only
  rw [if_pos ⟨⟨by rw [hs], h0, by rw [hs]; exact h1⟩, ⟨rfl, rfl⟩, h2, h3, h4⟩]
  rfl) kk
theorem x_fil {i y r ln : Nat} (hd : decode (zB mid) pc = .ok (.lconst 0, 1)) (hN : zfiN mid pc = some i) (ho : zO mid = own) (hM : zM own i = some (17, y)) (hs : sh r = (5, ln)) (h8 : t.length ≤ 8) (kk : Ex d mid (pc + 4) ls t (bc, bs, n, sh, R, zclr I r (16 * ln)) Q) : Ex d mid pc ls (.inr r :: t) (bc, bs, n, sh, R, I) Q := Ex.step hd rfl rfl rfl (by
  show zfil mid pc ls (.inr r :: t) (bc, bs, n, sh, R, I) = _
  unfold zfil
  rw [hN]
  dsimp only
  rw [ho, hM]
  show (if _ ∧ _ then _ else _) = _
  rw [if_pos ⟨by rw [hs], h8⟩, hs]
  rfl) kk
end XH
