-- THE INTERPRETER: what a method does, over numbers and places of a small world, read off the bytes. (A value: .inl an int, .inr a place; a world: what may still be made (objects, elements), how many places there are, their shapes, what refs they hold, what ints they hold.)
abbrev AV : Type := Int ⊕ Nat
abbrev ZL : Type := List (Option AV)
abbrev ZI : Type := Nat → Nat → Int
abbrev ZR : Type := Nat → Nat → Nat
abbrev ZS : Type := Nat → Nat × Nat
abbrev ZW : Type := Nat × Nat × Nat × ZS × ZR × ZI
abbrev ZO : Type := Nat × ZL × List AV × ZW
/-- a shape: kind 0 a row of ints, 1 of bytes, 2 of rows, 3 the script, 4 the text, 5 of longs (sixteen ints each: its bits, four at a time), 9 none, 10 + c an object of class c; the length -/
def zSc : Nat := 1000001
def zSx : Nat := 1000000
def zw (x : Int) : Int := (x + 2147483648) % 4294967296 - 2147483648
def zr (x : Int) : Prop := -2147483648 ≤ x ∧ x < 2147483648
def zrb (x : Int) : Bool := decide (-2147483648 ≤ x) && decide (x < 2147483648)
def zand (a b : Int) : Int := (Int32.ofInt a &&& Int32.ofInt b).toInt
def zor (a b : Int) : Int := (Int32.ofInt a ||| Int32.ofInt b).toInt
def zshl (a b : Int) : Int := (Int32.ofInt a <<< (Int32.ofInt b &&& 31)).toInt
def zshr (a b : Int) : Int := (Int32.ofInt a >>> (Int32.ofInt b &&& 31)).toInt
def zi2b (a : Int) : Int := (Int32.ofInt a).toInt8.toInt32.toInt
def zi2c (a : Int) : Int := ((Int32.ofInt a).toUInt32 % 65536).toInt32.toInt
def zup {α : Type} (I : Nat → Nat → α) (o k : Nat) (v : α) : Nat → Nat → α := fun a b => if a = o ∧ b = k then v else I a b
def zcpy (I : ZI) (a sp b dp n : Nat) : ZI := fun o k => if o = b ∧ dp ≤ k ∧ k < dp + n then I a (sp + (k - dp)) else I o k
/-- indexOf of a sign in the text -/
def zIdx (c : Int) : Int := if c = 115 then 0 else if c = 114 then 1 else if c = 119 then 2 else if c = 105 then 3 else if c = 112 then 4 else if c = 103 then 5 else if c = 111 then 6 else if c = 110 then 7 else -1
def zcond : ClassFile.Cond → Int → Int → Prop
  | .eq, a, b => a = b
  | .ne, a, b => ¬ a = b
  | .lt, a, b => a < b
  | .ge, a, b => b ≤ a
  | .gt, a, b => b < a
  | .le, a, b => a ≤ b
def zcb : ClassFile.Cond → Int → Int → Bool
  | .eq, a, b => decide (a = b)
  | .ne, a, b => !decide (a = b)
  | .lt, a, b => decide (a < b)
  | .ge, a, b => decide (b ≤ a)
  | .gt, a, b => decide (b < a)
  | .le, a, b => decide (a ≤ b)
theorem zcb_iff {c : ClassFile.Cond} {a b : Int} : zcb c a b = true ↔ zcond c a b := by
  cases c <;> simp [zcb, zcond]
def zIsR : FieldType → Bool
  | .object _ => true
  | .array _ => true
  | _ => false
def zbr (pc : Nat) (off : Int) : Option Nat := if 0 ≤ (pc : Int) + off then some ((pc : Int) + off).toNat else none
def zbin (g : Int → Int → Int) (pc : Nat) (ls : ZL) (st : List AV) (w : ZW) : Option ZO := match st with
  | .inl b :: .inl a :: t => some (pc + 1, ls, .inl (g a b) :: t, w)
  | _ => none
def zun (g : Int → Int) (pc : Nat) (ls : ZL) (st : List AV) (w : ZW) : Option ZO := match st with
  | .inl a :: t => some (pc + 1, ls, .inl (g a) :: t, w)
  | _ => none
def zdiv (g : Int → Int → Int) (pc : Nat) (ls : ZL) (st : List AV) (w : ZW) : Option ZO := match st with
  | .inl b :: .inl a :: t => if b = 0 then none else some (pc + 1, ls, .inl (g a b) :: t, w)
  | _ => none
def zpushI (b : Bool) (len : Nat) (v : Int) (pc : Nat) (ls : ZL) (st : List AV) (w : ZW) : Option ZO := if b then some (pc + len, ls, .inl v :: st, w) else none
def ziload (i len pc : Nat) (ls : ZL) (st : List AV) (w : ZW) : Option ZO := match ls[i]? with
  | some (some (.inl x)) => some (pc + len, ls, .inl x :: st, w)
  | _ => none
def zaload (i len pc : Nat) (ls : ZL) (st : List AV) (w : ZW) : Option ZO := match ls[i]? with
  | some (some (.inr x)) => some (pc + len, ls, .inr x :: st, w)
  | _ => none
def zistore (i len pc : Nat) (ls : ZL) (st : List AV) (w : ZW) : Option ZO := match st with
  | .inl x :: t => if i < ls.length then some (pc + len, ls.set i (some (.inl x)), t, w) else none
  | _ => none
def zastore (i len pc : Nat) (ls : ZL) (st : List AV) (w : ZW) : Option ZO := match st with
  | .inr x :: t => if i < ls.length then some (pc + len, ls.set i (some (.inr x)), t, w) else none
  | _ => none
def ziinc (i : Nat) (n : Int) (pc : Nat) (ls : ZL) (st : List AV) (w : ZW) : Option ZO := match ls[i]? with
  | some (some (.inl x)) => some (pc + 3, ls.set i (some (.inl (zw (x + n)))), st, w)
  | _ => none
def zgoto (pc : Nat) (off : Int) (ls : ZL) (st : List AV) (w : ZW) : Option ZO := match zbr pc off with
  | some p => some (p, ls, st, w)
  | none => none
def zif2 (c : ClassFile.Cond) (off : Int) (pc : Nat) (ls : ZL) (st : List AV) (w : ZW) : Option ZO := match st with
  | .inl b :: .inl a :: t => match zbr pc off with
    | some p => some (if zcb c a b then p else pc + 3, ls, t, w)
    | none => none
  | _ => none
def zif1 (c : ClassFile.Cond) (off : Int) (pc : Nat) (ls : ZL) (st : List AV) (w : ZW) : Option ZO := match st with
  | .inl a :: t => match zbr pc off with
    | some p => some (if zcb c a 0 then p else pc + 3, ls, t, w)
    | none => none
  | _ => none
def ztsw (d lo hi : Int) (offs : Array Int) (pc : Nat) (ls : ZL) (st : List AV) (w : ZW) : Option ZO := match st with
  | .inl x :: t => if x < lo ∨ hi < x then zgoto pc d ls t w else match offs[(x - lo).toNat]? with
    | some off => zgoto pc off ls t w
    | none => none
  | _ => none
def zlsw (d : Int) (ps : Array (Int × Int)) (pc : Nat) (ls : ZL) (st : List AV) (w : ZW) : Option ZO := match st with
  | .inl x :: t => if (ps.toList.zip (ps.toList.drop 1)).all (fun (a, next) => a.1 < next.1) = true then zgoto pc (Op.lookupswitch.offset ps.toList d x) ls t w else none
  | _ => none
def zget (own i pc : Nat) (ls : ZL) (st : List AV) (w : ZW) : Option ZO := match st, zF own i with
  | .inr o :: t, some (ci, k) => if w.2.2.2.1 o = (10 + ci, zNf ci) then
      (if zIsR (zTy ci k) then (if w.2.2.2.2.1 o k = 0 then none else some (pc + 3, ls, .inr (w.2.2.2.2.1 o k) :: t, w)) else some (pc + 3, ls, .inl (w.2.2.2.2.2 o k) :: t, w)) else none
  | _, _ => none
def zset (w : ZW) (I : ZI) : ZW := (w.1, w.2.1, w.2.2.1, w.2.2.2.1, w.2.2.2.2.1, I)
def zsetR (w : ZW) (R : ZR) : ZW := (w.1, w.2.1, w.2.2.1, w.2.2.2.1, R, w.2.2.2.2.2)
/-- a final field is put by a constructor of its own class alone -/
def zfin (mid ci k : Nat) : Bool := !(zT ci k).2.2.2 || (decide ((zY mid).name = "<init>") && decide ((zT ci k).1 = zCn (zO mid)))
def zput (mid i pc : Nat) (ls : ZL) (st : List AV) (w : ZW) : Option ZO := match st, zF (zO mid) i with
  | v :: .inr o :: t, some (ci, k) => if w.2.2.2.1 o = (10 + ci, zNf ci) ∧ zfin mid ci k = true then
      (match v, zTy ci k with
        | .inl x, .int => some (pc + 3, ls, t, zset w (zup w.2.2.2.2.2 o k x))
        | .inl x, .boolean => if x = 0 ∨ x = 1 then some (pc + 3, ls, t, zset w (zup w.2.2.2.2.2 o k x)) else none
        | .inr r, .object _ => some (pc + 3, ls, t, zsetR w (zup w.2.2.2.2.1 o k r))
        | .inr r, .array _ => some (pc + 3, ls, t, zsetR w (zup w.2.2.2.2.1 o k r))
        | _, _ => none) else none
  | _, _ => none
def zald (kind pc : Nat) (ls : ZL) (st : List AV) (w : ZW) : Option ZO := match st with
  | .inl j :: .inr r :: t => if ((w.2.2.2.1 r).1 = kind ∨ ((w.2.2.2.1 r).1 = 3 ∧ kind = 0)) ∧ 0 ≤ j ∧ j < ((w.2.2.2.1 r).2 : Int) then some (pc + 1, ls, .inl (w.2.2.2.2.2 r j.toNat) :: t, w) else none
  | _ => none
def zaldR (pc : Nat) (ls : ZL) (st : List AV) (w : ZW) : Option ZO := match st with
  | .inl j :: .inr r :: t => if (w.2.2.2.1 r).1 = 2 ∧ 0 ≤ j ∧ j < ((w.2.2.2.1 r).2 : Int) ∧ ¬ w.2.2.2.2.1 r j.toNat = 0 then some (pc + 1, ls, .inr (w.2.2.2.2.1 r j.toNat) :: t, w) else none
  | _ => none
def zast (kind : Nat) (g : Int → Int) (pc : Nat) (ls : ZL) (st : List AV) (w : ZW) : Option ZO := match st with
  | .inl x :: .inl j :: .inr r :: t => if (w.2.2.2.1 r).1 = kind ∧ 0 ≤ j ∧ j < ((w.2.2.2.1 r).2 : Int) then some (pc + 1, ls, t, zset w (zup w.2.2.2.2.2 r j.toNat (g x))) else none
  | _ => none
def zlen (pc : Nat) (ls : ZL) (st : List AV) (w : ZW) : Option ZO := match st with
  | .inr r :: t => if (w.2.2.2.1 r).1 < 4 then some (pc + 1, ls, .inl ((w.2.2.2.1 r).2 : Int) :: t, w) else none
  | _ => none
def zdup (pc : Nat) (ls : ZL) (st : List AV) (w : ZW) : Option ZO := match st with
  | v :: t => some (pc + 1, ls, v :: v :: t, w)
  | _ => none
def zdup2 (pc : Nat) (ls : ZL) (st : List AV) (w : ZW) : Option ZO := match st with
  | v :: u :: t => some (pc + 1, ls, v :: u :: v :: u :: t, w)
  | _ => none
def zpop (pc : Nat) (ls : ZL) (st : List AV) (w : ZW) : Option ZO := match st with
  | _ :: t => some (pc + 1, ls, t, w)
  | _ => none
/-- one cell more: its shape, what it costs -/
def znew1 (w : ZW) (kind len : Nat) : ZW :=
  (w.1 - 1, w.2.1 - len, w.2.2.1 + 1, (fun a => if a = w.2.2.1 + 1 then (kind, len) else w.2.2.2.1 a), (fun a b => if a = w.2.2.1 + 1 then 0 else w.2.2.2.2.1 a b), (fun a b => if a = w.2.2.1 + 1 then 0 else w.2.2.2.2.2 a b))
def znew (own i pc : Nat) (ls : ZL) (st : List AV) (w : ZW) : Option ZO := match zN own i with
  | some ci => if 1 ≤ w.1 ∧ zNf ci ≤ w.2.1 ∧ w.2.2.1 < 900000 then some (pc + 3, ls, .inr (w.2.2.1 + 1) :: st, znew1 w (10 + ci) (zNf ci)) else none
  | none => none
def znewa (t : ArrayType) (pc : Nat) (ls : ZL) (st : List AV) (w : ZW) : Option ZO := match st with
  | .inl n :: s => if 0 ≤ n ∧ n ≤ 100000 ∧ 1 ≤ w.1 ∧ n.toNat ≤ w.2.1 ∧ w.2.2.1 < 900000 then
      (match t with
        | .int => some (pc + 2, ls, .inr (w.2.2.1 + 1) :: s, znew1 w 0 n.toNat)
        | .byte => some (pc + 2, ls, .inr (w.2.2.1 + 1) :: s, znew1 w 1 n.toNat)
        | .long => some (pc + 2, ls, .inr (w.2.2.1 + 1) :: s, znew1 w 5 n.toNat)
        | _ => none) else none
  | _ => none
/-- N rows of K ints, and the row of them -/
def znew2 (w : ZW) (N K : Nat) : ZW :=
  (w.1 - (1 + N), w.2.1 - (N + N * K), w.2.2.1 + 1 + N, (fun a => if a = w.2.2.1 + 1 then (2, N) else if w.2.2.1 + 1 < a ∧ a ≤ w.2.2.1 + 1 + N then (0, K) else w.2.2.2.1 a),
    (fun a b => if a = w.2.2.1 + 1 then (if b < N then w.2.2.1 + 2 + b else 0) else if w.2.2.1 + 1 < a ∧ a ≤ w.2.2.1 + 1 + N then 0 else w.2.2.2.2.1 a b),
    (fun a b => if w.2.2.1 < a ∧ a ≤ w.2.2.1 + 1 + N then 0 else w.2.2.2.2.2 a b))
def zmna (own i dims pc : Nat) (ls : ZL) (st : List AV) (w : ZW) : Option ZO := match st with
  | .inl k :: .inl n :: s => if own = 8 ∧ i = 18 ∧ dims = 2 ∧ 0 ≤ n ∧ 0 ≤ k ∧ n ≤ 1000 ∧ k ≤ 1000 ∧ 1 + n.toNat ≤ w.1 ∧ n.toNat + n.toNat * k.toNat ≤ w.2.1 ∧ w.2.2.1 < 900000 then
      some (pc + 4, ls, .inr (w.2.2.1 + 1) :: s, znew2 w n.toNat k.toNat) else none
  | _ => none
/-- the JDK's own: Math, arraycopy, the text -/
def zjS (own i pc : Nat) (ls : ZL) (st : List AV) (w : ZW) : Option ZO := match zM own i, st with
  | some (10, _), .inl y :: .inl x :: t => if t.length ≤ 8 then some (pc + 3, ls, .inl (if x < y then y else x) :: t, w) else none
  | some (11, _), .inl y :: .inl x :: t => if t.length ≤ 8 then some (pc + 3, ls, .inl (if y < x then y else x) :: t, w) else none
  | some (12, _), .inl x :: t => if t.length ≤ 8 then some (pc + 3, ls, .inl (if 0 ≤ x then x else zw (0 - x)) :: t, w) else none
  | some (13, _), .inl n :: .inl dp :: .inr b :: .inl sp :: .inr a :: t =>
      if (w.2.2.2.1 a).1 = 0 ∧ (w.2.2.2.1 b).1 = 0 ∧ 0 ≤ sp ∧ 0 ≤ dp ∧ 0 ≤ n ∧ sp + n ≤ ((w.2.2.2.1 a).2 : Int) ∧ dp + n ≤ ((w.2.2.2.1 b).2 : Int) ∧ t.length ≤ 8 then some (pc + 3, ls, t, zset w (zcpy w.2.2.2.2.2 a sp.toNat b dp.toNat n.toNat)) else none
  | _, _ => none
def zjV (own i pc : Nat) (ls : ZL) (st : List AV) (w : ZW) : Option ZO := match zM own i, st with
  | some (14, _), .inl c :: .inr o :: t => if o = zSx ∧ (w.2.2.2.1 zSx).1 = 4 ∧ t.length ≤ 8 then some (pc + 3, ls, .inl (zIdx c) :: t, w) else none
  | some (15, _), .inr o :: t => if o = zSx ∧ (w.2.2.2.1 zSx).1 = 4 ∧ t.length ≤ 8 then some (pc + 3, ls, .inl 8 :: t, w) else none
  | _, _ => none
def zjI (own i pc : Nat) (ls : ZL) (st : List AV) (w : ZW) : Option ZO := match zM own i, st with
  | some (16, _), .inr _ :: t => if t.length ≤ 8 then some (pc + 3, ls, t, w) else none
  | _, _ => none
/-- longs, some rows at once: (int) (a[j] >> x) & 15; a[j] |= (long) y << x; fill(a, 0) -/
def zldN (mid pc : Nat) : Option Nat := match decode (zB mid) (pc + 1), decode (zB mid) (pc + 3), decode (zB mid) (pc + 4), decode (zB mid) (pc + 5), decode (zB mid) (pc + 7) with
  | .ok (.iload i, 2), .ok (.lshr, 1), .ok (.l2i, 1), .ok (.bipush n, 2), .ok (.iand, 1) => if n = 15 then some i else none
  | _, _, _, _, _ => none
def zstN (mid pc : Nat) : Option (Nat × Nat) := match decode (zB mid) (pc + 1), decode (zB mid) (pc + 3), decode (zB mid) (pc + 4), decode (zB mid) (pc + 6), decode (zB mid) (pc + 7), decode (zB mid) (pc + 8) with
  | .ok (.iload i, 2), .ok (.i2l, 1), .ok (.iload k, 2), .ok (.lshl, 1), .ok (.lor, 1), .ok (.lastore, 1) => some (i, k)
  | _, _, _, _, _, _ => none
def zfiN (mid pc : Nat) : Option Nat := match decode (zB mid) (pc + 1) with
  | .ok (.invokestatic i, 3) => some i
  | _ => none
def zlr (i pc : Nat) (ls : ZL) (st : List AV) (w : ZW) : Option ZO := match st, ls[i]? with
  | .inl j :: .inr r :: t, some (some (.inl x)) => if (w.2.2.2.1 r).1 = 5 ∧ 0 ≤ j ∧ j < ((w.2.2.2.1 r).2 : Int) ∧ 0 ≤ x ∧ x < 64 ∧ x % 4 = 0 then
      some (pc + 8, ls, .inl (w.2.2.2.2.2 r (16 * j.toNat + x.toNat / 4) % 16) :: t, w) else none
  | _, _ => none
def zlw (i k pc : Nat) (ls : ZL) (st : List AV) (w : ZW) : Option ZO := match st, ls[i]?, ls[k]? with
  | .inl j :: .inr r :: .inl j2 :: .inr r2 :: t, some (some (.inl y)), some (some (.inl x)) => if ((w.2.2.2.1 r).1 = 5 ∧ 0 ≤ j ∧ j < ((w.2.2.2.1 r).2 : Int)) ∧ (j2 = j ∧ r2 = r) ∧ (0 ≤ x ∧ x < 64 ∧ x % 4 = 0) ∧ (0 ≤ y ∧ y < 16) ∧ w.2.2.2.2.2 r (16 * j.toNat + x.toNat / 4) % 16 = 0 then
      some (pc + 9, ls, t, zset w (zup w.2.2.2.2.2 r (16 * j.toNat + x.toNat / 4) y)) else none
  | _, _, _ => none
def zlal (mid pc : Nat) (ls : ZL) (st : List AV) (w : ZW) : Option ZO := match zldN mid pc with
  | some i => zlr i pc ls st w
  | none => match zstN mid pc with
    | some (i, k) => zlw i k pc ls st w
    | none => none
def zclr (I : ZI) (r n : Nat) : ZI := fun o k => if o = r ∧ k < n then 0 else I o k
def zfil (mid pc : Nat) (ls : ZL) (st : List AV) (w : ZW) : Option ZO := match zfiN mid pc, st with
  | some i, .inr r :: t => (match zM (zO mid) i with
    | some (17, _) => if (w.2.2.2.1 r).1 = 5 ∧ t.length ≤ 8 then some (pc + 4, ls, t, zset w (zclr w.2.2.2.2.2 r (16 * (w.2.2.2.1 r).2))) else none
    | _ => none)
  | _, _ => none
/-- a row that stays in the method -/
def zstep (mid pc : Nat) (ins : Instr) (ls : ZL) (st : List AV) (w : ZW) : Option ZO := match ins with
  | .iconst n => zpushI (zrb n) 1 n pc ls st w
  | .bipush n => zpushI (decide (-128 ≤ n) && decide (n < 128)) 2 n pc ls st w
  | .sipush n => zpushI (decide (-32768 ≤ n) && decide (n < 32768)) 3 n pc ls st w
  | .ldc i => match zK (zO mid) i with
    | some v => zpushI (zrb v) 2 v pc ls st w
    | none => if zSt (zO mid) i = true ∧ (w.2.2.2.1 zSx).1 = 4 then some (pc + 2, ls, .inr zSx :: st, w) else none
  | .ldc_w i => match zK (zO mid) i with
    | some v => zpushI (zrb v) 3 v pc ls st w
    | none => none
  | .iload i => ziload i 2 pc ls st w
  | .iload_n i => ziload i.val 1 pc ls st w
  | .aload i => zaload i 2 pc ls st w
  | .aload_n i => zaload i.val 1 pc ls st w
  | .istore i => zistore i 2 pc ls st w
  | .istore_n i => zistore i.val 1 pc ls st w
  | .astore i => zastore i 2 pc ls st w
  | .astore_n i => zastore i.val 1 pc ls st w
  | .iinc i n => ziinc i n pc ls st w
  | .iadd => zbin (fun a b => zw (a + b)) pc ls st w
  | .isub => zbin (fun a b => zw (a - b)) pc ls st w
  | .imul => zbin (fun a b => zw (a * b)) pc ls st w
  | .iand => zbin zand pc ls st w
  | .ior => zbin zor pc ls st w
  | .ishl => zbin zshl pc ls st w
  | .ishr => zbin zshr pc ls st w
  | .idiv => zdiv (fun a b => zw (a.tdiv b)) pc ls st w
  | .irem => zdiv (fun a b => a.tmod b) pc ls st w
  | .i2b => zun zi2b pc ls st w
  | .i2c => zun zi2c pc ls st w
  | .goto off => zgoto pc off ls st w
  | .if_icmp c off => zif2 c off pc ls st w
  | .ifCond c off => zif1 c off pc ls st w
  | .tableswitch d lo hi offs => ztsw d lo hi offs pc ls st w
  | .lookupswitch d ps => zlsw d ps pc ls st w
  | .getfield i => zget (zO mid) i pc ls st w
  | .putfield i => zput mid i pc ls st w
  | .iaload => zald 0 pc ls st w
  | .baload => zald 1 pc ls st w
  | .laload => zlal mid pc ls st w
  | .lconst n => if n.val = 0 then zfil mid pc ls st w else none
  | .aaload => zaldR pc ls st w
  | .iastore => zast 0 (fun x => x) pc ls st w
  | .bastore => zast 1 zi2b pc ls st w
  | .arraylength => zlen pc ls st w
  | .dup => zdup pc ls st w
  | .dup2 => zdup2 pc ls st w
  | .pop => zpop pc ls st w
  | .new i => znew (zO mid) i pc ls st w
  | .newarray t => znewa t pc ls st w
  | .multianewarray i d => zmna (zO mid) i d pc ls st w
  | .invokevirtual i => zjV (zO mid) i pc ls st w
  | .invokestatic i => zjS (zO mid) i pc ls st w
  | .invokespecial i => zjI (zO mid) i pc ls st w
  | _ => none
/-- a call of a method of the tables: (its number, all its arguments, what is left on the stack) -/
def zcall (mid : Nat) (ins : Instr) (st : List AV) (w : ZW) : Option (Nat × List AV × List AV) := match ins with
  | .invokevirtual i => match zM (zO mid) i with
    | some (0, y) => match st.drop (zA y) with
      | .inr o :: t => if w.2.2.2.1 o = (10 + zO y, zNf (zO y)) ∧ t.length ≤ 8 ∧ zO y < 13 then some (y, .inr o :: (st.take (zA y)).reverse, t) else none
      | _ => none
    | _ => none
  | .invokespecial i => match zM (zO mid) i with
    | some (k, y) => if k = 2 ∨ k = 3 then (match st.drop (zA y) with
      | .inr o :: t => if t.length ≤ 8 then some (y, .inr o :: (st.take (zA y)).reverse, t) else none
      | _ => none) else none
    | _ => none
  | .invokestatic i => match zM (zO mid) i with
    | some (4, y) => if zA y ≤ st.length ∧ (st.drop (zA y)).length ≤ 8 then some (y, (st.take (zA y)).reverse, st.drop (zA y)) else none
    | _ => none
  | _ => none
/-- how long a row is -/
def zlk : Instr → Nat → Bool
  | .bipush _, n => n == 2
  | .ldc _, n => n == 2
  | .iload _, n => n == 2
  | .aload _, n => n == 2
  | .istore _, n => n == 2
  | .astore _, n => n == 2
  | .newarray _, n => n == 2
  | .sipush _, n => n == 3
  | .ldc_w _, n => n == 3
  | .iinc _ _, n => n == 3
  | .goto _, n => n == 3
  | .if_icmp _ _, n => n == 3
  | .ifCond _ _, n => n == 3
  | .getfield _, n => n == 3
  | .putfield _, n => n == 3
  | .new _, n => n == 3
  | .invokevirtual _, n => n == 3
  | .invokestatic _, n => n == 3
  | .invokespecial _, n => n == 3
  | .multianewarray _ _, n => n == 4
  | .tableswitch _ _ _ _, _ => true
  | .lookupswitch _ _, _ => true
  | _, n => n == 1
def zret (mid : Nat) (ins : Instr) (st : List AV) : Option (Option AV) := match ins, st, zRt mid with
  | .ireturn, [.inl v], some .int => some (some (.inl v))
  | .ireturn, [.inl v], some .boolean => if v = 0 ∨ v = 1 then some (some (.inl v)) else none
  | .areturn, [.inr r], some (.object _) => some (some (.inr r))
  | .return_, [], none => some none
  | _, _, _ => none
def zloc (y : Nat) (as : List AV) : ZL := as.map some ++ List.replicate (zL y - as.length) none
/-- a call's own purse -/
def zpurse (w : ZW) (q : Nat × Nat) : ZW := (q.1, q.2, w.2.2)
def zrun : Nat → Nat → Nat → Nat → ZL → List AV → ZW → Option (Option AV × ZW)
  | 0, _, _, _, _, _, _ => none
  | f + 1, d, mid, pc, ls, st, w => match decode (zB mid) pc with
    | .error _ => none
    | .ok (ins, len) => if zlk ins len = false then none else match zret mid ins st with
      | some r => some (r, w)
      | none => match zcall mid ins st w with
        | some (y, as, t) => match d with
          | 0 => none
          | d + 1 => if (zMc y).1 ≤ w.1 ∧ (zMc y).2 ≤ w.2.1 ∧ as.length ≤ zL y ∧ zL y ≤ 20 then
              (match zrun f d y 0 (zloc y as) [] (zpurse w (zMc y)) with
                | some (r, w2) => zrun f (d + 1) mid (pc + 3) ls (r.toList ++ t) (zpurse w2 (w.1 - (zMc y).1, w.2.1 - (zMc y).2))
                | none => none) else none
        | none => match zstep mid pc ins ls st w with
          | some (pc2, ls2, st2, w2) => zrun f d mid pc2 ls2 st2 w2
          | none => none
theorem zrun_mono : ∀ (f : Nat) {d mid pc : Nat} {ls : ZL} {st : List AV} {w : ZW} {x : Option AV × ZW}, zrun f d mid pc ls st w = some x → ∀ f2, f ≤ f2 → zrun f2 d mid pc ls st w = some x := by
  intro f
  induction f with
  | zero => intro d mid pc ls st w x h; simp [zrun] at h
  | succ f ih =>
    intro d mid pc ls st w x h f2 hf
    obtain ⟨g, rfl⟩ : ∃ g, f2 = g + 1 := ⟨f2 - 1, by omega⟩
    have hg : f ≤ g := by omega
    unfold zrun at h ⊢
    cases hd : decode (zB mid) pc with
    | error e => rw [hd] at h; cases h
    | ok q =>
      obtain ⟨ins, len⟩ := q
      rw [hd] at h
      dsimp only at h ⊢
      by_cases hlk : zlk ins len = false
      · rw [if_pos hlk] at h; cases h
      rw [if_neg hlk] at h ⊢
      cases hr : zret mid ins st with
      | some r => rw [hr] at h; exact h
      | none =>
        rw [hr] at h
        dsimp only at h ⊢
        cases hc : zcall mid ins st w with
        | some q =>
          obtain ⟨y, as, t⟩ := q
          rw [hc] at h
          dsimp only at h ⊢
          cases d with
          | zero => cases h
          | succ d =>
            dsimp only at h ⊢
            split at h
            · rename_i hcnd
              rw [if_pos hcnd]
              cases h1 : zrun f d y 0 (zloc y as) [] (zpurse w (zMc y)) with
              | none => rw [h1] at h; cases h
              | some r1 =>
                obtain ⟨r, w2⟩ := r1
                rw [h1] at h
                rw [ih h1 g hg]
                exact ih h g hg
            · cases h
        | none =>
          rw [hc] at h
          dsimp only at h ⊢
          cases hs : zstep mid pc ins ls st w with
          | none => rw [hs] at h; cases h
          | some q =>
            obtain ⟨p2, l2, s2, w2⟩ := q
            rw [hs] at h
            exact ih h g hg
