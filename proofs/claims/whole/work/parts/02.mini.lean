-- ===== THE MINI-MACHINE: values, memory, one step (my own; the JVM is tied to it in the part 'sound') =====
/-- a value: an int, a long, a reference (null: none), or nothing that is known -/
abbrev MV : Type := Int ⊕ (Int64 ⊕ (Option Nat ⊕ Unit))
abbrev vI (z : Int) : MV := Sum.inl z
abbrev vL (x : Int64) : MV := Sum.inr (Sum.inl x)
abbrev vR (r : Option Nat) : MV := Sum.inr (Sum.inr (Sum.inl r))
abbrev vU : MV := Sum.inr (Sum.inr (Sum.inr ()))
/-- the cells: kind, length, frozen references -/
abbrev MS : Type := List (Nat × Nat × List (Option Nat))
/-- the memory: cells; references, ints, longs by cell and place -/
abbrev MM : Type := MS × (Nat → Int → Option Nat) × (Nat → Int → Int) × (Nat → Int → Int64)
abbrev MC : Type := Nat × List MV × List MV × (Nat × Nat) × MM
/-- what a step comes to: the next place; a call, with what is behind it; an answer -/
abbrev MO : Type := MC ⊕ ((Nat × List MV × MC) ⊕ Option MV)
/-- an instruction of a table: the instruction, (pc, length), numbers, a constant, places of a switch -/
abbrev Op : Type := Instr × (Nat × Nat) × List Nat × Int × List (Int × Nat)
def w32 (z : Int) : Int := (Int32.ofInt z).toInt
def iand (x y : Int) : Int := (Int32.ofInt x &&& Int32.ofInt y).toInt
def ior (x y : Int) : Int := (Int32.ofInt x ||| Int32.ofInt y).toInt
def ixor (x y : Int) : Int := (Int32.ofInt x ^^^ Int32.ofInt y).toInt
def ishl (x y : Int) : Int := (Int32.ofInt x <<< (Int32.ofInt y &&& 31)).toInt
def ishr (x y : Int) : Int := (Int32.ofInt x >>> (Int32.ofInt y &&& 31)).toInt
def iushr (x y : Int) : Int := ((Int32.ofInt x).toUInt32 >>> ((Int32.ofInt y).toUInt32 &&& Int32.toUInt32 31)).toInt32.toInt
def ib8 (x : Int) : Int := (Int32.ofInt x).toInt8.toInt32.toInt
def lushr (x : Int64) (y : Int) : Int64 := (x.toUInt64 >>> ((Int32.ofInt y).toInt64.toUInt64 &&& Int64.toUInt64 63)).toInt64
def lshl (x : Int64) (y : Int) : Int64 := x <<< ((Int32.ofInt y).toInt64 &&& 63)
def lcmpI (x y : Int64) : Int := (lg_cmp x y).toInt
def kd (S : MS) (a : Nat) : Nat := match S[a]? with
  | some e => e.1
  | none => 999
def ln (S : MS) (a : Nat) : Nat := match S[a]? with
  | some e => e.2.1
  | none => 0
def fz (S : MS) (a k : Nat) : Option Nat := match S[a]? with
  | some e => e.2.2.getD k none
  | none => none
def frL (S : MS) (a : Nat) : Nat := match S[a]? with
  | some e => e.2.2.length
  | none => 0
def setFz (S : MS) (a k : Nat) (r : Option Nat) : MS := match S[a]? with
  | some e => S.set a (e.1, e.2.1, e.2.2.set k r)
  | none => S
def upr {α : Type} (f : Int → α) (i : Int) (z : α) : Int → α := fun i' => if i' = i then z else f i'
def upM {α : Type} (I : Nat → Int → α) (a : Nat) (i : Int) (z : α) : Nat → Int → α := fun b => if b = a then upr (I a) i z else I b
def zrM {α : Type} (I : Nat → Int → α) (a : Nat) (d : α) : Nat → Int → α := fun b => if b = a then (fun _ => d) else I b
def zrN {α : Type} (I : Nat → Int → α) (a n : Nat) (d : α) : Nat → Int → α := fun b => if a ≤ b ∧ b < a + n then (fun _ => d) else I b
def nx (j : Nat) (ls st : List MV) (b : Nat × Nat) (M : MM) : Option MO := some (Sum.inl (j, ls, st, b, M))
def killL : List MV → List Nat → List MV
  | ls, [] => ls
  | ls, i :: r => killL (ls.set i vU) r
/-- a value is put into a place: a long that began just before it is lost -/
def stL (ls : List MV) (i : Nat) (v : MV) : List MV := match i with
  | 0 => ls.set 0 v
  | i' + 1 => match ls[i']? with
    | some (Sum.inr (Sum.inl _)) => (ls.set i' vU).set (i' + 1) v
    | _ => ls.set (i' + 1) v
def gtI (ls : List MV) (i : Nat) (f : Int → Option MO) : Option MO := match ls[i]? with
  | some (Sum.inl z) => f z
  | _ => none
def gtL (ls : List MV) (i : Nat) (f : Int64 → Option MO) : Option MO := match ls[i]? with
  | some (Sum.inr (Sum.inl z)) => f z
  | _ => none
def gtR (ls : List MV) (i : Nat) (f : Option Nat → Option MO) : Option MO := match ls[i]? with
  | some (Sum.inr (Sum.inr (Sum.inl r))) => f r
  | _ => none
def pI (st : List MV) (f : Int → List MV → Option MO) : Option MO := match st with
  | Sum.inl x :: r => f x r
  | _ => none
def pI2 (st : List MV) (f : Int → Int → List MV → Option MO) : Option MO := match st with
  | Sum.inl y :: Sum.inl x :: r => f x y r
  | _ => none
def pL (st : List MV) (f : Int64 → List MV → Option MO) : Option MO := match st with
  | Sum.inr (Sum.inl x) :: r => f x r
  | _ => none
def pL2 (st : List MV) (f : Int64 → Int64 → List MV → Option MO) : Option MO := match st with
  | Sum.inr (Sum.inl y) :: Sum.inr (Sum.inl x) :: r => f x y r
  | _ => none
def pIL (st : List MV) (f : Int64 → Int → List MV → Option MO) : Option MO := match st with
  | Sum.inl y :: Sum.inr (Sum.inl x) :: r => f x y r
  | _ => none
/-- a reference, null too -/
def pQ (st : List MV) (f : Option Nat → List MV → Option MO) : Option MO := match st with
  | Sum.inr (Sum.inr (Sum.inl q)) :: r => f q r
  | _ => none
/-- a reference that isn't null -/
def pR (st : List MV) (f : Nat → List MV → Option MO) : Option MO := match st with
  | Sum.inr (Sum.inr (Sum.inl (some a))) :: r => f a r
  | _ => none
def pIR (st : List MV) (f : Nat → Int → List MV → Option MO) : Option MO := match st with
  | Sum.inl i :: Sum.inr (Sum.inr (Sum.inl (some a))) :: r => f a i r
  | _ => none
def pIIR (st : List MV) (f : Nat → Int → Int → List MV → Option MO) : Option MO := match st with
  | Sum.inl z :: Sum.inl i :: Sum.inr (Sum.inr (Sum.inl (some a))) :: r => f a i z r
  | _ => none
def pRIR (st : List MV) (f : Nat → Int → Nat → List MV → Option MO) : Option MO := match st with
  | Sum.inr (Sum.inr (Sum.inl (some v))) :: Sum.inl i :: Sum.inr (Sum.inr (Sum.inl (some a))) :: r => f a i v r
  | _ => none
def pLR (st : List MV) (f : Nat → Int64 → List MV → Option MO) : Option MO := match st with
  | Sum.inr (Sum.inl x) :: Sum.inr (Sum.inr (Sum.inl (some a))) :: r => f a x r
  | _ => none
def pQR (st : List MV) (f : Nat → Option Nat → List MV → Option MO) : Option MO := match st with
  | Sum.inr (Sum.inr (Sum.inl q)) :: Sum.inr (Sum.inr (Sum.inl (some a))) :: r => f a q r
  | _ => none
def gd (c : Bool) (o : Option MO) : Option MO := if c = true then o else none
/-- two places: the first one if c -/
def br (c : Bool) (j1 j2 : Nat) (ls st : List MV) (b : Nat × Nat) (M : MM) : Option MO := if c = true then nx j1 ls st b M else nx j2 ls st b M
def cndI (c : Jvm.ClassFile.Cond) (x y : Int) (jt jf : Nat) (ls st : List MV) (b : Nat × Nat) (M : MM) : Option MO := match c with
  | .eq => br (decide (x = y)) jt jf ls st b M
  | .ne => br (decide (x = y)) jf jt ls st b M
  | .lt => br (decide (x < y)) jt jf ls st b M
  | .ge => br (decide (x < y)) jf jt ls st b M
  | .gt => br (decide (x ≤ y)) jf jt ls st b M
  | .le => br (decide (x ≤ y)) jt jf ls st b M
def swT (x : Int) (d : Nat) : List (Int × Nat) → Nat
  | [] => d
  | (c, t) :: r => if x = c then t else swT x d r
def z01 (z : Int) : Bool := decide (z = 0) || decide (z = 1)
def inB (S : MS) (a : Nat) (i : Int) : Bool := decide (0 ≤ i) && decide (i < (ln S a : Int))
/-- which cells hold what is in S (frozen), by kind -/
def frK (k : Nat) : Bool := k == 23 || k == 24 || k == 25 || k == 27
/-- the kind of what an array of references of a kind holds -/
def elK (k : Nat) : Nat := match k with
  | 23 => 6
  | 24 => 7
  | 25 => 3
  | 26 => 3
  | _ => 998
/-- as in the places of a frame: behind a long one more -/
def flL : List MV → List MV
  | [] => []
  | Sum.inr (Sum.inl x) :: r => vL x :: vU :: flL r
  | v :: r => v :: flL r
def mInv (k n : Nat) (rc : Option Nat) (mc ms mx : Nat) (j : Nat) (ls st : List MV) (b : Nat × Nat) (M : MM) : Option MO :=
  gd (decide (n ≤ st.length) && decide ((st.drop n).length ≤ 4) && decide (mc ≤ b.1) && decide (ms ≤ b.2) && decide ((flL (st.take n).reverse).length ≤ mx) &&
      (match rc with
        | none => true
        | some ci => match (st.take n).reverse with
          | Sum.inr (Sum.inr (Sum.inl (some a))) :: _ => decide (kd M.1 a = ci)
          | _ => false))
    (some (Sum.inr (Sum.inl (k, (st.take n).reverse, (j + 1, ls, st.drop n, (b.1 - mc, b.2 - ms), M)))))
def n0 (o : Op) : Nat := o.2.2.1.getD 0 0
def n1 (o : Op) : Nat := o.2.2.1.getD 1 0
def n2 (o : Op) : Nat := o.2.2.1.getD 2 0
def n3 (o : Op) : Nat := o.2.2.1.getD 3 0
def n4 (o : Op) : Nat := o.2.2.1.getD 4 0
def n5 (o : Op) : Nat := o.2.2.1.getD 5 0
def n6 (o : Op) : Nat := o.2.2.1.getD 6 0
def mGet (o : Op) (j : Nat) (ls st : List MV) (b : Nat × Nat) (M : MM) : Option MO := pR st fun a r => gd (decide (kd M.1 a = n0 o)) <| match n2 o with
  | 0 => nx (j + 1) ls (vI (M.2.2.1 a (n1 o)) :: r) b M
  | 1 => nx (j + 1) ls (vI (M.2.2.1 a (n1 o)) :: r) b M
  | 2 => nx (j + 1) ls (vL (M.2.2.2 a (n1 o)) :: r) b M
  | 3 => nx (j + 1) ls (vR (M.2.1 a (n1 o)) :: r) b M
  | _ => nx (j + 1) ls (vR (fz M.1 a (n1 o)) :: r) b M
def mPut (o : Op) (j : Nat) (ls st : List MV) (b : Nat × Nat) (M : MM) : Option MO := match n2 o with
  | 0 => pIR st fun a z r => gd (decide (kd M.1 a = n0 o)) (nx (j + 1) ls r b (M.1, M.2.1, upM M.2.2.1 a (n1 o) z, M.2.2.2))
  | 1 => pIR st fun a z r => gd (decide (kd M.1 a = n0 o) && z01 z) (nx (j + 1) ls r b (M.1, M.2.1, upM M.2.2.1 a (n1 o) z, M.2.2.2))
  | 2 => pLR st fun a z r => gd (decide (kd M.1 a = n0 o)) (nx (j + 1) ls r b (M.1, M.2.1, M.2.2.1, upM M.2.2.2 a (n1 o) z))
  | 3 => pQR st fun a q r => gd (decide (kd M.1 a = n0 o)) (nx (j + 1) ls r b (M.1, upM M.2.1 a (n1 o) q, M.2.2.1, M.2.2.2))
  | _ => pQR st fun a q r => gd (decide (kd M.1 a = n0 o) && decide (n1 o < frL M.1 a)) (nx (j + 1) ls r b (setFz M.1 a (n1 o) q, M.2.1, M.2.2.1, M.2.2.2))

/-- new cells -/
def mNew (e : List (Nat × Nat × List (Option Nat))) (cells slots : Nat) (j : Nat) (ls r : List MV) (b : Nat × Nat) (M : MM) : Option MO :=
  gd (decide (cells ≤ b.1) && decide (slots ≤ b.2)) (nx (j + 1) ls (vR (some M.1.length) :: r) (b.1 - cells, b.2 - slots) (M.1 ++ e, zrN M.2.1 M.1.length cells none, zrN M.2.2.1 M.1.length cells 0, zrN M.2.2.2 M.1.length cells 0))
def mArr (kind : Nat) (j : Nat) (ls st : List MV) (b : Nat × Nat) (M : MM) : Option MO := pI st fun n r => gd (decide (0 ≤ n) && decide (n ≤ 1000)) (mNew [(kind, n.toNat, if frK kind = true then List.replicate n.toNat none else [])] 1 n.toNat j ls r b M)
def tg (o : Op) : Nat := n0 o
def mstep (o : Op) (j : Nat) (ls st : List MV) (b : Nat × Nat) (M : MM) : Option MO := match o.1 with
  | .nop => nx (j + 1) (killL ls o.2.2.1) st b M
  | .aconst_null => nx (j + 1) ls (vR none :: st) b M
  | .iconst n => nx (j + 1) ls (vI n :: st) b M
  | .bipush n => nx (j + 1) ls (vI n :: st) b M
  | .sipush n => nx (j + 1) ls (vI n :: st) b M
  | .ldc_w _ => nx (j + 1) ls (vI o.2.2.2.1 :: st) b M
  | .ldc2_w _ => nx (j + 1) ls (vL (Int64.ofInt o.2.2.2.1) :: st) b M
  | .lconst n => nx (j + 1) ls (vL (Int64.ofInt n.val) :: st) b M
  | .iload_n i => gtI ls i.val fun z => nx (j + 1) ls (vI z :: st) b M
  | .iload i => gtI ls i fun z => nx (j + 1) ls (vI z :: st) b M
  | .lload_n i => gtL ls i.val fun z => nx (j + 1) ls (vL z :: st) b M
  | .lload i => gtL ls i fun z => nx (j + 1) ls (vL z :: st) b M
  | .aload_n i => gtR ls i.val fun z => nx (j + 1) ls (vR z :: st) b M
  | .aload i => gtR ls i fun z => nx (j + 1) ls (vR z :: st) b M
  | .istore_n i => pI st fun z r => nx (j + 1) (stL ls i.val (vI z)) r b M
  | .istore i => pI st fun z r => nx (j + 1) (stL ls i (vI z)) r b M
  | .lstore_n i => pL st fun z r => nx (j + 1) ((stL ls i.val (vL z)).set (i.val + 1) vU) r b M
  | .lstore i => pL st fun z r => nx (j + 1) ((stL ls i (vL z)).set (i + 1) vU) r b M
  | .astore_n i => pQ st fun z r => nx (j + 1) (stL ls i.val (vR z)) r b M
  | .astore i => pQ st fun z r => nx (j + 1) (stL ls i (vR z)) r b M
  | .iinc i n => gtI ls i fun z => nx (j + 1) (stL ls i (vI (w32 (z + n)))) st b M
  | .iadd => pI2 st fun x y r => nx (j + 1) ls (vI (w32 (x + y)) :: r) b M
  | .isub => pI2 st fun x y r => nx (j + 1) ls (vI (w32 (x - y)) :: r) b M
  | .imul => pI2 st fun x y r => nx (j + 1) ls (vI (w32 (x * y)) :: r) b M
  | .iand => pI2 st fun x y r => nx (j + 1) ls (vI (iand x y) :: r) b M
  | .ior => pI2 st fun x y r => nx (j + 1) ls (vI (ior x y) :: r) b M
  | .ixor => pI2 st fun x y r => nx (j + 1) ls (vI (ixor x y) :: r) b M
  | .ishl => pI2 st fun x y r => nx (j + 1) ls (vI (ishl x y) :: r) b M
  | .ishr => pI2 st fun x y r => nx (j + 1) ls (vI (ishr x y) :: r) b M
  | .iushr => pI2 st fun x y r => nx (j + 1) ls (vI (iushr x y) :: r) b M
  | .idiv => pI2 st fun x y r => gd (decide (¬ y = 0)) (nx (j + 1) ls (vI (w32 (x.tdiv y)) :: r) b M)
  | .irem => pI2 st fun x y r => gd (decide (¬ y = 0)) (nx (j + 1) ls (vI (x.tmod y) :: r) b M)
  | .ladd => pL2 st fun x y r => nx (j + 1) ls (vL (x + y) :: r) b M
  | .lsub => pL2 st fun x y r => nx (j + 1) ls (vL (x - y) :: r) b M
  | .lmul => pL2 st fun x y r => nx (j + 1) ls (vL (x * y) :: r) b M
  | .land => pL2 st fun x y r => nx (j + 1) ls (vL (x &&& y) :: r) b M
  | .lor => pL2 st fun x y r => nx (j + 1) ls (vL (x ||| y) :: r) b M
  | .ldiv => pL2 st fun x y r => gd (decide (¬ y = 0)) (nx (j + 1) ls (vL (x / y) :: r) b M)
  | .lrem => pL2 st fun x y r => gd (decide (¬ y = 0)) (nx (j + 1) ls (vL (x - x / y * y) :: r) b M)
  | .lcmp => pL2 st fun x y r => nx (j + 1) ls (vI (lcmpI x y) :: r) b M
  | .lushr => pIL st fun x y r => nx (j + 1) ls (vL (lushr x y) :: r) b M
  | .lshl => pIL st fun x y r => nx (j + 1) ls (vL (lshl x y) :: r) b M
  | .i2l => pI st fun x r => nx (j + 1) ls (vL (Int64.ofInt x) :: r) b M
  | .l2i => pL st fun x r => nx (j + 1) ls (vI x.toInt32.toInt :: r) b M
  | .i2b => pI st fun x r => nx (j + 1) ls (vI (ib8 x) :: r) b M
  | .dup => match st with
    | Sum.inl z :: r => nx (j + 1) ls (vI z :: vI z :: r) b M
    | Sum.inr (Sum.inr (Sum.inl q)) :: r => nx (j + 1) ls (vR q :: vR q :: r) b M
    | _ => none
  | .dup2 => match st with
    | Sum.inl z :: Sum.inr (Sum.inr (Sum.inl q)) :: r => nx (j + 1) ls (vI z :: vR q :: vI z :: vR q :: r) b M
    | _ => none
  | .pop => pI st fun _ r => nx (j + 1) ls r b M
  | .ifCond c _ => pI st fun x r => cndI c x 0 (tg o) (j + 1) ls r b M
  | .if_icmp c _ => pI2 st fun x y r => cndI c x y (tg o) (j + 1) ls r b M
  | .goto _ => nx (tg o) ls st b M
  | .ifnull _ => pQ st fun q r => br q.isNone (tg o) (j + 1) ls r b M
  | .ifnonnull _ => pQ st fun q r => br q.isNone (j + 1) (tg o) ls r b M
  | .tableswitch _ _ _ _ => pI st fun x r => nx (swT x (tg o) o.2.2.2.2) ls r b M
  | .lookupswitch _ _ => pI st fun x r => nx (swT x (tg o) o.2.2.2.2) ls r b M
  | .getfield _ => mGet o j ls st b M
  | .putfield _ => mPut o j ls st b M
  | .getstatic _ => nx (j + 1) ls (vR (some (n0 o)) :: st) b M
  | .arraylength => pR st fun a r => gd (decide (19 ≤ kd M.1 a) && decide (kd M.1 a ≤ 22)) (nx (j + 1) ls (vI (ln M.1 a) :: r) b M)
  | .iaload => pIR st fun a i r => gd ((decide (kd M.1 a = 20) || decide (kd M.1 a = 19)) && inB M.1 a i) (nx (j + 1) ls (vI (M.2.2.1 a i) :: r) b M)
  | .baload => pIR st fun a i r => gd ((decide (kd M.1 a = 21) || decide (kd M.1 a = 22)) && inB M.1 a i) (nx (j + 1) ls (vI (M.2.2.1 a i) :: r) b M)
  | .aaload => pIR st fun a i r => gd (decide (23 ≤ kd M.1 a) && decide (kd M.1 a ≤ 27) && inB M.1 a i) (nx (j + 1) ls (vR (if frK (kd M.1 a) = true then fz M.1 a i.toNat else M.2.1 a i) :: r) b M)
  | .iastore => pIIR st fun a i z r => gd (decide (kd M.1 a = 20) && inB M.1 a i) (nx (j + 1) ls r b (M.1, M.2.1, upM M.2.2.1 a i z, M.2.2.2))
  | .bastore => pIIR st fun a i z r => gd ((decide (kd M.1 a = 21) || (decide (kd M.1 a = 22) && z01 z)) && inB M.1 a i) (nx (j + 1) ls r b (M.1, M.2.1, upM M.2.2.1 a i (ib8 z), M.2.2.2))
  | .aastore => pRIR st fun a i v r => gd (decide (23 ≤ kd M.1 a) && decide (kd M.1 a ≤ 26) && decide (kd M.1 v = elK (kd M.1 a)) && inB M.1 a i && (!frK (kd M.1 a) || decide (i.toNat < frL M.1 a))) (nx (j + 1) ls r b (if frK (kd M.1 a) = true then (setFz M.1 a i.toNat (some v), M.2.1, M.2.2.1, M.2.2.2) else (M.1, upM M.2.1 a i (some v), M.2.2.1, M.2.2.2)))
  | .new _ => mNew [(n0 o, n1 o, List.replicate (n1 o) none)] 1 (n1 o) j ls st b M
  | .newarray _ => mArr (n0 o) j ls st b M
  | .anewarray _ => mArr (n0 o) j ls st b M
  | .multianewarray _ _ => pI2 st fun x y r => gd (decide (x = 6) && decide (y = 2)) (mNew ((27, 6, (List.range 6).map fun i => some (M.1.length + 1 + i)) :: List.replicate 6 (20, 2, [])) 7 18 j ls r b M)
  | .invokevirtual _ => mInv (n0 o) (n1 o) (some (n2 o)) (n3 o) (n4 o) (n6 o) j ls st b M
  | .invokestatic _ => mInv (n0 o) (n1 o) none (n3 o) (n4 o) (n6 o) j ls st b M
  | .invokespecial _ => if n5 o = 9 then pR st fun _ r => gd (decide (r.length ≤ 4)) (nx (j + 1) ls r b M) else mInv (n0 o) (n1 o) (some (n2 o)) (n3 o) (n4 o) (n6 o) j ls st b M
  | .ireturn => match st with
    | [Sum.inl z] => gd (if n0 o = 1 then z01 z else true) (some (Sum.inr (Sum.inr (some (vI z)))))
    | _ => none
  | .lreturn => match st with
    | [Sum.inr (Sum.inl x)] => some (Sum.inr (Sum.inr (some (vL x))))
    | _ => none
  | .areturn => match st with
    | [Sum.inr (Sum.inr (Sum.inl q))] => some (Sum.inr (Sum.inr (some (vR q))))
    | _ => none
  | .return_ => match st with
    | [] => some (Sum.inr (Sum.inr none))
    | _ => none
  | _ => none
