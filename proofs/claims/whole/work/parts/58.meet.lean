-- ===== whether two heads can be one: as the class finds it out; both ways agree =====
/-- of a node: is there a letter, its sign, its parts (15: none) -/
def cS (h1 h2 : List Nat) (n : Nat) : Nat := if uL h1 h2 n < 6 then uL h1 h2 n else 0
def cF (h1 h2 : List Nat) (n : Nat) : Nat := if uL h1 h2 n < 6 ∧ 0 < pts (uL h1 h2 n) then n + 1 else 15
def cP (h1 h2 : List Nat) (n : Nat) : Nat := if uL h1 h2 n < 6 ∧ 1 < pts (uL h1 h2 n) then (if n < 5 then en h1 (n + 1) else 5 + en h2 (n - 5 + 1)) else 15
def cQ (h : List Nat) (off : Nat) : Nat → List (Nat × Nat)
  | 0 => []
  | p + 1 => cQ h off p ++ (if fsP h p = p then [] else [(off + fsP h p, off + p)])
def ldF (ld : List Nat) : Nat → Nat → Nat
  | 0, n => n
  | f + 1, n => if ld.getD n 0 = n then n else ldF ld f (ld.getD n 0)
def cNew (a b : Nat) : List (Nat × Nat) := if a < 10 ∧ b < 10 then [(a, b)] else []
/-- groups are brought together: leaders, what waits, how many waited so far -/
def cB (sg fp sp : List Nat) : Nat → List Nat → List (Nat × Nat) → Nat → Option (Bool × List Nat)
  | 0, _, _, _ => none
  | f + 1, ld, q, t => match q with
    | [] => some (true, ld)
    | x :: r =>
      let a := ldF ld 10 x.1
      let b := ldF ld 10 x.2
      if a = b then cB sg fp sp f ld r t
      else if 4 ≤ sg.getD a 0 then cB sg fp sp f (ld.set a b) r t
      else if 4 ≤ sg.getD b 0 then cB sg fp sp f (ld.set b a) r t
      else if 36 < t then none
      else if sg.getD a 0 = sg.getD b 0 then cB sg fp sp f (ld.set b a) (r ++ (cNew (fp.getD a 15) (fp.getD b 15) ++ cNew (sp.getD a 15) (sp.getD b 15))) (t + (cNew (fp.getD a 15) (fp.getD b 15) ++ cNew (sp.getD a 15) (sp.getD b 15)).length)
      else some (false, ld)
/-- which groups end: one node, one round -/
def cE (l1 l2 : List Nat) (e n : Nat) : Nat := if (decide (10 ≤ l1.getD n 15) || e.testBit (l1.getD n 15)) && (decide (10 ≤ l2.getD n 15) || e.testBit (l2.getD n 15)) then e ||| 2 ^ n else ndf e (2 ^ n)
def cR (l1 l2 : List Nat) : Nat → Nat → Nat
  | 0, e => e
  | n + 1, e => cE l1 l2 (cR l1 l2 n e) n
def cI (l1 l2 : List Nat) : Nat → Nat → Nat
  | 0, e => e
  | k + 1, e => if cR l1 l2 10 e = e then e else cI l1 l2 k (cR l1 l2 10 e)
def tab (f : Nat → Nat) : List Nat := [f 0, f 1, f 2, f 3, f 4, f 5, f 6, f 7, f 8, f 9]
def ldP (ld : List Nat) (x : Nat) : Nat := if x < 10 then ldF ld 10 x else 15
def met (h1 h2 : List Nat) : Option Bool :=
  match cB (tab (cS h1 h2)) (tab (cF h1 h2)) (tab (cP h1 h2)) 40 [0, 1, 2, 3, 4, 5, 6, 7, 8, 9] (cQ h1 0 h1.length ++ cQ h2 5 h2.length ++ [(0, 5)]) (cQ h1 0 h1.length ++ cQ h2 5 h2.length ++ [(0, 5)]).length with
  | none => none
  | some (false, _) => some false
  | some (true, ld) => some ((cI (tab (fun n => ldP ld (cF h1 h2 n))) (tab (fun n => ldP ld (cP h1 h2 n))) 10 0).testBit (ldF ld 10 0))
def allW : Nat → Nat → List (List Nat)
  | 0, k => if k = 0 then [[]] else []
  | n + 1, k => match k with
    | 0 => []
    | k' + 1 => [0, 1, 2, 3, 4, 5].flatMap (fun s => (allW n (k' + pts s)).map (fun t => s :: t))
def chk (h1 h2 : List Nat) : Bool := match uni h1 h2 with
  | none => false
  | some b => decide (met h1 h2 = some b) && decide (uni h2 h1 = some b)
def hdsU (n : Nat) : List (List Nat) := allW 1 1 ++ allW 2 1 ++ allW 3 1 ++ (if 3 < n then allW 4 1 else []) ++ (if 4 < n then allW 5 1 else [])
