/-! what holds between the class's objects and the reference's rows -/
/-- the cells of a State at b: where its fields lead, how long its rows are -/
def zLayS (r : Nat → Nat → Nat) (ln : Nat → Nat) (b : Nat) : Prop :=
  (r b 0 = b + 1 ∧ r b 1 = b + 2 ∧ r b 2 = b + 3 ∧ r b 3 = b + 4 ∧ r b 4 = b + 5 ∧ r b 8 = b + 9 ∧ r b 9 = b + 10 ∧ r b 10 = b + 11 ∧ r b 11 = b + 12) ∧
  (r (b + 5) 0 = b + 6 ∧ r (b + 5) 3 = b + 7 ∧ r (b + 5) 5 = b + 8 ∧ r (b + 12) 0 = b + 13) ∧
  (ln (b + 1) = 8 ∧ ln (b + 2) = 8 ∧ ln (b + 3) = 6 ∧ ln (b + 4) = 42 ∧ ln (b + 6) = 6 ∧ ln (b + 7) = 120 ∧ ln (b + 8) = 120 ∧ ln (b + 9) = 12 ∧ ln (b + 10) = 40 ∧ ln (b + 11) = 8 ∧ ln (b + 13) = 7) ∧
  ∀ d : Nat, d < 40 → r (b + 10) d = b + 14 + 3 * d ∧ r (b + 14 + 3 * d) 0 = b + 15 + 3 * d ∧ r (b + 14 + 3 * d) 1 = b + 16 + 3 * d ∧ ln (b + 15 + 3 * d) = 7 ∧ ln (b + 16 + 3 * d) = 7
def zLayX (r : Nat → Nat → Nat) (ln : Nat → Nat) : Prop :=
  (r 1 0 = 2 ∧ r 1 1 = 136 ∧ r 1 2 = 270 ∧ r 1 3 = 404 ∧ r 1 4 = 405 ∧ r 1 5 = 411 ∧ r 1 6 = 414 ∧ r 1 7 = 419 ∧ ln 404 = 8) ∧
  (r 405 0 = 406 ∧ r 406 0 = 407 ∧ r 406 3 = 408 ∧ r 406 5 = 409 ∧ ln 407 = 6 ∧ ln 408 = 120 ∧ ln 409 = 120) ∧
  (r 411 0 = 412 ∧ r 411 3 = 413 ∧ ln 412 = 7 ∧ ln 413 = 40 ∧ r 414 0 = 415 ∧ r 414 3 = 416 ∧ r 414 4 = 417 ∧ r 414 5 = 418 ∧ ln 415 = 7 ∧ ln 416 = 12 ∧ ln 417 = 12 ∧ ln 418 = 72) ∧
  ∀ d : Nat, d < 8 → r 404 d = 420 + 2 * d ∧ r (420 + 2 * d) 0 = 421 + 2 * d ∧ ln (421 + 2 * d) = 120
def zLayM (r : Nat → Nat → Nat) (ln : Nat → Nat) : Prop :=
  (r 436 0 = 437 ∧ r 436 1 = 438 ∧ r 436 2 = 439 ∧ r 436 3 = 440 ∧ r 436 4 = 441 ∧ r 436 5 = 442 ∧ r 436 6 = 443 ∧ r 436 7 = 444 ∧ r 436 10 = 445 ∧ r 436 39 = 446 ∧ r 436 40 = 447 ∧ r 436 41 = 448 ∧ r 436 44 = 449 ∧ r 436 45 = 450 ∧ r 436 49 = 451) ∧
  (ln 437 = 1004 ∧ ln 438 = 1004 ∧ ln 439 = 8 ∧ ln 440 = 8 ∧ ln 441 = 8 ∧ ln 442 = 960 ∧ ln 443 = 8 ∧ ln 444 = 8 ∧ ln 445 = 7 ∧ ln 446 = 72 ∧ ln 447 = 12 ∧ ln 448 = 144 ∧ ln 449 = 40 ∧ ln 450 = 40 ∧ ln 451 = 1004 ∧ ln 452 = 1)
def zLay (S : zM) : Prop := 453 ≤ zsz S ∧ zLayS (zr S) (zln S) 2 ∧ zLayS (zr S) (zln S) 136 ∧ zLayS (zr S) (zln S) 270 ∧ zLayX (zr S) (zln S) ∧ zLayM (zr S) (zln S)
theorem zLay.fr {W : Nat → Nat → Prop} {S S1 : zM} (h : zLay S) (f : zF W S S1) : zLay S1 := by
  unfold zLay at h ⊢
  rw [f.r, f.n, f.s]
  exact h
theorem zLay.pI {S : zM} {a k : Nat} {v : Int32} (h : zLay S) : zLay (zpI S a k v) := by
  unfold zLay at h ⊢
  rw [mr_pI, mln_pI, msz_pI]
  exact h
/-- a dive's fields and rows -/
def zRepD (i : Nat → Nat → Int32) (q : Nat) (g : Nat → Int32) (t : Nat) : Prop :=
  i q 2 = g t ∧ i q 3 = g (t + 1) ∧ i q 4 = g (t + 2) ∧ i q 5 = g (t + 3) ∧ i q 6 = g (t + 4) ∧
  ∀ c : Nat, c < 7 → i (q + 1) c = (if g (t + 5 + c) = 0 then -128 else g (t + 5 + c) - 1) ∧ i (q + 2) c = g (t + 12 + c) - 1
/-- a judge's fields -/
def zRepJ (S : zM) (q j : Nat) (g : Nat → Int32) : Prop :=
  453 ≤ q ∧ q < zsz S ∧ zi S q 0 = nI j ∧ zi S q 1 = g (16 + 4 * j) ∧ zi S q 2 = g (17 + 4 * j) ∧ zi S q 3 = g (18 + 4 * j) ∧ zi S q 4 = g (19 + 4 * j)
/-- the code of the sum that a text spells: 0 sum, 1 rest of a sum, 2 product, 3 rest of a product, 4 atom; d: how many brackets may still open -/
def zpF (x : Int32) : Bool := x = 115 || x = 110 || x = 104 || x = 109 || x = 97 || x = 122 || x = 112
def zpG (x : Int32) : Bool := decide (48 ≤ x) && decide (x ≤ 57)
def zpN : Nat → Int32 → List Int32 → Int32 × List Int32
  | 0, v, t => (v, t)
  | k + 1, v, t => match t with
    | [] => (v, [])
    | x :: r => if 0 < v ∧ zpG x = true then zpN k (10 * v + x - 48) r else (v, t)
def zpA (x : Int32) (q : List Int32 × List Int32) : Option (List Int32 × List Int32) := match q.2 with
  | [] => none
  | y :: r => if y = x then some (q.1, r) else none
def zp : Nat → Nat → Nat → List Int32 → List Int32 → Option (List Int32 × List Int32)
  | 0, _, _, _, _ => none
  | f + 1, 0, d, a, t => (zp f 2 d a t).bind fun q => zp f 1 d q.1 q.2
  | f + 1, 1, d, a, t => match t with
    | [] => some (a, [])
    | x :: r => if x = 43 ∨ x = 45 then (zp f 2 d a r).bind fun q => zp f 1 d (q.1 ++ [0 - x]) q.2 else some (a, t)
  | f + 1, 2, d, a, t => (zp f 4 d a t).bind fun q => zp f 3 d q.1 q.2
  | f + 1, 3, d, a, t => match t with
    | [] => some (a, [])
    | x :: r => if x = 42 ∨ x = 47 then (zp f 4 d a r).bind fun q => zp f 3 d (q.1 ++ [0 - x]) q.2 else some (a, t)
  | f + 1, _ + 4, d, a, t => match t with
    | [] => none
    | x :: r =>
      if x = 40 then (if d = 0 then none else (zp f 0 (d - 1) a r).bind fun q => zpA 41 q)
      else if x = 91 ∨ x = 123 then (if d = 0 then none else (zp f 0 (d - 1) a r).bind fun q => (zpA 44 q).bind fun q => (zp f 0 (d - 1) q.1 q.2).bind fun q => zpA (x + 2) (q.1 ++ [0 - x], q.2))
      else if zpF x = true then some (a ++ [0 - x], r)
      else if zpG x = true then some (a ++ [(zpN 2 (x - 48) r).1], (zpN 2 (x - 48) r).2) else none
/-- a rule's fields and code: the code is that of the text at 880 -/
def zTx (g : Nat → Int32) (t n : Nat) : List Int32 := (List.range n).map fun k => g (t + k)
def zRepR (S : zM) (q : Nat) (g : Nat → Int32) : Prop :=
  (∀ p : Nat, p < 6 → zi S (q + 1) p = g (872 + p)) ∧ zi S q 1 = g 878 ∧ zi S q 2 = g 879 ∧
  ∃ (n : Nat) (cd : List Int32), n ≤ 120 ∧ g 1000 = nI n ∧ zp 1000 0 6 [] (zTx g 880 n) = some (cd, []) ∧ cd.length ≤ n ∧ zi S q 4 = nI cd.length ∧ ∀ k : Nat, k < cd.length → cd[k]? = some (zi S (q + 2) k)
/-- the State at b holds what the row g holds -/
def zRep (S : zM) (b : Nat) (g : Nat → Int32) : Prop :=
  (∀ i : Nat, i < 8 → zi S (b + 1) i = g (2 * i) ∧ zi S (b + 2) i = g (2 * i + 1)) ∧ (∀ h : Nat, h < 6 → zi S (b + 3) h = g (64 + h)) ∧ (∀ q : Nat, q < 42 → zi S (b + 4) q = g (70 + q) - 1) ∧
  (zi S b 5 = g 1001 ∧ zi S b 6 = g 1002 ∧ zi S b 7 = g 1003) ∧ zRepR S (b + 5) g ∧
  (∀ j : Nat, nI j < g 1002 → j < 12 → zRepJ S (zr S (b + 9) j) j g) ∧
  ∀ v : Nat, nI v < g 1003 → v < 40 → zRepD (zi S) (b + 14 + 3 * v) g (112 + 19 * v)
/-- the row's own bounds -/
def zBd (g : Nat → Int32) : Prop :=
  ∃ nd nj nv : Nat, (nd ≤ 8 ∧ nj ≤ 12 ∧ nv ≤ 40 ∧ g 1001 = nI nd ∧ g 1002 = nI nj ∧ g 1003 = nI nv) ∧
  (∀ i : Nat, i < nd → zU (g (2 * i)) 6 ∧ zU (g (2 * i + 1)) 10) ∧
  (∀ j : Nat, j < nj → zU (g (16 + 4 * j)) 8 ∧ zU (g (17 + 4 * j)) 6 ∧ zU (g (18 + 4 * j)) 10 ∧ zU (g (19 + 4 * j)) 6) ∧
  (∀ h : Nat, h < 6 → zU (g (64 + h)) 41) ∧ (∀ q : Nat, q < 42 → zU (g (70 + q)) (nj + 1)) ∧
  (∀ h c c1 : Nat, h < 6 → c < 7 → c1 < 7 → c ≠ c1 → g (70 + 7 * h + c) = g (70 + 7 * h + c1) → g (70 + 7 * h + c) = 0) ∧
  (∀ p : Nat, p < 6 → zU (g (872 + p)) 21) ∧ zU (g 878) 4 ∧ zU (g 879) 4 ∧
  ∀ v : Nat, v < nv → zU (g (112 + 19 * v)) 6 ∧ zU (g (112 + 19 * v + 1)) nd ∧ zU (g (112 + 19 * v + 2)) 64 ∧ zU (g (112 + 19 * v + 3)) 10 ∧ zU (g (112 + 19 * v + 4)) 41 ∧
    (∀ c : Nat, c < 7 → zU (g (112 + 19 * v + 5 + c)) 22 ∧ zU (g (112 + 19 * v + 12 + c)) (nj + 1) ∧ (g (112 + 19 * v + 5 + c) = 0 → g (112 + 19 * v + 12 + c) = 0)) ∧
    ∀ c c1 : Nat, c < 7 → c1 < 7 → c ≠ c1 → g (112 + 19 * v + 12 + c) = g (112 + 19 * v + 12 + c1) → g (112 + 19 * v + 12 + c) = 0
/-- a shelf: nothing, a judge (what can be asked of it), a row -/
def zRepK (S : zM) (d : Nat) : Prop :=
  (zi S 439 d = 0 ∧ zi S (420 + 2 * d) 4 = 0 ∧ zr S (420 + 2 * d) 1 = 0) ∨
  (zi S 439 d = 1 ∧ zi S (420 + 2 * d) 4 = 0 ∧ 453 ≤ zr S (420 + 2 * d) 1 ∧ zr S (420 + 2 * d) 1 < zsz S ∧ f_X2_heft S (zr S (420 + 2 * d) 1) = zi S 443 d ∧ (if zthr S (zr S (420 + 2 * d) 1) = true then f_X2_failureNumber S (zr S (420 + 2 * d) 1) else -15) = zi S 444 d) ∨
  (zi S 439 d = 2 ∧ zi S (420 + 2 * d) 4 = 1 ∧ zr S (420 + 2 * d) 1 = 0 ∧ zi S (420 + 2 * d) 2 = zi S 440 d ∧ zU (zi S 440 d) 3 ∧ zi S (420 + 2 * d) 3 = zi S 441 d ∧ zU (zi S 441 d) 121 ∧ ∀ k : Nat, k < 120 → zi S (421 + 2 * d) k = zi S 442 (120 * d + k) ∧ (zi S 440 d = 0 → -128 ≤ zi S 442 (120 * d + k) ∧ zi S 442 (120 * d + k) ≤ 127))
/-- THE INVARIANT -/
def zInv (S : zM) : Prop := zLay S ∧ zRep S 2 (zi S 437) ∧ zBd (zi S 437) ∧ (zi S 1 8 = zi S 436 8 ∧ (zi S 1 8 = 0 ∨ zi S 1 8 = 1)) ∧ (zi S 1 8 = 1 → zRep S 136 (zi S 438) ∧ zBd (zi S 438)) ∧ (∀ d : Nat, d < 8 → zRepK S d) ∧ zi S 436 33 = 0
