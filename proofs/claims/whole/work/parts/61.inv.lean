/-! the invariant: what the class's cells and the model's say alike -/
theorem ms_row (M : IM) (o i : Nat) (v : Int32) (p : Nat) : ms M o i v p = if p = o then upd (M o) i v else M p := by
  rw [ms_eq]
  rfl
theorem mr_row (M : IM) (o : Nat) (f : Nat → Int32) (p : Nat) : mr M o f p = if p = o then f else M p := rfl
def bnd (x : Int32) (lo hi : Int) : Prop := lo ≤ x.toInt ∧ x.toInt ≤ hi
/-- a Now (its numbers n, parishes, feet, hours in a row) and the model's row of forty -/
def RNw (n pa fe ro q : Nat → Int32) : Prop := q 0 = n 1 ∧ q 1 = n 0 ∧ q 2 = n 9 ∧ q 3 = n 2 ∧ q 4 = n 3 ∧ q 5 = n 4 ∧ q 6 = n 5 ∧ q 7 = n 6 ∧ q 8 = n 7 ∧ q 9 = n 8 ∧ ∀ w : Nat, w < 10 → q (10 + w) = fe w ∧ q (20 + w) = ro w ∧ q (30 + w) = pa w
/-- a Now's bounds -/
def OkN (n pa la fe ro : Nat → Int32) : Prop := bnd (n 1) 0 9999 ∧ bnd (n 4) 0 (n 1).toInt ∧ bnd (n 8) 0 9999 ∧ bnd (n 9) 0 150 ∧ bnd (n 10) 0 10 ∧ ∀ w : Nat, w < 10 → bnd (pa w) 0 7 ∧ bnd (la w) 0 1 ∧ bnd (fe w) 0 999 ∧ bnd (ro w) 0 999
/-- where the saint is, in a round of r 0 stones of hr hours -/
def OkL (n r hr : Nat → Int32) : Prop := (r 0 = 0 ∧ n 2 = 0 ∧ n 3 = 0) ∨ (0 ≤ (n 2).toInt ∧ (n 2).toInt < (r 0).toInt ∧ 0 ≤ (n 3).toInt ∧ (n 3).toInt < (hr (n 2).toNatClampNeg).toInt)
/-- the round: class rows, and the model's four numbers a stone from the place b of q on -/
def RRd (r pa hr ri fo : Nat → Int32) (sm : Int32) (q : Nat → Int32) : Prop := sm = r 0 ∧ bnd (r 0) 0 8 ∧ ∀ i : Nat, i < (r 0).toNatClampNeg → (q (4 * i) = pa i ∧ q (4 * i + 1) = hr i ∧ q (4 * i + 2) = ri i ∧ q (4 * i + 3) = fo i) ∧ bnd (pa i) 0 7 ∧ bnd (hr i) 1 24 ∧ bnd (ri i) 0 (hr i).toInt ∧ bnd (fo i) 0 99
/-- does a shift from f for h hours have the clock c -/
def inSh (f h : Int) (c : Nat) : Bool := decide (((c : Int) - f + 24) % 24 < h)
/-- the shifts: class rows (walker, clocks), the model's three numbers a line; wk: how many walkers there are -/
def RSh (s wa ck : Nat → Int32) (sm : Int32) (q : Nat → Int32) (wk : Int32) : Prop := sm = s 0 ∧ bnd (s 0) 0 16 ∧ ∀ i : Nat, i < (s 0).toNatClampNeg → q (3 * i) = wa i ∧ 0 ≤ (wa i).toInt ∧ (wa i).toInt < wk.toInt ∧ bnd (q (3 * i + 1)) 0 23 ∧ bnd (q (3 * i + 2)) 1 24 ∧ bnd (ck i) 0 16777215 ∧ ∀ c : Nat, c < 24 → ((ck i).toInt.toNat.testBit c = inSh (q (3 * i + 1)).toInt (q (3 * i + 2)).toInt c)
/-- a code of the class's, as the model's pairs -/
def encC (c : Int32) : List (Int32 × Int32) :=
  if c < 10000 then [(0, c)] else if c < 10009 then [(1, c - 10000)] else if c = 20043 then [(2, 0)] else if c = 20045 then [(3, 0)] else if c = 20042 then [(4, 0)] else if 40000 < c then [(0, c - 40000), (5, 0)] else if c = 20060 then [(6, 0)] else if c = 20061 then [(7, 0)] else if c = 20062 then [(8, 0)] else if c = 10017 then [(9, 0)] else if c = 10016 then [(10, 0)] else [(11, 0)]
/-- the kinds on the stack behind a code (true: a truth, 0 or 1); none: it can't be done -/
def depC (d : List Bool) (c : Int32) : Option (List Bool) :=
  if c < 10009 then (if 0 ≤ c then some (false :: d) else none)
  else if c = 10017 then (match d with
    | true :: t => some (true :: t)
    | _ => none)
  else if 40000 < c then (if c ≤ 49999 then (match d with
    | false :: t => some (false :: t)
    | _ => none) else none)
  else if c = 20043 ∨ c = 20045 ∨ c = 20042 then (match d with
    | false :: false :: t => some (false :: t)
    | _ => none)
  else if c = 20060 ∨ c = 20061 ∨ c = 20062 then (match d with
    | false :: false :: t => some (true :: t)
    | _ => none)
  else if c = 10016 ∨ c = 10015 then (match d with
    | true :: true :: t => some (true :: t)
    | _ => none)
  else none
/-- codes from a stack on: the kinds behind them, never more than 22 -/
def depL : List Bool → List Int32 → Option (List Bool)
  | d, [] => some d
  | d, c :: t => match depC d c with
    | some e => if e.length ≤ 22 then depL e t else none
    | none => none
/-- a line of a law: word, codes of its amount, codes of its condition -/
abbrev LLn : Type := Int32 × List Int32 × List Int32
def encL (l : List Int32) : List (Int32 × Int32) := l.flatMap encC
/-- class rows of a law hold these lines, one behind the other from the place p on -/
def CLw (wo fr wh sp co : Nat → Int32) : Nat → Nat → List LLn → Prop
  | _, _, [] => True
  | i, p, (w, e, b) :: t => wo i = w ∧ fr i = nI p ∧ wh i = nI (p + e.length) ∧ sp i = nI (p + e.length + b.length) ∧ (∀ k : Nat, k < e.length → co (p + k) = e.getD k 0) ∧ (∀ k : Nat, k < b.length → co (p + e.length + k) = b.getD k 0) ∧ CLw wo fr wh sp co (i + 1) (p + e.length + b.length) t
/-- the model's rows of a law -/
def MLw (wo fr wh sp op ag : Nat → Int32) : Nat → Nat → List LLn → Prop
  | _, _, [] => True
  | i, p, (w, e, b) :: t => wo i = w - 10009 ∧ fr i = nI p ∧ wh i = nI (p + (encL e).length) ∧ sp i = nI (p + (encL e).length + (encL b).length) ∧ (∀ k : Nat, k < (encL e).length → op (p + k) = ((encL e).getD k (0, 0)).1 ∧ ag (p + k) = ((encL e).getD k (0, 0)).2) ∧ (∀ k : Nat, k < (encL b).length → op (p + (encL e).length + k) = ((encL b).getD k (0, 0)).1 ∧ ag (p + (encL e).length + k) = ((encL b).getD k (0, 0)).2) ∧ MLw wo fr wh sp op ag (i + 1) (p + (encL e).length + (encL b).length) t
/-- a good line: of going (no amount) or of feet (an amount), its condition empty or leaving one value -/
def OkLn (feet : Bool) (l : LLn) : Prop := (if feet then bnd l.1 10011 10013 ∧ depL [] l.2.1 = some [false] else bnd l.1 10009 10010 ∧ l.2.1 = []) ∧ (l.2.2 = [] ∨ depL [] l.2.2 = some [true])
def lnLen (l : List LLn) : Nat := (l.map fun x => x.2.1.length + x.2.2.length).sum
def lnEnc (l : List LLn) : Nat := (l.map fun x => (encL x.2.1).length + (encL x.2.2).length).sum
def RLw (feet : Bool) (a wo fr wh sp co : Nat → Int32) (lm : Int32) (mwo mfr mwh msp mop mag : Nat → Int32) : Prop := ∃ l : List LLn, l.length ≤ 16 ∧ (∀ x ∈ l, OkLn feet x) ∧ lnLen l ≤ 400 ∧ lnEnc l ≤ 400 ∧ a 0 = nI l.length ∧ a 5 = nI (lnLen l) ∧ lm = nI l.length ∧ CLw wo fr wh sp co 0 0 l ∧ MLw mwo mfr mwh msp mop mag 0 0 l
/-- all that is told but the Nows, class rows from o on, against the model's numbers -/
def RTd (M : IM) (o : Nat) (wk : Int32) (le fl wr sm hm : Int32) (rds sts shs : Nat → Int32) (lm0 : Int32) (w0 f0 h0 t0 op0 ag0 : Nat → Int32) (lm1 : Int32) (w1 f1 h1 t1 op1 ag1 : Nat → Int32) : Prop :=
  le = M o 0 ∧ fl = M o 1 ∧ wr = M o 2 ∧ bnd (M o 0) 0 10 ∧ bnd (M o 1) 0 1000 ∧ bnd (M o 2) 0 1000 ∧ (∀ i : Nat, i < 64 → rds i = M (o + 1) i ∧ bnd (M (o + 1) i) 0 99) ∧
  RLw false (M (o + 2)) (M (o + 3)) (M (o + 4)) (M (o + 5)) (M (o + 6)) (M (o + 7)) lm0 w0 f0 h0 t0 op0 ag0 ∧ RLw true (M (o + 8)) (M (o + 9)) (M (o + 10)) (M (o + 11)) (M (o + 12)) (M (o + 13)) lm1 w1 f1 h1 t1 op1 ag1 ∧
  RRd (M (o + 14)) (M (o + 15)) (M (o + 16)) (M (o + 17)) (M (o + 18)) sm sts ∧ RSh (M (o + 19)) (M (o + 20)) (M (o + 21)) hm shs wk
/-- the present -/
def IvNow (M : IM) : Prop := RNw (M 1) (M 2) (M 4) (M 5) (M 137) ∧ OkN (M 1) (M 2) (M 3) (M 4) (M 5) ∧ OkL (M 1) (M 20) (M 22) ∧ M 136 6 = M 1 10 ∧ ∀ w : Nat, w < 10 → M 140 w = M 3 w
def IvTold (M : IM) : Prop := RTd M 6 (M 1 10) (M 136 8) (M 136 9) (M 136 10) (M 136 36) (M 136 38) (M 141) (M 153) (M 154)
  (M 145 0) (M 146) (M 147) (M 148) (M 149) (M 150) (M 151) (M 145 1) (fun i => M 146 (16 + i)) (fun i => M 147 (16 + i)) (fun i => M 148 (16 + i)) (fun i => M 149 (16 + i)) (fun i => M 150 (400 + i)) (fun i => M 151 (400 + i))
def IvBook (M : IM) : Prop := ∀ i : Nat, i < 150 → M 142 (3 * i) = M 31 i ∧ M 142 (3 * i + 1) = M 32 i ∧ M 142 (3 * i + 2) = M 33 i
/-- what can be undone -/
def IvPast (M : IM) : Prop := M 136 3 = M 34 0 ∧ bnd (M 34 0) 0 6 ∧ ∃ k : Nat → Nat, (∀ j : Nat, j < 6 → k j < 6 ∧ M 35 j = nI (36 + 5 * k j + 1)) ∧ (∀ i j : Nat, i < 6 → j < 6 → k i = k j → i = j) ∧
  ∀ j : Nat, j < (M 34 0).toNatClampNeg → RNw (M (36 + 5 * k j)) (M (37 + 5 * k j)) (M (39 + 5 * k j)) (M (40 + 5 * k j)) (fun i => M 138 (40 * j + i)) ∧ OkN (M (36 + 5 * k j)) (M (37 + 5 * k j)) (M (38 + 5 * k j)) (M (39 + 5 * k j)) (M (40 + 5 * k j)) ∧ OkL (M (36 + 5 * k j)) (M 20) (M 22) ∧ M (36 + 5 * k j) 10 = M 1 10 ∧ ∀ w : Nat, w < 10 → M (38 + 5 * k j) w = M 3 w
def IvTape (M : IM) : Prop := M 136 14 = M 0 9 ∧ bnd (M 0 9) 0 400 ∧ ∀ i : Nat, i < 400 → M 143 i = M 99 i ∧ bnd (M 99 i) 0 255
def IvFault (M : IM) : Prop := M 136 34 = M 100 0 ∧ M 136 35 = M 100 1 ∧ M 136 5 = 0
/-- the model's words, as its constructor lays them -/
def IvWords (M : IM) : Prop := ∀ i : Nat, i < 104 → M 144 i = M0 144 i
/-- the image -/
def IvImg (M : IM) : Prop := (M 0 7 = 0 ∧ M 136 50 = 0) ∨ (M 0 7 = 1 ∧ M 136 50 = 1 ∧ RNw (M 66) (M 67) (M 69) (M 70) (M 164) ∧ OkN (M 66) (M 67) (M 68) (M 69) (M 70) ∧ OkL (M 66) (M 85) (M 87) ∧ M 164 40 = M 66 10 ∧ (∀ w : Nat, w < 10 → M 164 (46 + w) = M 68 w) ∧
  RTd M 71 (M 66 10) (M 164 41) (M 164 42) (M 164 43) (M 164 44) (M 164 45) (fun i => M 164 (56 + i)) (fun i => M 164 (120 + i)) (fun i => M 164 (152 + i))
    (M 164 650) (fun i => M 164 (651 + 4 * i)) (fun i => M 164 (652 + 4 * i)) (fun i => M 164 (653 + 4 * i)) (fun i => M 164 (654 + 4 * i)) (fun i => M 164 (715 + 2 * i)) (fun i => M 164 (716 + 2 * i))
    (M 164 1515) (fun i => M 164 (1516 + 4 * i)) (fun i => M 164 (1517 + 4 * i)) (fun i => M 164 (1518 + 4 * i)) (fun i => M 164 (1519 + 4 * i)) (fun i => M 164 (1580 + 2 * i)) (fun i => M 164 (1581 + 2 * i)) ∧
  ∀ i : Nat, i < 150 → M 164 (200 + 3 * i) = M 96 i ∧ M 164 (200 + 3 * i + 1) = M 97 i ∧ M 164 (200 + 3 * i + 2) = M 98 i)
def Inv (M : IM) : Prop := IvNow M ∧ IvTold M ∧ IvBook M ∧ IvPast M ∧ IvTape M ∧ IvFault M ∧ IvWords M ∧ IvImg M
