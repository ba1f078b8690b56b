-- ===== what a text of a law tells: the reference's reading, as functions =====
section LAWSPEC
variable (T : Nat → Int32) (N : Nat)
def byS (k : Nat) : Int32 := if N ≤ k then -1 else T k
def skS : Nat → Nat → Nat
  | 0, p => p
  | f + 1, p => if byS T N p = 32 then skS f (p + 1) else p
def digB (v : Int32) : Bool := inS v 48 57
def letB (v : Int32) : Bool := inS v 97 122
/-- digits from p on: where they end -/
def diS : Nat → Nat → Nat
  | 0, p => p
  | f + 1, p => if digB (byS T N p) then diS f (p + 1) else p
def leS : Nat → Nat → Nat
  | 0, p => p
  | f + 1, p => if letB (byS T N p) then leS f (p + 1) else p
/-- the number of digits from p on, the first four of them counted from b -/
def nuS (b : Nat) : Nat → Nat → Int32 → Int32
  | 0, _, v => v
  | f + 1, p, v => if digB (byS T N p) then nuS b f (p + 1) (if p - b < 4 then 10 * v + byS T N p - 48 else v) else v
def WL : List (List Nat) := [[103, 111, 111, 100], [101, 110, 111, 117, 103, 104], [114, 101, 99, 97, 108, 108], [109, 97, 121], [121, 101, 97, 114, 115], [111, 114], [97, 110, 100], [110, 111, 116], [110, 97, 109, 101], [115, 117, 114, 101], [102, 97, 116, 104, 101, 114], [119, 97, 114, 100], [103, 97, 116, 101], [116, 119, 111], [114, 101, 97, 100, 121], [116, 111, 116, 97, 108], [102, 105, 114, 115, 116], [115, 101, 99, 111, 110, 100], [116, 114, 105, 98, 101, 115], [121, 101, 115], [100, 97, 121, 115]]
/-- does the word stand from b to e -/
def spS : List Nat → Nat → Nat → Bool
  | [], b, e => decide (b = e)
  | c :: w, b, e => decide (b < e) && decide (byS T N b = nI c) && spS w (b + 1) e
def wiS (b e : Nat) : Nat → List (List Nat) → Option Nat
  | _, [] => none
  | k, w :: r => if spS T N w b e then some k else wiS b e (k + 1) r
def opB (c : Int32) : Bool := decide (c = 59 ∨ c = 40 ∨ c = 41 ∨ c = 60 ∨ c = 61 ∨ c = 62 ∨ c = 43 ∨ c = 45)
/-- the token behind p: begin, end, sort, what it tells -/
def nxS (p : Nat) : Nat × Nat × Int32 × Int32 :=
  let b := skS T N 400 p
  let c := byS T N b
  if c < 0 then (b, b, 0, 0)
  else if digB c then (b, diS T N 400 b, if diS T N 400 b - b > 4 then 1 else 3, nuS T N b 400 b 0)
  else if letB c then match wiS T N b (leS T N 400 b) 0 WL with
    | some k => (b, leS T N 400 b, 2, nI k)
    | none => (b, leS T N 400 b, 1, 0)
  else (b, b + 1, if opB c then c else 1, 0)
def tB (p : Nat) : Nat := (nxS T N p).1
def tA (p : Nat) : Nat := (nxS T N p).2.1
def tK (p : Nat) : Int32 := (nxS T N p).2.2.1
def tV (p : Nat) : Int32 := (nxS T N p).2.2.2
def isW (p : Nat) (w : Int32) : Bool := decide (tK T N p = 2 ∧ tV T N p = w)
def facS (line w : Int32) : Int32 :=
  if line = 0 then (if inS w 8 14 then w - 8 else -1)
  else if line = 1 then (if inS w 15 18 then w - 15 else -1)
  else if line = 2 then (if w = 19 then 0 else if w = 15 then 1 else -1)
  else (if w = 20 then 0 else if w = 4 then 1 else -1)
variable (F : Nat → Int32) (line : Int32)
def termS (p : Nat) : Nat ⊕ (Int32 × Nat) :=
  if tK T N p = 3 then .inr (tV T N p, tA T N p)
  else if tK T N p = 2 ∧ ¬ facS line (tV T N p) < 0 then .inr (F (facS line (tV T N p)).toNatClampNeg, tA T N p)
  else .inl (tB T N p)
def sumL : Nat → Int32 → Nat → Nat ⊕ (Int32 × Nat)
  | 0, v, p => .inr (v, p)
  | f + 1, v, p => if tK T N p = 43 ∨ tK T N p = 45 then match termS T N F line (tA T N p) with
      | .inl e => .inl e
      | .inr q => sumL f (if tK T N p = 43 then v + q.1 else v - q.1) q.2
    else .inr (v, p)
def sumS (p : Nat) : Nat ⊕ (Int32 × Nat) := match termS T N F line p with
  | .inl e => .inl e
  | .inr q => sumL T N F line 400 q.1 q.2
def notL : Nat → Bool → Nat → Bool × Nat
  | 0, t, p => (t, p)
  | f + 1, t, p => if isW T N p 7 then notL f (!t) (tA T N p) else (t, p)
def cmpS (p : Nat) : Nat ⊕ (Bool × Nat) := match sumS T N F line p with
  | .inl e => .inl e
  | .inr q => if tK T N q.2 = 60 ∨ tK T N q.2 = 61 ∨ tK T N q.2 = 62 then match sumS T N F line (tA T N q.2) with
      | .inl e => .inl e
      | .inr z => .inr (if tK T N q.2 = 60 then decide (q.1 < z.1) else if tK T N q.2 = 61 then decide (q.1 = z.1) else decide (z.1 < q.1), z.2)
    else .inr (decide (q.1 ≠ 0), q.2)
def sngS (inner : Option (Nat → Nat ⊕ (Bool × Nat))) (p : Nat) : Nat ⊕ (Bool × Nat) :=
  let z := notL T N 400 false p
  if tK T N z.2 = 40 then match inner with
    | none => .inl (tB T N z.2)
    | some g => match g (tA T N z.2) with
      | .inl e => .inl e
      | .inr q => if tK T N q.2 = 41 then .inr (q.1 != z.1, tA T N q.2) else .inl (tB T N q.2)
  else match cmpS T N F line z.2 with
    | .inl e => .inl e
    | .inr q => .inr (q.1 != z.1, q.2)
def evL (inner : Option (Nat → Nat ⊕ (Bool × Nat))) : Nat → Bool → Nat → Nat ⊕ (Bool × Nat)
  | 0, v, p => .inr (v, p)
  | f + 1, v, p => if isW T N p 6 then match sngS T N F line inner (tA T N p) with
      | .inl e => .inl e
      | .inr q => evL inner f (v && q.1) q.2
    else .inr (v, p)
def evS (inner : Option (Nat → Nat ⊕ (Bool × Nat))) (p : Nat) : Nat ⊕ (Bool × Nat) := match sngS T N F line inner p with
  | .inl e => .inl e
  | .inr q => evL T N F line inner 400 q.1 q.2
def orL (inner : Option (Nat → Nat ⊕ (Bool × Nat))) : Nat → Bool → Nat → Nat ⊕ (Bool × Nat)
  | 0, v, p => .inr (v, p)
  | f + 1, v, p => if isW T N p 5 then match evS T N F line inner (tA T N p) with
      | .inl e => .inl e
      | .inr q => orL inner f (v || q.1) q.2
    else .inr (v, p)
def orS (inner : Option (Nat → Nat ⊕ (Bool × Nat))) (p : Nat) : Nat ⊕ (Bool × Nat) := match evS T N F line inner p with
  | .inl e => .inl e
  | .inr q => orL T N F line inner 400 q.1 q.2
/-- a condition with so many brackets that may still be opened -/
def conS : Nat → Nat → Nat ⊕ (Bool × Nat)
  | 0 => orS T N F line none
  | r + 1 => orS T N F line (some (conS r))
end LAWSPEC
section LAWSPEC2
variable (T : Nat → Int32) (N : Nat) (F : Nat → Int32)
def linS (l : Nat) (p : Nat) : Nat ⊕ (Int32 × Nat) :=
  let z : Nat ⊕ (Int32 × Nat) := if l < 4 then (match conS T N F (nI l) 5 p with
      | .inl e => .inl e
      | .inr q => .inr (bI q.1, q.2))
    else if tK T N p ≠ 3 ∨ 50 < tV T N p then .inl (tB T N p) else .inr (tV T N p, tA T N p)
  match z with
  | .inl e => .inl e
  | .inr q => if tK T N q.2 = 59 then .inr (q.1, tA T N q.2) else .inl (tB T N q.2)
def reaL : Nat → Nat → (Nat → Option Int32) → Nat → Nat ⊕ (Nat × (Nat → Option Int32))
  | 0, ls, z, _ => .inr (ls, z)
  | f + 1, ls, z, p => if tK T N p = 0 then .inr (ls, z)
    else if tK T N p ≠ 2 ∨ 4 < tV T N p ∨ (z (tV T N p).toNatClampNeg).isSome then .inl (tB T N p)
    else match linS T N F (tV T N p).toNatClampNeg (tA T N p) with
      | .inl e => .inl e
      | .inr q => reaL f (ls + 1) (fun i => if i = (tV T N p).toNatClampNeg then some q.1 else z i) q.2
/-- the whole text: where its fault is, or how many lines it has and what they tell -/
def reaS : Nat ⊕ (Nat × (Nat → Option Int32)) := reaL T N F 400 0 (fun _ => none) 0
end LAWSPEC2
-- ===== the class's code: what it does to a stack =====
def binC (op x y : Int32) : Int32 :=
  if op = 20 then x + y else if op = 21 then x - y else if op = 16 then (if x < y then 1 else 0) else if op = 17 then (if x = y then 1 else 0) else if op = 18 then (if y < x then 1 else 0) else if op = 8 then x &&& y else x ||| y
def steC (F : Nat → Int32) (st : List Int32) (w : Int32) : List Int32 :=
  let op := w >>> 16
  let v := w &&& 65535
  if op = 24 ∨ op = 25 then (if 40 ≤ st.length ∨ (op = 25 ∧ ¬ v < 7) then st else (if op = 25 then F v.toNatClampNeg else v) :: st)
  else if op = 12 ∨ op = 26 then match st with
    | [] => st
    | a :: r => (if (a = 0) ↔ (op = 12) then 1 else 0) :: r
  else match st with
    | y :: x :: r => binC op x y :: r
    | _ => st
def topC (st : List Int32) : Bool := match st with
  | [] => false
  | a :: _ => decide (a ≠ 0)
def runC (F : Nat → Int32) (cs : List Int32) : Bool := topC (cs.foldl (steC F) [])
/-- the law at l is the one that the text tells -/
def LawOK (μ : MU) (l : Nat) (T : Nat → Int32) (N : Nat) : Prop :=
  ∃ cs : Nat, cs ≤ 320 ∧ μ l 3 = nI cs ∧ ∃ H : Nat → Bool, (∀ F : Nat → Int32, ∃ (k : Nat) (z : Nat → Option Int32), reaS T N F = .inr (k, z) ∧ (∀ i, i < 5 → (z i).isSome = H i) ∧ μ l 1 = (z 4).getD 10 ∧
    ∀ i, i < 4 → H i = true → ∃ b e : Nat, μ (l + 2) i = nI b ∧ μ (l + 3) i = nI e ∧ b ≤ e ∧ e ≤ cs ∧ z i = some (bI (runC F ((List.range' b (e - b)).map fun j => μ (l + 1) j)))) ∧
    ∀ i, i < 4 → H i = false → μ (l + 2) i = -1
