theorem ite_and {c : Prop} [Decidable c] {A B : Prop} : ((c → A) ∧ (¬ c → B)) ↔ if c then A else B := by by_cases h : c <;> simp [h]
theorem and_ite {c : Prop} [Decidable c] {A B : Prop} : ((¬ c → B) ∧ (c → A)) ↔ if c then A else B := by by_cases h : c <;> simp [h]
abbrev SG : Type := (Int × Nat × Nat) × (Nat → Nat) × (Nat → Nat) × (Nat → Int) × (Nat → Nat → Nat) × (Nat → Nat) × (Nat → Nat) × (Nat → Nat) × (Nat → Nat → Int) × (Nat → Option (Nat × Nat × Nat))
def sF (s : SG) : Int := s.1.1
def sn (s : SG) : Nat := s.1.2.1
def sp (s : SG) : Nat := s.1.2.2
def slt (s : SG) : Nat → Nat := s.2.1
def soc (s : SG) : Nat → Nat := s.2.2.1
def sal (s : SG) : Nat → Int := s.2.2.2.1
def std (s : SG) : Nat → Nat → Nat := s.2.2.2.2.1
def slo (s : SG) : Nat → Nat := s.2.2.2.2.2.1
def shi (s : SG) : Nat → Nat := s.2.2.2.2.2.2.1
def sho (s : SG) : Nat → Nat := s.2.2.2.2.2.2.2.1
def sgv (s : SG) : Nat → Nat → Int := s.2.2.2.2.2.2.2.2.1
def ssg (s : SG) : Nat → Option (Nat × Nat × Nat) := s.2.2.2.2.2.2.2.2.2
def semi (l : Nat) : Nat := if l < 3 then 2 * l else 2 * l - 1
def bas (s : SG) (i : Nat) : Int := 12 * ((soc s i : Int) + 1) + semi (slt s i) + sal s i
def tl (s : SG) (i f : Nat) : Bool := decide (0 < std s i f)
def isW (s : SG) (i f : Nat) : Bool := tl s i f || (match f with
  | 3 => !tl s i 2 && !tl s i 4
  | 4 => tl s i 2 && !tl s i 5
  | 5 => !tl s i 2 && !tl s i 6 && !(tl s i 3 && tl s i 4) && !(tl s i 7 && tl s i 9)
  | 6 => (tl s i 2 && !tl s i 5) || (tl s i 3 && tl s i 4)
  | _ => false)
def tlet (s : SG) (i f : Nat) : Nat := (slt s i + f - 1) % 7
def plc (l : Nat) : Nat := if l = 3 then 0 else if l = 0 then 1 else if l = 4 then 2 else if l = 1 then 3 else if l = 5 then 4 else if l = 2 then 5 else 6
def kal (F : Int) (l : Nat) : Int := if (plc l : Int) < F then 1 else if 6 - (plc l : Int) < - F then -1 else 0
def talt (s : SG) (i f : Nat) : Int := if std s i f = 2 then 1 else if std s i f = 3 then -1 else if std s i f = 4 then 0 else kal (sF s) (tlet s i f)
def tcl (s : SG) (i f : Nat) : Nat := (((semi (tlet s i f) : Int) + talt s i f) % 12).toNat
def isS (s : SG) (i f : Nat) : Bool := f == 9 || (f == 4 && !isW s i 2 && !isW s i 3 && !isW s i 6)
def cntW (s : SG) (i : Nat) : Nat → Nat
  | 0 => 0
  | k + 1 => if isW s i (k + 2) then cntW s i k + 1 else cntW s i k
def WF (s : SG) : Prop := (-7 ≤ sF s ∧ sF s ≤ 7) ∧ sn s ≤ 12 ∧ sp s ≤ 24 ∧
  (∀ i, i < sn s → slt s i ≤ 6 ∧ 1 ≤ soc s i ∧ soc s i ≤ 5 ∧ -1 ≤ sal s i ∧ sal s i ≤ 1) ∧
  (∀ i, i < sn s → (∀ f, std s i f ≤ 4) ∧ std s i 0 = 0 ∧ std s i 1 = 0 ∧ cntW s i 8 ≤ 3) ∧
  (∀ v, v < 3 → slo s v ≤ shi s v ∧ shi s v ≤ 127 ∧ shi s v ≤ slo s v + 24 ∧ sho s v ≤ 127) ∧
  (∀ i, i < sn s → ∀ v, v < 3 → -1 ≤ sgv s i v ∧ sgv s i v ≤ 127) ∧
  (∀ i, i < sn s → ∀ a b c, ssg s i = some (a, b, c) → a ≤ 127 ∧ b ≤ 127 ∧ c ≤ 127)
def RB (s : SG) (mu : Nat → Nat → Int32) : Prop := mu 113 1 = iI (sF s) ∧ mu 113 2 = nI (sn s) ∧ mu 113 10 = nI (sp s) ∧
  (∀ i, i < sn s → mu 114 i = nI (slt s i) ∧ mu 115 i = nI (soc s i) ∧ mu 116 i = iI (sal s i)) ∧
  (∀ i, i < sn s → ∀ f, f < 10 → mu 117 (10 * i + f) = nI (std s i f)) ∧
  (∀ v, v < 3 → mu 118 v = nI (slo s v) ∧ mu 119 v = nI (shi s v) ∧ mu 120 v = nI (sho s v)) ∧
  (∀ i, i < sn s → ∀ v, v < 3 → mu 121 (3 * i + v) = iI (sgv s i v)) ∧
  (∀ i, i < sn s → mu 123 i = bI (ssg s i).isSome ∧ ∀ a b c, ssg s i = some (a, b, c) → mu 122 (3 * i) = nI a ∧ mu 122 (3 * i + 1) = nI b ∧ mu 122 (3 * i + 2) = nI c)
