def VLc (s : SG) (i a b c : Nat) : Nat → List (Nat × Nat × Nat)
  | 0 => []
  | n + 1 => (if alone s i a b c = 0 then [(a, b, c)] else []) ++ VLc s i a b (c + 1) n
def VLb (s : SG) (i a b : Nat) : Nat → List (Nat × Nat × Nat)
  | 0 => []
  | n + 1 => VLc s i a b (slo s 2) (shi s 2 + 1 - slo s 2) ++ VLb s i a (b + 1) n
def VLa (s : SG) (i a : Nat) : Nat → List (Nat × Nat × Nat)
  | 0 => []
  | n + 1 => VLb s i a (slo s 1) (shi s 1 + 1 - slo s 1) ++ VLa s i (a + 1) n
def VL (s : SG) (i : Nat) : List (Nat × Nat × Nat) := VLa s i (slo s 0) (shi s 0 + 1 - slo s 0)
def sz (s : SG) (i : Nat) : Nat := (VL s i).length
def Vk (s : SG) (i k : Nat) : Nat × Nat × Nat := (VL s i).getD k (0, 0, 0)
def xv (s : SG) (i : Nat) (t : Nat × Nat × Nat) : Nat → Nat := sel4 t.1 t.2.1 t.2.2 (bN s i)
def vv (s : SG) (i k : Nat) : Nat → Nat := xv s i (Vk s i k)
def okS (s : SG) (k : Nat) : Bool := decide (pair0 s (vv s 0 k) = 0)
def okM (s : SG) (i j k : Nat) : Bool := decide (pairR s i (vv s i k) (vv s (i - 1) j) = 0)
def sumTo (f : Nat → Nat) : Nat → Nat
  | 0 => 0
  | n + 1 => sumTo f n + f n
def minTo (f : Nat → Nat) (b : Nat) : Nat → Nat
  | 0 => b
  | n + 1 => if f n < minTo f b n then f n else minTo f b n
def anyTo (p : Nat → Bool) : Nat → Bool
  | 0 => false
  | n + 1 => anyTo p n || p n
def MANYN : Nat := 1000000000
def FARN : Nat := 100000000
def cap (n : Nat) : Nat := if MANYN < n then MANYN else n
def Rw (s : SG) : Nat → Nat → Nat
  | 0 => fun k => if okS s k then 1 else 0
  | i + 1 => fun k => cap (sumTo (fun j => if 0 < Rw s i j ∧ okM s (i + 1) j k = true then Rw s i j else 0) (sz s i))
def Rs (s : SG) : Nat → Nat → Nat
  | 0 => fun _ => 0
  | d + 1 => fun j => minTo (fun k => if Rs s d k < FARN ∧ okM s (sn s - 1 - d) j k = true then csM (vv s (sn s - 1 - d) k) (vv s (sn s - 1 - d - 1) j) + Rs s d k else FARN) FARN (sz s (sn s - 1 - d))
def some1 (s : SG) (i : Nat) : Bool := anyTo (fun k => decide (0 < Rw s i k)) (sz s i)
def failT (s : SG) : Nat → Int
  | 0 => -1
  | i + 1 => if failT s i < 0 then (if some1 s i then -1 else (i : Int)) else failT s i
def LD (s : SG) (m6 m7 m8 m9 m0 m1 : Nat → Int32) (fl : Int32) (l : Nat → Int64) : Prop :=
  (∀ i, i < sn s → m6 i = tmI s i 8 ∧ m7 i = smI s i 8 ∧ m8 i = fmI s i 8) ∧
  (∀ i, i < sn s → m0 i = nI (sz s i) ∧ ∀ k, k < sz s i → m9 (3 * (800 * i + k)) = nI (Vk s i k).1 ∧ m9 (3 * (800 * i + k) + 1) = nI (Vk s i k).2.1 ∧ m9 (3 * (800 * i + k) + 2) = nI (Vk s i k).2.2) ∧
  (∀ i, i < sn s → ∀ k, k < sz s i → l (800 * i + k) = lN (Rw s i k) ∧ m1 (800 * i + k) = nI (Rs s (sn s - 1 - i) k)) ∧
  fl = iI (failT s (sn s))
def Laid (s : SG) (mu : Nat → Nat → Int32) (l : Nat → Int64) : Prop := LD s (mu 126) (mu 127) (mu 128) (mu 129) (mu 130) (mu 131) (mu 113 24) l
def RR (s : SG) (mu : Nat → Nat → Int32) (l : Nat → Int64) : Prop := RB s mu ∧ (mu 113 19 = 0 ∨ (mu 113 19 = 1 ∧ Laid s mu l))
def SC (mu mu2 : Nat → Nat → Int32) : Prop := ∀ k, k < 113 → mu2 k = mu k
theorem SC.rf (mu : Nat → Nat → Int32) : SC mu mu := fun _ _ => rfl
theorem SC.tr {a b c : Nat → Nat → Int32} (h : SC a b) (g : SC b c) : SC a c := fun k hk => (g k hk).trans (h k hk)
theorem SC.up (mu : Nat → Nat → Int32) {k : Nat} (hk : 113 ≤ k) (j : Nat) (v : Int32) : SC mu (up mu k j v) := fun q hq => up_k (by omega)
theorem Laid.up {s : SG} {mu : Nat → Nat → Int32} {l : Nat → Int64} (h : Laid s mu l) {k j : Nat} (hk : k < 126 ∨ 132 ≤ k) (h24 : k = 113 → ¬ j = 24) (v : Int32) : Laid s (up mu k j v) l := by
  unfold Laid at *
  rw [up_k (show ¬ 126 = k by omega), up_k (show ¬ 127 = k by omega), up_k (show ¬ 128 = k by omega), up_k (show ¬ 129 = k by omega), up_k (show ¬ 130 = k by omega), up_k (show ¬ 131 = k by omega)]
  by_cases e : k = 113
  · subst e; rw [up_j (fun q => h24 rfl q.symm)]; exact h
  · rw [up_k (fun q => e q.symm)]; exact h
