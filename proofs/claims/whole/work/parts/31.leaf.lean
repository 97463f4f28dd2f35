def bI (b : Bool) : Int32 := if b then 1 else 0
theorem bI_0 (b : Bool) : bI b = 0 ↔ b = false := by cases b <;> simp [bI]
theorem bI_1 (b : Bool) : bI b = 1 ↔ b = true := by cases b <;> simp [bI]
theorem bI_or (b : Bool) : bI b = 0 ∨ bI b = 1 := by cases b <;> simp [bI]
def iI (z : Int) : Int32 := Int32.ofInt z
theorem iI_t {z : Int} (h1 : -2147483648 ≤ z) (h2 : z < 2147483648) : (iI z).toInt = z := by
  unfold iI; rw [Int32.toInt_ofInt]; exact Int.bmod_eq_of_le (by simp only [Int32.size]; omega) (by simp only [Int32.size]; omega)
theorem iI_n (n : Nat) : nI n = iI n := by unfold nI iI; rw [← Int32.ofInt_eq_ofNat]
theorem iI_of (x : Int32) : iI x.toInt = x := Int32.ofInt_toInt x
theorem iI_add (a b : Int) : iI a + iI b = iI (a + b) := (Int32.ofInt_add ..).symm
theorem iI_sub (a b : Int) : iI a - iI b = iI (a - b) := (Int32.ofInt_sub ..).symm
theorem iI_mul (a b : Int) : iI a * iI b = iI (a * b) := (Int32.ofInt_mul ..).symm
theorem iI_neg (a : Int) : - iI a = iI (- a) := (Int32.ofInt_neg ..).symm
theorem i_lt (x y : Int32) : x < y ↔ x.toInt < y.toInt := Int32.lt_iff_toInt_lt
theorem i_le (x y : Int32) : x ≤ y ↔ x.toInt ≤ y.toInt := Int32.le_iff_toInt_le
theorem i_eq (x y : Int32) : x = y ↔ x.toInt = y.toInt := Int32.toInt_inj.symm
theorem i_rg (x : Int32) : -2147483648 ≤ x.toInt ∧ x.toInt < 2147483648 := by
  have h1 := x.le_toInt; have h2 := x.toInt_lt; omega
theorem sp_Br_within (Post : Int32 → MH → Prop) (x a b : Int32) (h : MH) : wp_Br_within Post x a b h ↔ Post (bI (decide (a.toInt ≤ x.toInt ∧ x.toInt ≤ b.toInt))) h := by
  unfold wp_Br_within
  simp only [i_lt]
  by_cases h1 : x.toInt < a.toInt
  · have h2 : ¬ (a.toInt ≤ x.toInt ∧ x.toInt ≤ b.toInt) := by omega
    simp [h1, h2, bI]
  · by_cases h3 : b.toInt < x.toInt
    · have h2 : ¬ (a.toInt ≤ x.toInt ∧ x.toInt ≤ b.toInt) := by omega
      simp [h1, h3, h2, bI]
    · have h2 : (a.toInt ≤ x.toInt ∧ x.toInt ≤ b.toInt) := by omega
      simp [h1, h3, h2, bI]
theorem sp_Br_isVoice (Post : Int32 → MH → Prop) (x : Int32) (h : MH) : wp_Br_isVoice Post x h ↔ Post (bI (decide (0 ≤ x.toInt ∧ x.toInt ≤ 2))) h := by
  unfold wp_Br_isVoice
  simp only [i_lt, i_le]
  simp only [show (0 : Int32).toInt = 0 from rfl, show (3 : Int32).toInt = 3 from rfl]
  by_cases h1 : x.toInt < 0
  · have h2 : ¬ (0 ≤ x.toInt ∧ x.toInt ≤ 2) := by omega
    simp [h1, h2, bI]
  · by_cases h3 : 3 ≤ x.toInt
    · have h2 : ¬ (0 ≤ x.toInt ∧ x.toInt ≤ 2) := by omega
      simp [h1, h3, h2, bI]
    · have h2 : (0 ≤ x.toInt ∧ x.toInt ≤ 2) := by omega
      simp [h1, h3, h2, bI]
theorem sp_Br_isPitch (Post : Int32 → MH → Prop) (x : Int32) (h : MH) : wp_Br_isPitch Post x h ↔ Post (bI (decide (0 ≤ x.toInt ∧ x.toInt ≤ 127))) h := by
  unfold wp_Br_isPitch
  simp only [i_lt, i_le]
  simp only [show (0 : Int32).toInt = 0 from rfl, show (127 : Int32).toInt = 127 from rfl]
  by_cases h1 : x.toInt < 0
  · have h2 : ¬ (0 ≤ x.toInt ∧ x.toInt ≤ 127) := by omega
    simp [h1, h2, bI]
  · by_cases h3 : 127 < x.toInt
    · have h2 : ¬ (0 ≤ x.toInt ∧ x.toInt ≤ 127) := by omega
      simp [h1, h3, h2, bI]
    · have h2 : (0 ≤ x.toInt ∧ x.toInt ≤ 127) := by omega
      simp [h1, h3, h2, bI]
theorem lg_lt (x y : Int64) : lg_cmp x y < 0 ↔ x.toInt < y.toInt := by
  unfold lg_cmp
  rw [← Int64.lt_iff_toInt_lt]
  by_cases h1 : y < x
  · have h3 : ¬ x < y := by rw [Int64.lt_iff_toInt_lt] at *; omega
    simp [h1, h3]
  · by_cases h2 : x = y
    · simp [h1, h2]
    · have h3 : x < y := by
        rw [Int64.lt_iff_toInt_lt] at *; have := mt Int64.toInt_inj.mp h2; omega
      simp [h1, h2, h3]
theorem lg_gt (x y : Int64) : 0 < lg_cmp x y ↔ y.toInt < x.toInt := by
  unfold lg_cmp
  rw [← Int64.lt_iff_toInt_lt]
  by_cases h1 : y < x
  · simp [h1]
  · by_cases h2 : x = y
    · simp [h1, h2]
    · simp [h1, h2]
theorem sp_Rm_in (Post : Int32 → MH → Prop) (x a b : Int64) (h : MH) : wp_Rm_in Post x a b h ↔ Post (bI (decide (a.toInt ≤ x.toInt ∧ x.toInt ≤ b.toInt))) h := by
  unfold wp_Rm_in
  simp only [lg_lt, lg_gt]
  by_cases h1 : x.toInt < a.toInt
  · have h2 : ¬ (a.toInt ≤ x.toInt ∧ x.toInt ≤ b.toInt) := by omega
    simp [h1, h2, bI]
  · by_cases h3 : b.toInt < x.toInt
    · have h2 : ¬ (a.toInt ≤ x.toInt ∧ x.toInt ≤ b.toInt) := by omega
      simp [h1, h3, h2, bI]
    · have h2 : (a.toInt ≤ x.toInt ∧ x.toInt ≤ b.toInt) := by omega
      simp [h1, h3, h2, bI]
theorem sp_Rm_far (Post : Int32 → MH → Prop) (x y : Int32) (h : MH) : wp_Rm_far Post x y h ↔ Post (if x ≤ y then y - x else x - y) h := by
  unfold wp_Rm_far
  by_cases h1 : x ≤ y <;> simp [h1]
