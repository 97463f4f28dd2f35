def bt (x : Int32) (i : Nat) : Bool := x.toBitVec.getLsbD i
theorem b_ext {x y : Int32} (h : ∀ i, i < 32 → bt x i = bt y i) : x = y := Int32.toBitVec_inj.mp (BitVec.eq_of_getLsbD_eq (fun i hi => h i hi))
theorem b_or (x y : Int32) (i : Nat) : bt (x ||| y) i = (bt x i || bt y i) := by unfold bt; rw [Int32.toBitVec_or, BitVec.getLsbD_or]
theorem b_and (x y : Int32) (i : Nat) : bt (x &&& y) i = (bt x i && bt y i) := by unfold bt; rw [Int32.toBitVec_and, BitVec.getLsbD_and]
theorem b_xor (x y : Int32) (i : Nat) : bt (x ^^^ y) i = (bt x i ^^ bt y i) := by unfold bt; rw [Int32.toBitVec_xor, BitVec.getLsbD_xor]
theorem b_big {x : Int32} {i : Nat} (h : 32 ≤ i) : bt x i = false := BitVec.getLsbD_of_ge _ _ h
theorem b_m1 : ∀ i, i < 32 → bt (-1) i = true := by decide +kernel
theorem b_0 (i : Nat) : bt 0 i = false := BitVec.getLsbD_zero
theorem s_l : ∀ n, n < 32 → ((nI n &&& 31).toBitVec.smod 32).toNat = n := by decide +kernel
theorem b_shl (n : Nat) (hn : n < 32) (x : Int32) {i : Nat} (hi : i < 32) : bt (x <<< (nI n &&& 31)) i = (decide (n ≤ i) && bt x (i - n)) := by
  unfold bt
  rw [Int32.toBitVec_shiftLeft]
  show (x.toBitVec <<< ((nI n &&& 31).toBitVec.smod 32).toNat).getLsbD i = _
  rw [s_l n hn, BitVec.getLsbD_shiftLeft]
  rcases Nat.lt_or_ge i n with h | h
  · simp [h, Nat.not_le.mpr h]
  · simp [hi, h, Nat.not_lt.mpr h]
theorem b_sshr (n : Nat) (hn : n < 32) (x : Int32) {i : Nat} (hi : i < 32) : bt (x >>> (nI n &&& 31)) i = if n + i < 32 then bt x (n + i) else bt x 31 := by
  unfold bt
  rw [Int32.toBitVec_shiftRight]
  show (x.toBitVec.sshiftRight ((nI n &&& 31).toBitVec.smod 32).toNat).getLsbD i = _
  rw [s_l n hn, BitVec.getLsbD_sshiftRight, BitVec.msb_eq_getLsbD_last]
  simp [hi]
theorem b_1 : ∀ i, i < 32 → bt 1 i = decide (i = 0) := by decide +kernel
theorem bit_bt : ∀ c, c < 32 → ∀ i, i < 32 → bt (bit c) i = decide (i = c) := by decide +kernel
theorem z_bt {x : Int32} : x = 0 ↔ ∀ i, i < 32 → bt x i = false := ⟨fun h i _ => by rw [h]; exact b_0 i, fun h => b_ext (fun i hi => by rw [h i hi, b_0])⟩
theorem has1_bt (m : Int32) {c : Nat} (hc : c < 32) : has1 m c = bt m c := by
  unfold has1
  have e : bt (m >>> (nI c &&& 31)) 0 = bt m c := by rw [b_sshr c hc m (by decide)]; simp [hc]
  have q : (m >>> (nI c &&& 31)) &&& 1 = 1 ↔ bt (m >>> (nI c &&& 31)) 0 = true := by
    constructor
    · intro h
      have := congrArg (fun x => bt x 0) h
      simp only [b_and, b_1 0 (by decide)] at this
      simpa using this
    · intro h
      refine b_ext (fun i hi => ?_)
      rw [b_and, b_1 i hi]
      by_cases e0 : i = 0
      · subst e0; simp [h]
      · simp [e0]
  rw [← e]
  cases hb : bt (m >>> (nI c &&& 31)) 0
  · rw [decide_eq_false_iff_not, q, hb]; decide
  · rw [decide_eq_true_eq, q, hb]
theorem and_bit (m : Int32) {c : Nat} (hc : c < 32) : m &&& bit c = 0 ↔ bt m c = false := by
  rw [z_bt]
  constructor
  · intro h
    have := h c hc
    rw [b_and, bit_bt c hc c hc] at this
    simpa using this
  · intro h i hi
    rw [b_and, bit_bt c hc i hi]
    by_cases e : i = c
    · subst e; simp [h]
    · simp [e]
theorem bit_and (m : Int32) {c : Nat} (hc : c < 32) : bit c &&& m = 0 ↔ bt m c = false := by
  rw [← and_bit m hc, Int32.and_comm]
theorem bt_n (m : Int32) {i : Nat} (hi : i < 32) : bt (m ^^^ (-1)) i = !bt m i := by rw [b_xor, b_m1 i hi]; cases bt m i <;> rfl
theorem or3_not (m : Int32) {a b c : Nat} (ha : a < 32) (hb : b < 32) (hc : c < 32) : ((bit a ||| bit b) ||| bit c) &&& (m ^^^ (-1)) = 0 ↔ (bt m a && bt m b && bt m c) = true := by
  rw [z_bt]
  constructor
  · intro h
    have h1 := h a ha; have h2 := h b hb; have h3 := h c hc
    simp only [b_and, b_or, bt_n m ha, bt_n m hb, bt_n m hc, bit_bt a ha a ha, bit_bt b hb b hb, bit_bt c hc c hc, decide_true, Bool.true_or, Bool.or_true, Bool.true_and, Bool.not_eq_false'] at h1 h2 h3
    rw [h1, h2, h3]; rfl
  · intro h i hi
    simp only [Bool.and_eq_true] at h
    rw [b_and, b_or, b_or, bt_n m hi, bit_bt a ha i hi, bit_bt b hb i hi, bit_bt c hc i hi]
    by_cases e1 : i = a
    · subst e1; simp [h.1.1]
    · by_cases e2 : i = b
      · subst e2; simp [h.1.2]
      · by_cases e3 : i = c
        · subst e3; simp [h.2]
        · simp [e1, e2, e3]
theorem bits4_e (a b c d : Nat) : bits4 a b c d = ((bit (a % 12) ||| bit (b % 12)) ||| bit (c % 12)) ||| bit (d % 12) := by
  unfold bits4
  rw [Int32.zero_or]
def pkN (a b c : Nat) : Nat := 16384 * a + 128 * b + c
theorem nI_or (a b : Nat) : nI a ||| nI b = nI (a ||| b) := by
  unfold nI
  refine Int32.toBitVec_inj.mp ?_
  rw [Int32.toBitVec_or]
  show BitVec.ofNat 32 a ||| BitVec.ofNat 32 b = BitVec.ofNat 32 (a ||| b)
  refine BitVec.eq_of_getLsbD_eq (fun i hi => ?_)
  simp [BitVec.getLsbD_or, BitVec.getLsbD_ofNat, hi]
theorem or_add {k a b : Nat} (h : b < 2 ^ k) : 2 ^ k * a ||| b = 2 ^ k * a + b := (Nat.two_pow_add_eq_or_of_lt h a).symm
theorem sp_Br_pack (Post : Int32 → MH → Prop) {a b c : Nat} (ha : a ≤ 127) (hb : b ≤ 127) (hc : c ≤ 127) (h : MH) : wp_Br_pack Post (nI a) (nI b) (nI c) h ↔ Post (nI (pkN a b c)) h := by
  unfold wp_Br_pack
  rw [pk_shlN ((14 : Int32) &&& 31) 14 (by decide) (by omega), pk_shlN ((7 : Int32) &&& 31) 7 (by decide) (by omega), nI_or, nI_or]
  refine iff_of_eq (congrArg (fun z => Post (nI z) h) ?_)
  rw [show a * 2 ^ 14 = 2 ^ 14 * a by omega, or_add (k := 14) (a := a) (b := b * 2 ^ 7) (by omega), show 2 ^ 14 * a + b * 2 ^ 7 = 2 ^ 7 * (2 ^ 7 * a + b) by omega, or_add (by omega)]
  unfold pkN
  omega
def pkv (x : Nat → Nat) : Nat := pkN (x 0) (x 1) (x 2)
theorem sp_Br_pitchOf (Post : Int32 → MH → Prop) {x : Nat → Nat} (hx : ∀ v, v < 3 → x v ≤ 127) {v : Nat} (hv : v < 3) (h : MH) : wp_Br_pitchOf Post (nI (pkv x)) (nI v) h ↔ Post (nI (x v)) h := by
  have h0 := hx 0 (by decide)
  have h1 := hx 1 (by decide)
  have h2 := hx 2 (by decide)
  have hp : pkv x < 2 ^ 31 := by unfold pkv pkN; omega
  unfold wp_Br_pitchOf
  refine iff_of_eq (congrArg (fun z => Post z h) ?_)
  match v, hv with
  | 0, _ =>
    rw [show ((7 : Int32) * (2 - nI 0)) &&& 31 = (14 : Int32) from rfl, pk_shrN hp 14 14 (by decide), pk_andN (by omega) 7 (by decide)]
    congr 1; unfold pkv pkN; omega
  | 1, _ =>
    rw [show ((7 : Int32) * (2 - nI 1)) &&& 31 = (7 : Int32) from rfl, pk_shrN hp 7 7 (by decide), pk_andN (by omega) 7 (by decide)]
    congr 1; unfold pkv pkN; omega
  | 2, _ =>
    rw [show ((7 : Int32) * (2 - nI 2)) &&& 31 = (0 : Int32) from rfl, pk_shrN hp 0 0 (by decide), pk_andN (by omega) 7 (by decide)]
    congr 1; unfold pkv pkN; omega
theorem sp_Br_classBit (Post : Int32 → MH → Prop) {x : Nat} (hx : x < 2 ^ 31) (h : MH) : wp_Br_classBit Post (nI x) h ↔ Post (bit (x % 12)) h := by
  unfold wp_Br_classBit bit
  rw [rem12 hx]
def m8 (b2 b3 b4 b5 b6 b7 b8 b9 : Bool) : Int32 := nI ((if b2 then 4 else 0) + (if b3 then 8 else 0) + (if b4 then 16 else 0) + (if b5 then 32 else 0) + (if b6 then 64 else 0) + (if b7 then 128 else 0) + (if b8 then 256 else 0) + (if b9 then 512 else 0))
def mk8 (p : Nat → Bool) : Int32 := m8 (p 2) (p 3) (p 4) (p 5) (p 6) (p 7) (p 8) (p 9)
theorem m8_has : ∀ b2 b3 b4 b5 b6 b7 b8 b9 : Bool, (m8 b2 b3 b4 b5 b6 b7 b8 b9 &&& bit 2 = 0 ↔ b2 = false) ∧ (m8 b2 b3 b4 b5 b6 b7 b8 b9 &&& bit 3 = 0 ↔ b3 = false) ∧ (m8 b2 b3 b4 b5 b6 b7 b8 b9 &&& bit 4 = 0 ↔ b4 = false) ∧ (m8 b2 b3 b4 b5 b6 b7 b8 b9 &&& bit 5 = 0 ↔ b5 = false) ∧ (m8 b2 b3 b4 b5 b6 b7 b8 b9 &&& bit 6 = 0 ↔ b6 = false) ∧ (m8 b2 b3 b4 b5 b6 b7 b8 b9 &&& bit 7 = 0 ↔ b7 = false) ∧ (m8 b2 b3 b4 b5 b6 b7 b8 b9 &&& bit 8 = 0 ↔ b8 = false) ∧ (m8 b2 b3 b4 b5 b6 b7 b8 b9 &&& bit 9 = 0 ↔ b9 = false) := by decide +kernel
theorem m8_or : ∀ b2 b3 b4 b5 b6 b7 b8 b9 : Bool, (m8 b2 b3 b4 b5 b6 b7 b8 b9 ||| bit 2 = m8 true b3 b4 b5 b6 b7 b8 b9) ∧ (m8 b2 b3 b4 b5 b6 b7 b8 b9 ||| bit 3 = m8 b2 true b4 b5 b6 b7 b8 b9) ∧ (m8 b2 b3 b4 b5 b6 b7 b8 b9 ||| bit 4 = m8 b2 b3 true b5 b6 b7 b8 b9) ∧ (m8 b2 b3 b4 b5 b6 b7 b8 b9 ||| bit 5 = m8 b2 b3 b4 true b6 b7 b8 b9) ∧ (m8 b2 b3 b4 b5 b6 b7 b8 b9 ||| bit 6 = m8 b2 b3 b4 b5 true b7 b8 b9) ∧ (m8 b2 b3 b4 b5 b6 b7 b8 b9 ||| bit 7 = m8 b2 b3 b4 b5 b6 true b8 b9) ∧ (m8 b2 b3 b4 b5 b6 b7 b8 b9 ||| bit 8 = m8 b2 b3 b4 b5 b6 b7 true b9) ∧ (m8 b2 b3 b4 b5 b6 b7 b8 b9 ||| bit 9 = m8 b2 b3 b4 b5 b6 b7 b8 true) := by decide +kernel
theorem mk8_has (p : Nat → Bool) : ∀ f, 2 ≤ f → f < 10 → (mk8 p &&& bit f = 0 ↔ p f = false) := by
  have h := m8_has (p 2) (p 3) (p 4) (p 5) (p 6) (p 7) (p 8) (p 9)
  exact c10 h.1 h.2.1 h.2.2.1 h.2.2.2.1 h.2.2.2.2.1 h.2.2.2.2.2.1 h.2.2.2.2.2.2.1 h.2.2.2.2.2.2.2
theorem mk8_or (p q : Nat → Bool) : ∀ f, 2 ≤ f → f < 10 → q f = true → (∀ g, ¬ g = f → q g = p g) → mk8 p ||| bit f = mk8 q := by
  have h := m8_or (p 2) (p 3) (p 4) (p 5) (p 6) (p 7) (p 8) (p 9)
  unfold mk8
  refine c10 ?_ ?_ ?_ ?_ ?_ ?_ ?_ ?_ <;> intro e g
  · rw [h.1, e, g 3 (by decide), g 4 (by decide), g 5 (by decide), g 6 (by decide), g 7 (by decide), g 8 (by decide), g 9 (by decide)]
  · rw [h.2.1, e, g 2 (by decide), g 4 (by decide), g 5 (by decide), g 6 (by decide), g 7 (by decide), g 8 (by decide), g 9 (by decide)]
  · rw [h.2.2.1, e, g 2 (by decide), g 3 (by decide), g 5 (by decide), g 6 (by decide), g 7 (by decide), g 8 (by decide), g 9 (by decide)]
  · rw [h.2.2.2.1, e, g 2 (by decide), g 3 (by decide), g 4 (by decide), g 6 (by decide), g 7 (by decide), g 8 (by decide), g 9 (by decide)]
  · rw [h.2.2.2.2.1, e, g 2 (by decide), g 3 (by decide), g 4 (by decide), g 5 (by decide), g 7 (by decide), g 8 (by decide), g 9 (by decide)]
  · rw [h.2.2.2.2.2.1, e, g 2 (by decide), g 3 (by decide), g 4 (by decide), g 5 (by decide), g 6 (by decide), g 8 (by decide), g 9 (by decide)]
  · rw [h.2.2.2.2.2.2.1, e, g 2 (by decide), g 3 (by decide), g 4 (by decide), g 5 (by decide), g 6 (by decide), g 7 (by decide), g 9 (by decide)]
  · rw [h.2.2.2.2.2.2.2, e, g 2 (by decide), g 3 (by decide), g 4 (by decide), g 5 (by decide), g 6 (by decide), g 7 (by decide), g 8 (by decide)]
theorem sp_Ch_has (Post : Int32 → MH → Prop) (p : Nat → Bool) (h : MH) : ∀ f, 2 ≤ f → f < 10 → (wp_Ch_has Post (mk8 p) (nI f) h ↔ Post (bI (p f)) h) := by
  intro f h1 h2
  have e := mk8_has p f h1 h2
  unfold wp_Ch_has
  unfold bit at e
  rw [e]
  cases p f <;> simp [bI]
def cnt8 (p : Nat → Bool) : Nat := (if p 2 then 1 else 0) + (if p 3 then 1 else 0) + (if p 4 then 1 else 0) + (if p 5 then 1 else 0) + (if p 6 then 1 else 0) + (if p 7 then 1 else 0) + (if p 8 then 1 else 0) + (if p 9 then 1 else 0)
set_option maxHeartbeats 4000000 in
theorem sp_In_bitCount (Post : Int32 → MH → Prop) (p : Nat → Bool) (h : MH) : wp_In_bitCount Post (mk8 p) h ↔ Post (nI (cnt8 p)) h := by
  unfold wp_In_bitCount
  simp only [forall_eq]
  refine iff_of_eq (congrArg (fun z => Post z h) ?_)
  unfold mk8 cnt8
  generalize p 2 = b2
  generalize p 3 = b3
  generalize p 4 = b4
  generalize p 5 = b5
  generalize p 6 = b6
  generalize p 7 = b7
  generalize p 8 = b8
  generalize p 9 = b9
  revert b2 b3 b4 b5 b6 b7 b8 b9
  decide +kernel
