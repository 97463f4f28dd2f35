def oN (b : Bool) : Nat := if b then 1 else 0
theorem oN_le (b : Bool) : oN b ≤ 1 := by cases b <;> simp [oN]
theorem sumTo_s (f : Nat → Nat) (n : Nat) : sumTo f (n + 1) = sumTo f n + f n := rfl
theorem sumTo_f (f : Nat → Nat) : ∀ n, sumTo f (n + 1) = f 0 + sumTo (fun k => f (k + 1)) n
  | 0 => by simp [sumTo]
  | n + 1 => by
    have h := sumTo_f f n
    show sumTo f (n + 1) + f (n + 1) = f 0 + (sumTo (fun k => f (k + 1)) n + f (n + 1))
    rw [h]; omega
theorem sumTo_m {f g : Nat → Nat} : ∀ {n : Nat}, (∀ k, k < n → f k ≤ g k) → sumTo f n ≤ sumTo g n
  | 0, _ => Nat.le_refl _
  | n + 1, h => by
    have h1 := sumTo_m (n := n) (fun k hk => h k (by omega))
    have h2 := h n (by omega)
    unfold sumTo; omega
theorem sumTo_e {f g : Nat → Nat} {n : Nat} (h : ∀ k, k < n → f k = g k) : sumTo f n = sumTo g n := Nat.le_antisymm (sumTo_m (fun k hk => Nat.le_of_eq (h k hk))) (sumTo_m (fun k hk => Nat.le_of_eq (h k hk).symm))
theorem sumTo_a {f g : Nat → Nat} : ∀ n, sumTo (fun k => f k + g k) n = sumTo f n + sumTo g n
  | 0 => rfl
  | n + 1 => by unfold sumTo; rw [sumTo_a n]; omega
theorem sumTo_0 {f : Nat → Nat} {n : Nat} (h : ∀ k, k < n → f k = 0) : sumTo f n = 0 := by
  rw [sumTo_e (g := fun _ => 0) h]
  clear h
  induction n with
  | zero => rfl
  | succ n ih => unfold sumTo; rw [ih]
theorem sumTo_c {f : Nat → Nat} (c : Nat) : ∀ n, sumTo (fun k => c * f k) n = c * sumTo f n
  | 0 => rfl
  | n + 1 => by unfold sumTo; rw [sumTo_c c n, Nat.mul_add]
def cn (p : Nat → Bool) (n : Nat) : Nat := sumTo (fun c => oN (p c)) n
theorem cn_m {p q : Nat → Bool} {n : Nat} (h : ∀ c, c < n → p c = true → q c = true) : cn p n ≤ cn q n := sumTo_m (fun k hk => by
  cases e : p k
  · simp [oN]
  · rw [h k hk e]; exact Nat.le_refl _)
theorem cn_o {p q : Nat → Bool} {n : Nat} : cn (fun c => p c || q c) n ≤ cn p n + cn q n := by
  unfold cn
  rw [← sumTo_a]
  refine sumTo_m (fun k _ => ?_)
  show oN (p k || q k) ≤ oN (p k) + oN (q k)
  cases p k <;> cases q k <;> decide
theorem cn_1 (x : Nat) : ∀ n, cn (fun c => decide (c = x)) n ≤ 1 ∧ (n ≤ x → cn (fun c => decide (c = x)) n = 0)
  | 0 => ⟨Nat.zero_le _, fun _ => rfl⟩
  | n + 1 => by
    have h := cn_1 x n
    unfold cn at *
    rw [sumTo_s]
    show _ + oN (decide (n = x)) ≤ 1 ∧ (_ → _ + oN (decide (n = x)) = 0)
    by_cases e : n = x
    · refine ⟨?_, fun q => absurd q (by omega)⟩
      rw [h.2 (by omega)]; have := oN_le (decide (n = x)); omega
    · have e2 : oN (decide (n = x)) = 0 := by simp [oN, e]
      rw [e2]
      exact ⟨h.1, fun q => h.2 (by omega)⟩
theorem tone_cn (s : SG) (i : Nat) : ∀ k, cn (bt (tmI s i k)) 12 ≤ cntW s i k
  | 0 => by
    have : cn (bt (tmI s i 0)) 12 = 0 := sumTo_0 (fun k _ => by rw [show tmI s i 0 = 0 from rfl, b_0]; rfl)
    omega
  | k + 1 => by
    have h := tone_cn s i k
    unfold tmI cntW
    by_cases e : isW s i (k + 2) = true
    · rw [if_pos e, if_pos e]
      have ht : tcl s i (k + 2) < 12 := by unfold tcl; omega
      have e1 : cn (bt (tmI s i k ||| bit (tcl s i (k + 2)))) 12 ≤ cn (fun c => bt (tmI s i k) c || decide (c = tcl s i (k + 2))) 12 := cn_m (fun c hc g => by rw [b_or, bit_bt _ (by omega) c (by omega)] at g; exact g)
      have e2 := cn_o (p := bt (tmI s i k)) (q := fun c => decide (c = tcl s i (k + 2))) (n := 12)
      have e3 := (cn_1 (tcl s i (k + 2)) 12).1
      omega
    · rw [if_neg e, if_neg e]; exact h
def bcl (s : SG) (i : Nat) : Nat := bN s i % 12
def TT (s : SG) (i c : Nat) : Bool := if bt (tmI s i 8) (bcl s i) = true ∨ cn (bt (tmI s i 8)) 12 ≤ 2 then bt (tmI s i 8) c || decide (c = bcl s i) else bt (tmI s i 8) c
theorem TT_cn {s : SG} {i : Nat} (h3 : cntW s i 8 ≤ 3) : cn (TT s i) 12 ≤ 3 := by
  have h := tone_cn s i 8
  by_cases e : bt (tmI s i 8) (bcl s i) = true ∨ cn (bt (tmI s i 8)) 12 ≤ 2
  · by_cases e2 : bt (tmI s i 8) (bcl s i) = true
    · have : cn (TT s i) 12 ≤ cn (bt (tmI s i 8)) 12 := cn_m (fun c hc g => by
        unfold TT at g; rw [if_pos e] at g
        by_cases q : c = bcl s i
        · rw [q]; exact e2
        · simpa [q] using g)
      omega
    · have h1 : cn (TT s i) 12 ≤ cn (fun c => bt (tmI s i 8) c || decide (c = bcl s i)) 12 := cn_m (fun c hc g => by unfold TT at g; rw [if_pos e] at g; exact g)
      have h2 := cn_o (p := bt (tmI s i 8)) (q := fun c => decide (c = bcl s i)) (n := 12)
      have h3 := (cn_1 (bcl s i) 12).1
      rcases e with e | e
      · exact absurd e e2
      · omega
  · have : cn (TT s i) 12 ≤ cn (bt (tmI s i 8)) 12 := cn_m (fun c hc g => by unfold TT at g; rw [if_neg e] at g; exact g)
    omega
theorem cover {s : SG} {i a b c : Nat} (h : tmI s i 8 &&& (bits4 a b c (bN s i) ^^^ (-1)) = 0) : ∀ d, d < 12 → bt (tmI s i 8) d = true → d = a % 12 ∨ d = b % 12 ∨ d = c % 12 ∨ d = bcl s i := by
  intro d hd g
  have h2 := (z_bt.mp h) d (by omega)
  rw [b_and, g, Bool.true_and, bt_n _ (by omega), bits4_e, b_or, b_or, b_or, bit_bt _ (by omega) d (by omega), bit_bt _ (by omega) d (by omega), bit_bt _ (by omega) d (by omega), bit_bt _ (by omega) d (by omega)] at h2
  simp at h2
  unfold bcl
  by_cases e1 : d = a % 12
  · exact Or.inl e1
  · by_cases e2 : d = b % 12
    · exact Or.inr (Or.inl e2)
    · by_cases e3 : d = c % 12
      · exact Or.inr (Or.inr (Or.inl e3))
      · exact Or.inr (Or.inr (Or.inr (h2 (by omega) (by omega) (by omega))))
theorem TT_of {s : SG} {i a b c : Nat} (h : alone s i a b c = 0) : TT s i (a % 12) = true ∧ TT s i (b % 12) = true ∧ TT s i (c % 12) = true := by
  have h0 := (alone_0 s i a b c).mp h
  have hk := h0.2.1
  simp only [Bool.and_eq_true] at hk
  have ok : ∀ x, okc s i x = true → bt (tmI s i 8) (x % 12) = true ∨ x % 12 = bcl s i := by
    intro x hx
    unfold okc at hx
    rw [has1_bt _ (by omega)] at hx
    simp only [Bool.or_eq_true, decide_eq_true_eq] at hx
    exact hx.symm
  by_cases e : bt (tmI s i 8) (bcl s i) = true ∨ cn (bt (tmI s i 8)) 12 ≤ 2
  · have q : ∀ x, okc s i x = true → TT s i (x % 12) = true := by
      intro x hx
      unfold TT
      rw [if_pos e]
      rcases ok x hx with g | g
      · simp [g]
      · simp [g]
    exact ⟨q a hk.1.1, q b hk.1.2, q c hk.2⟩
  · have hcov := cover h0.2.2.1
    have nb : ¬ bt (tmI s i 8) (bcl s i) = true := fun g => e (Or.inl g)
    have n2 : 2 < cn (bt (tmI s i 8)) 12 := by omega
    have q : ∀ x y z, (∀ d, d < 12 → bt (tmI s i 8) d = true → d = x % 12 ∨ d = y % 12 ∨ d = z % 12) → TT s i (x % 12) = true := by
      intro x y z hc
      unfold TT
      rw [if_neg e]
      by_cases g : bt (tmI s i 8) (x % 12) = true
      · exact g
      · exfalso
        have h1 : cn (bt (tmI s i 8)) 12 ≤ cn (fun c => decide (c = y % 12) || decide (c = z % 12)) 12 := cn_m (fun d hd gd => by
          rcases hc d hd gd with r | r | r
          · rw [r] at gd; exact absurd gd g
          · simp [r]
          · simp [r])
        have h2 := cn_o (p := fun c => decide (c = y % 12)) (q := fun c => decide (c = z % 12)) (n := 12)
        have h3 := (cn_1 (y % 12) 12).1
        have h4 := (cn_1 (z % 12) 12).1
        omega
    have hc3 : ∀ d, d < 12 → bt (tmI s i 8) d = true → d = a % 12 ∨ d = b % 12 ∨ d = c % 12 := by
      intro d hd g
      rcases hcov d hd g with r | r | r | r
      · exact Or.inl r
      · exact Or.inr (Or.inl r)
      · exact Or.inr (Or.inr r)
      · rw [r] at g; exact absurd g nb
    refine ⟨q a b c hc3, q b a c (fun d hd g => ?_), q c a b (fun d hd g => ?_)⟩
    · rcases hc3 d hd g with r | r | r <;> omega
    · rcases hc3 d hd g with r | r | r <;> omega
def iv (p : Nat → Bool) (x n : Nat) : Nat := sumTo (fun k => oN (p ((x + k) % 12))) n
theorem iv_a (p : Nat → Bool) (x m : Nat) : ∀ n, iv p x (m + n) = iv p x m + iv p (x + m) n
  | 0 => rfl
  | n + 1 => by
    have h := iv_a p x m n
    unfold iv at *
    rw [← Nat.add_assoc, sumTo_s, sumTo_s, h, Nat.add_assoc x m n]; omega
theorem iv_12 (p : Nat → Bool) : ∀ x, iv p x 12 = cn p 12
  | 0 => sumTo_e (fun k hk => by rw [show (0 + k) % 12 = k by omega])
  | x + 1 => by
    have h := iv_12 p x
    have e1 : iv p x 13 = iv p x 1 + iv p (x + 1) 12 := iv_a p x 1 12
    have e2 : iv p x 13 = iv p x 12 + iv p (x + 12) 1 := iv_a p x 12 1
    have e3 : iv p x 1 = iv p (x + 12) 1 := by
      unfold iv sumTo sumTo
      rw [show (x + 12 + 0) % 12 = (x + 0) % 12 by omega]
    omega
theorem iv_1 (p : Nat → Bool) (x : Nat) : iv p x 1 ≤ 1 := by
  unfold iv sumTo sumTo; have := oN_le (p ((x + 0) % 12)); omega
theorem iv_13 {p : Nat → Bool} (h : cn p 12 ≤ 3) (x : Nat) : iv p x 13 ≤ 4 := by
  have e2 : iv p x 13 = iv p x 12 + iv p (x + 12) 1 := iv_a p x 12 1
  have := iv_1 p (x + 12); rw [e2, iv_12]; omega
theorem iv_25 {p : Nat → Bool} (h : cn p 12 ≤ 3) (x : Nat) : iv p x 25 ≤ 7 := by
  have e2 : iv p x 25 = iv p x 12 + iv p (x + 12) 13 := iv_a p x 12 13
  have := iv_13 h (x + 12); rw [e2, iv_12]; omega
theorem iv_m (p : Nat → Bool) (x : Nat) {m n : Nat} (h : m ≤ n) : iv p x m ≤ iv p x n := by
  obtain ⟨d, rfl⟩ : ∃ d, n = m + d := ⟨n - m, by omega⟩
  rw [iv_a]; omega
theorem win {p : Nat → Bool} (lo : Nat) (N : Nat) : ∀ m, sumTo (fun y => oN (p (y % 12) && decide (lo ≤ y ∧ y < lo + m))) N ≤ iv p lo m
  | 0 => by
    rw [sumTo_0 (fun k _ => by
      have : ¬ (lo ≤ k ∧ k < lo + 0) := by omega
      simp [this, oN])]
    exact Nat.zero_le _
  | m + 1 => by
    have h := win (p := p) lo N m
    have e : sumTo (fun y => oN (p (y % 12) && decide (lo ≤ y ∧ y < lo + (m + 1)))) N ≤ sumTo (fun y => oN (p (y % 12) && decide (lo ≤ y ∧ y < lo + m)) + oN (p ((lo + m) % 12)) * oN (decide (y = lo + m))) N := by
      refine sumTo_m (fun y _ => ?_)
      by_cases q : y = lo + m
      · subst q
        have q1 : ¬ (lo ≤ lo + m ∧ lo + m < lo + m) := by omega
        have q2 : lo ≤ lo + m ∧ lo + m < lo + (m + 1) := by omega
        rw [decide_eq_false q1, decide_eq_true q2, Bool.and_true, Bool.and_false, decide_eq_true (rfl : lo + m = lo + m)]
        show _ ≤ 0 + _ * 1
        omega
      · have q1 : decide (lo ≤ y ∧ y < lo + (m + 1)) = decide (lo ≤ y ∧ y < lo + m) := decide_eq_decide.mpr (by omega)
        rw [q1]; omega
    rw [sumTo_a, sumTo_c] at e
    have h1 := (cn_1 (lo + m) N).1
    unfold cn at h1
    have h2 : oN (p ((lo + m) % 12)) * sumTo (fun y => oN (decide (y = lo + m))) N ≤ oN (p ((lo + m) % 12)) * 1 := Nat.mul_le_mul_left _ h1
    have e3 : iv p lo (m + 1) = iv p lo m + oN (p ((lo + m) % 12)) := rfl
    omega
theorem winc {p : Nat → Bool} (lo m c n : Nat) : sumTo (fun k => oN (p ((c + k) % 12) && decide (lo ≤ c + k ∧ c + k < lo + m))) n ≤ iv p lo m := by
  refine Nat.le_trans ?_ (win (p := p) lo (c + n) m)
  generalize hg : (fun y => oN (p (y % 12) && decide (lo ≤ y ∧ y < lo + m))) = g
  have e : (fun k => oN (p ((c + k) % 12) && decide (lo ≤ c + k ∧ c + k < lo + m))) = fun k => g (c + k) := by rw [← hg]
  rw [e]
  clear hg e
  induction n with
  | zero => exact Nat.zero_le _
  | succ n ih => rw [← Nat.add_assoc]; unfold sumTo; omega
theorem VLc_len (s : SG) (i a b : Nat) : ∀ n c, (VLc s i a b c n).length = sumTo (fun k => oN (decide (alone s i a b (c + k) = 0))) n
  | 0, _ => rfl
  | n + 1, c => by
    rw [sumTo_f]
    unfold VLc
    rw [List.length_append, VLc_len s i a b n (c + 1)]
    have e : sumTo (fun k => oN (decide (alone s i a b (c + 1 + k) = 0))) n = sumTo (fun k => oN (decide (alone s i a b (c + (k + 1)) = 0))) n := sumTo_e (fun k _ => by rw [show c + 1 + k = c + (k + 1) by omega])
    rw [e]
    by_cases q : alone s i a b c = 0
    · simp [q, oN]
    · simp [q, oN]
theorem VLc_4 {s : SG} {i : Nat} (h3 : cntW s i 8 ≤ 3) (a b c n : Nat) : (VLc s i a b c n).length ≤ 4 := by
  rw [VLc_len]
  refine Nat.le_trans (sumTo_m (g := fun k => oN (TT s i ((c + k) % 12) && decide (b - 12 ≤ c + k ∧ c + k < b - 12 + 13))) (fun k _ => ?_)) (Nat.le_trans (winc (p := TT s i) (b - 12) 13 c n) (iv_13 (TT_cn h3) _))
  by_cases q : alone s i a b (c + k) = 0
  · have t := (TT_of q).2.2
    have o := (alone_0 s i a b (c + k)).mp q
    have r : b - 12 ≤ c + k ∧ c + k < b - 12 + 13 := by omega
    rw [t, decide_eq_true r, decide_eq_true q]; exact Nat.le_refl _
  · rw [decide_eq_false q]; exact Nat.zero_le _
theorem VLb_len {s : SG} {i : Nat} (h3 : cntW s i 8 ≤ 3) (a : Nat) : ∀ n b, (VLb s i a b n).length ≤ 4 * sumTo (fun k => oN (TT s i ((b + k) % 12) && decide (a - 12 ≤ b + k ∧ b + k < a - 12 + 13))) n
  | 0, _ => Nat.zero_le _
  | n + 1, b => by
    rw [sumTo_f]
    unfold VLb
    rw [List.length_append, Nat.mul_add]
    have h := VLb_len h3 a n (b + 1)
    have e : sumTo (fun k => oN (TT s i ((b + 1 + k) % 12) && decide (a - 12 ≤ b + 1 + k ∧ b + 1 + k < a - 12 + 13))) n = sumTo (fun k => oN (TT s i ((b + (k + 1)) % 12) && decide (a - 12 ≤ b + (k + 1) ∧ b + (k + 1) < a - 12 + 13))) n := sumTo_e (fun k _ => by rw [show b + 1 + k = b + (k + 1) by omega])
    rw [e] at h
    have h4 := VLc_4 h3 a b (slo s 2) (shi s 2 + 1 - slo s 2)
    by_cases q : (TT s i ((b + 0) % 12) && decide (a - 12 ≤ b + 0 ∧ b + 0 < a - 12 + 13)) = true
    · rw [q]; show _ ≤ 4 * 1 + _; omega
    · have no : VLc s i a b (slo s 2) (shi s 2 + 1 - slo s 2) = [] := VLc_no s i a b _ _ (fun x _ _ g => q (by
        have t := (TT_of g).2.1
        have o := (alone_0 s i a b x).mp g
        have r : a - 12 ≤ b + 0 ∧ b + 0 < a - 12 + 13 := by omega
        rw [Nat.add_zero] at *
        rw [t, decide_eq_true r]; rfl))
      rw [no, List.length_nil]; omega
theorem VLb_16 {s : SG} {i : Nat} (h3 : cntW s i 8 ≤ 3) (a b n : Nat) : (VLb s i a b n).length ≤ 16 := by
  have h := VLb_len h3 a n b
  have h2 := winc (p := TT s i) (a - 12) 13 b n
  have h3 := iv_13 (TT_cn h3) (a - 12)
  omega
theorem VLa_len {s : SG} {i : Nat} (h3 : cntW s i 8 ≤ 3) : ∀ n a, (VLa s i a n).length ≤ 16 * iv (TT s i) a n
  | 0, _ => Nat.zero_le _
  | n + 1, a => by
    have h := VLa_len h3 n (a + 1)
    have e : iv (TT s i) a (n + 1) = oN (TT s i (a % 12)) + iv (TT s i) (a + 1) n := by
      rw [show n + 1 = 1 + n by omega, iv_a]
      have : iv (TT s i) a 1 = oN (TT s i (a % 12)) := by unfold iv sumTo sumTo; rw [Nat.add_zero, Nat.zero_add]
      rw [this]
    rw [e, Nat.mul_add]
    unfold VLa
    rw [List.length_append]
    have h4 := VLb_16 h3 a (slo s 1) (shi s 1 + 1 - slo s 1)
    by_cases q : TT s i (a % 12) = true
    · rw [q]; show _ ≤ 16 * 1 + _; omega
    · have no : ∀ m b, VLb s i a b m = [] := by
        intro m
        induction m with
        | zero => intro b; rfl
        | succ m ih =>
          intro b
          unfold VLb
          rw [ih, VLc_no s i a b _ _ (fun x _ _ g => q (TT_of g).1)]; rfl
      rw [no, List.length_nil]; omega
theorem sz_112 {s : SG} (hw : WF s) {i : Nat} (hi : i < sn s) : sz s i ≤ 112 := by
  have h3 := (hw.2.2.2.2.1 i hi).2.2.2
  have hr := hw.2.2.2.2.2.1 0 (by decide)
  have h := VLa_len h3 (shi s 0 + 1 - slo s 0) (slo s 0)
  have h2 := iv_m (TT s i) (slo s 0) (show shi s 0 + 1 - slo s 0 ≤ 25 by omega)
  have h4 := iv_25 (TT_cn h3) (slo s 0)
  unfold sz VL
  omega
theorem sz_800 {s : SG} (hw : WF s) : ∀ i, i < sn s → sz s i ≤ 800 := fun i hi => by have := sz_112 hw hi; omega
