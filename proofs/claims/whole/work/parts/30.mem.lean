def up (mu : Nat → Nat → Int32) (k j : Nat) (v : Int32) : Nat → Nat → Int32 := va_up mu k (upd (mu k) j v)
theorem up_at (mu : Nat → Nat → Int32) (k j : Nat) (v : Int32) : up mu k j v k j = v := by simp [up, va_up, upd]
theorem up_j {mu : Nat → Nat → Int32} {k j i : Nat} {v : Int32} (h : ¬ i = j) : up mu k j v k i = mu k i := by simp [up, va_up, upd, h]
theorem up_k {mu : Nat → Nat → Int32} {k j q : Nat} {v : Int32} (h : ¬ q = k) : up mu k j v q = mu q := by simp [up, va_up, h]
theorem up_ap (mu : Nat → Nat → Int32) (k j : Nat) (v : Int32) (q i : Nat) : up mu k j v q i = if q = k ∧ i = j then v else mu q i := by by_cases h : q = k <;> by_cases h2 : i = j <;> simp [up, va_up, upd, h, h2]
def kd (k : Nat) : Nat := if k < 8 then k else if k < 104 then 8 + (k - 8) % 8 else k - 88
def Hc (k : Nat) (m : Nat → Int32) (l : Nat → Int64) : MC := match kd k with
  | 0 => .inl (5, [.inr (some 1), .inr (some 2), .inr (some 3), .inr (some 109), .inl (m 4)])
  | 1 => .inl (4, [.inr (some 2), .inr (some 3), .inr (some 7), .inr (some 104), .inr (some 108), .inl (m 5), .inl (m 6), .inl (m 7), .inl (m 8)])
  | 2 => .inr (3, 12, .inr (.inr (fun i => if i < 12 then some (8 + 8 * i) else none)))
  | 3 => .inl (3, [.inr (some 4), .inr (some 5), .inr (some 6), .inl (m 3), .inl (m 4)])
  | 4 => .inr (0, 3, .inl m)
  | 5 => .inr (0, 3, .inl m)
  | 6 => .inr (0, 3, .inl m)
  | 7 => .inr (4, 12, .inr (.inr (fun i => if i < 12 then some (11 + 8 * i) else none)))
  | 8 => .inl (0, [.inl (m 0), .inl (m 1), .inl (m 2), .inl (m 3), .inr (some (k + 1)), .inr (some (k + 2)), .inl (m 6), .inl (m 7), .inl (m 8), .inl (m 9), .inl (m 10)])
  | 9 => .inr (0, 10, .inl m)
  | 10 => .inr (0, 3, .inl m)
  | 11 => .inl (1, [.inr (some (k + 1)), .inr (some (k + 2)), .inr (some (k + 3)), .inr (some (k + 4)), .inl (m 4), .inl (m 5)])
  | 12 => .inr (0, 112, .inl m)
  | 13 => .inr (1, 112, .inl m)
  | 14 => .inr (0, 112, .inl m)
  | 15 => .inr (0, 112, .inl m)
  | 16 => .inl (2, [.inr (some 105), .inr (some 106), .inr (some 107), .inl (m 3), .inl (m 4), .inl (m 5)])
  | 17 => .inr (0, 4, .inl m)
  | 18 => .inr (0, 4, .inl m)
  | 19 => .inr (0, 4, .inl m)
  | 20 => .inr (0, 12, .inl m)
  | 21 => .inl (2, [.inr (some 110), .inr (some 111), .inr (some 112), .inl (m 3), .inl (m 4), .inl (m 5)])
  | 22 => .inr (0, 4, .inl m)
  | 23 => .inr (0, 4, .inl m)
  | 24 => .inr (0, 4, .inl m)
  | 25 => .inl (6, [.inl (m 0), .inl (m 1), .inl (m 2), .inr (some 114), .inr (some 115), .inr (some 116), .inr (some 117), .inr (some 118), .inr (some 119), .inr (some 120), .inl (m 10), .inr (some 121), .inr (some 122), .inr (some 123), .inr (some 124), .inr (some 125), .inr (some 126), .inr (some 127), .inr (some 128), .inl (m 19), .inr (some 129), .inr (some 130), .inr (some 131), .inr (some 132), .inl (m 24), .inr (some 133)])
  | 26 => .inr (0, 12, .inl m)
  | 27 => .inr (0, 12, .inl m)
  | 28 => .inr (0, 12, .inl m)
  | 29 => .inr (0, 120, .inl m)
  | 30 => .inr (0, 3, .inl m)
  | 31 => .inr (0, 3, .inl m)
  | 32 => .inr (0, 3, .inl m)
  | 33 => .inr (0, 36, .inl m)
  | 34 => .inr (0, 36, .inl m)
  | 35 => .inr (1, 12, .inl m)
  | 36 => .inr (0, 4, .inl m)
  | 37 => .inr (0, 4, .inl m)
  | 38 => .inr (0, 12, .inl m)
  | 39 => .inr (0, 12, .inl m)
  | 40 => .inr (0, 12, .inl m)
  | 41 => .inr (0, 28800, .inl m)
  | 42 => .inr (0, 12, .inl m)
  | 43 => .inr (0, 9600, .inl m)
  | 44 => .inr (2, 9600, .inr (.inl l))
  | 45 => .inr (0, 4, .inl m)
  | _ => .inl (0, [])
def Hm (mu : Nat → Nat → Int32) (l : Nat → Int64) : MH := (134, fun k => Hc k (mu k) l)
theorem Hm_1 (mu : Nat → Nat → Int32) (l : Nat → Int64) : (Hm mu l).1 = 134 := rfl
theorem Hm_set (mu : Nat → Nat → Int32) (l : Nat → Int64) (k : Nat) (r : Nat → Int32) : mset (Hm mu l) k (Hc k r l) = Hm (va_up mu k r) l := by
  unfold mset Hm
  congr 1
  funext q
  by_cases h : q = k
  · subst h; simp [va_up]
  · simp [va_up, h]
theorem Hc_l {q : Nat} {m : Nat → Int32} {l l2 : Nat → Int64} (h : ¬ q = 132) : Hc q m l = Hc q m l2 := by
  have h44 : ¬ kd q = 44 := by
    unfold kd
    by_cases h1 : q < 8
    · rw [if_pos h1]; omega
    · rw [if_neg h1]
      by_cases h2 : q < 104
      · rw [if_pos h2]; omega
      · rw [if_neg h2]; omega
  unfold Hc
  split <;> first | rfl | exact absurd (by assumption) h44
theorem kd_Br : kd 0 = 0 := rfl
theorem Hc_Br (m : Nat → Int32) (l : Nat → Int64) : Hc 0 m l = .inl (5, [.inr (some 1), .inr (some 2), .inr (some 3), .inr (some 109), .inl (m 4)]) := rfl
theorem Hm_Br (mu : Nat → Nat → Int32) (l : Nat → Int64) : (Hm mu l).2 0 = .inl (5, [.inr (some 1), .inr (some 2), .inr (some 3), .inr (some 109), .inl (mu 0 4)]) := Hc_Br (mu 0) l
theorem gC_Br (mu : Nat → Nat → Int32) (l : Nat → Int64) : gC (Hm mu l) 0 = some 5 := gC_of (by show 0 < 134; decide) (Hm_Br mu l)
theorem gF_Br_0 (mu : Nat → Nat → Int32) (l : Nat → Int64) : gF (Hm mu l) 0 5 0 = some (.inr (some 1)) := gF_of (by show 0 < 134; decide) (Hm_Br mu l) rfl
theorem gF_Br_1 (mu : Nat → Nat → Int32) (l : Nat → Int64) : gF (Hm mu l) 0 5 1 = some (.inr (some 2)) := gF_of (by show 0 < 134; decide) (Hm_Br mu l) rfl
theorem gF_Br_2 (mu : Nat → Nat → Int32) (l : Nat → Int64) : gF (Hm mu l) 0 5 2 = some (.inr (some 3)) := gF_of (by show 0 < 134; decide) (Hm_Br mu l) rfl
theorem gF_Br_3 (mu : Nat → Nat → Int32) (l : Nat → Int64) : gF (Hm mu l) 0 5 3 = some (.inr (some 109)) := gF_of (by show 0 < 134; decide) (Hm_Br mu l) rfl
theorem gF_Br_4 (mu : Nat → Nat → Int32) (l : Nat → Int64) : gF (Hm mu l) 0 5 4 = some (.inl (mu 0 4)) := gF_of (by show 0 < 134; decide) (Hm_Br mu l) rfl
theorem fs_Br_4 (mu : Nat → Nat → Int32) (l : Nat → Int64) (v : Int32) : fset (Hm mu l) 0 4 (.inl v) = Hm (up mu 0 4 v) l := by
  rw [fset_eq _ (Hm_Br mu l), up, ← Hm_set, Hc_Br]; simp [upd]
theorem kd_Se : kd 1 = 1 := rfl
theorem Hc_Se (m : Nat → Int32) (l : Nat → Int64) : Hc 1 m l = .inl (4, [.inr (some 2), .inr (some 3), .inr (some 7), .inr (some 104), .inr (some 108), .inl (m 5), .inl (m 6), .inl (m 7), .inl (m 8)]) := rfl
theorem Hm_Se (mu : Nat → Nat → Int32) (l : Nat → Int64) : (Hm mu l).2 1 = .inl (4, [.inr (some 2), .inr (some 3), .inr (some 7), .inr (some 104), .inr (some 108), .inl (mu 1 5), .inl (mu 1 6), .inl (mu 1 7), .inl (mu 1 8)]) := Hc_Se (mu 1) l
theorem gC_Se (mu : Nat → Nat → Int32) (l : Nat → Int64) : gC (Hm mu l) 1 = some 4 := gC_of (by show 1 < 134; decide) (Hm_Se mu l)
theorem gF_Se_0 (mu : Nat → Nat → Int32) (l : Nat → Int64) : gF (Hm mu l) 1 4 0 = some (.inr (some 2)) := gF_of (by show 1 < 134; decide) (Hm_Se mu l) rfl
theorem gF_Se_1 (mu : Nat → Nat → Int32) (l : Nat → Int64) : gF (Hm mu l) 1 4 1 = some (.inr (some 3)) := gF_of (by show 1 < 134; decide) (Hm_Se mu l) rfl
theorem gF_Se_2 (mu : Nat → Nat → Int32) (l : Nat → Int64) : gF (Hm mu l) 1 4 2 = some (.inr (some 7)) := gF_of (by show 1 < 134; decide) (Hm_Se mu l) rfl
theorem gF_Se_3 (mu : Nat → Nat → Int32) (l : Nat → Int64) : gF (Hm mu l) 1 4 3 = some (.inr (some 104)) := gF_of (by show 1 < 134; decide) (Hm_Se mu l) rfl
theorem gF_Se_4 (mu : Nat → Nat → Int32) (l : Nat → Int64) : gF (Hm mu l) 1 4 4 = some (.inr (some 108)) := gF_of (by show 1 < 134; decide) (Hm_Se mu l) rfl
theorem gF_Se_5 (mu : Nat → Nat → Int32) (l : Nat → Int64) : gF (Hm mu l) 1 4 5 = some (.inl (mu 1 5)) := gF_of (by show 1 < 134; decide) (Hm_Se mu l) rfl
theorem fs_Se_5 (mu : Nat → Nat → Int32) (l : Nat → Int64) (v : Int32) : fset (Hm mu l) 1 5 (.inl v) = Hm (up mu 1 5 v) l := by
  rw [fset_eq _ (Hm_Se mu l), up, ← Hm_set, Hc_Se]; simp [upd]
theorem gF_Se_6 (mu : Nat → Nat → Int32) (l : Nat → Int64) : gF (Hm mu l) 1 4 6 = some (.inl (mu 1 6)) := gF_of (by show 1 < 134; decide) (Hm_Se mu l) rfl
theorem fs_Se_6 (mu : Nat → Nat → Int32) (l : Nat → Int64) (v : Int32) : fset (Hm mu l) 1 6 (.inl v) = Hm (up mu 1 6 v) l := by
  rw [fset_eq _ (Hm_Se mu l), up, ← Hm_set, Hc_Se]; simp [upd]
theorem gF_Se_7 (mu : Nat → Nat → Int32) (l : Nat → Int64) : gF (Hm mu l) 1 4 7 = some (.inl (mu 1 7)) := gF_of (by show 1 < 134; decide) (Hm_Se mu l) rfl
theorem fs_Se_7 (mu : Nat → Nat → Int32) (l : Nat → Int64) (v : Int32) : fset (Hm mu l) 1 7 (.inl v) = Hm (up mu 1 7 v) l := by
  rw [fset_eq _ (Hm_Se mu l), up, ← Hm_set, Hc_Se]; simp [upd]
theorem gF_Se_8 (mu : Nat → Nat → Int32) (l : Nat → Int64) : gF (Hm mu l) 1 4 8 = some (.inl (mu 1 8)) := gF_of (by show 1 < 134; decide) (Hm_Se mu l) rfl
theorem fs_Se_8 (mu : Nat → Nat → Int32) (l : Nat → Int64) (v : Int32) : fset (Hm mu l) 1 8 (.inl v) = Hm (up mu 1 8 v) l := by
  rw [fset_eq _ (Hm_Se mu l), up, ← Hm_set, Hc_Se]; simp [upd]
theorem kd_CA : kd 2 = 2 := rfl
theorem Hc_CA (m : Nat → Int32) (l : Nat → Int64) : Hc 2 m l = .inr (3, 12, .inr (.inr (fun i => if i < 12 then some (8 + 8 * i) else none))) := rfl
theorem Hm_CA (mu : Nat → Nat → Int32) (l : Nat → Int64) : (Hm mu l).2 2 = .inr (3, 12, .inr (.inr (fun i => if i < 12 then some (8 + 8 * i) else none))) := Hc_CA (mu 2) l
theorem gR_CA (mu : Nat → Nat → Int32) (l : Nat → Int64) : gR (Hm mu l) 2 3 = some (12, fun i => if i < 12 then some (8 + 8 * i) else none) := gR_of (by show 2 < 134; decide) (Hm_CA mu l)
theorem kd_Ru : kd 3 = 3 := rfl
theorem Hc_Ru (m : Nat → Int32) (l : Nat → Int64) : Hc 3 m l = .inl (3, [.inr (some 4), .inr (some 5), .inr (some 6), .inl (m 3), .inl (m 4)]) := rfl
theorem Hm_Ru (mu : Nat → Nat → Int32) (l : Nat → Int64) : (Hm mu l).2 3 = .inl (3, [.inr (some 4), .inr (some 5), .inr (some 6), .inl (mu 3 3), .inl (mu 3 4)]) := Hc_Ru (mu 3) l
theorem gC_Ru (mu : Nat → Nat → Int32) (l : Nat → Int64) : gC (Hm mu l) 3 = some 3 := gC_of (by show 3 < 134; decide) (Hm_Ru mu l)
theorem gF_Ru_0 (mu : Nat → Nat → Int32) (l : Nat → Int64) : gF (Hm mu l) 3 3 0 = some (.inr (some 4)) := gF_of (by show 3 < 134; decide) (Hm_Ru mu l) rfl
theorem gF_Ru_1 (mu : Nat → Nat → Int32) (l : Nat → Int64) : gF (Hm mu l) 3 3 1 = some (.inr (some 5)) := gF_of (by show 3 < 134; decide) (Hm_Ru mu l) rfl
theorem gF_Ru_2 (mu : Nat → Nat → Int32) (l : Nat → Int64) : gF (Hm mu l) 3 3 2 = some (.inr (some 6)) := gF_of (by show 3 < 134; decide) (Hm_Ru mu l) rfl
theorem gF_Ru_3 (mu : Nat → Nat → Int32) (l : Nat → Int64) : gF (Hm mu l) 3 3 3 = some (.inl (mu 3 3)) := gF_of (by show 3 < 134; decide) (Hm_Ru mu l) rfl
theorem fs_Ru_3 (mu : Nat → Nat → Int32) (l : Nat → Int64) (v : Int32) : fset (Hm mu l) 3 3 (.inl v) = Hm (up mu 3 3 v) l := by
  rw [fset_eq _ (Hm_Ru mu l), up, ← Hm_set, Hc_Ru]; simp [upd]
theorem gF_Ru_4 (mu : Nat → Nat → Int32) (l : Nat → Int64) : gF (Hm mu l) 3 3 4 = some (.inl (mu 3 4)) := gF_of (by show 3 < 134; decide) (Hm_Ru mu l) rfl
theorem fs_Ru_4 (mu : Nat → Nat → Int32) (l : Nat → Int64) (v : Int32) : fset (Hm mu l) 3 4 (.inl v) = Hm (up mu 3 4 v) l := by
  rw [fset_eq _ (Hm_Ru mu l), up, ← Hm_set, Hc_Ru]; simp [upd]
theorem kd_lo : kd 4 = 4 := rfl
theorem Hc_lo (m : Nat → Int32) (l : Nat → Int64) : Hc 4 m l = .inr (0, 3, .inl m) := rfl
theorem Hm_lo (mu : Nat → Nat → Int32) (l : Nat → Int64) : (Hm mu l).2 4 = .inr (0, 3, .inl (mu 4)) := Hc_lo (mu 4) l
theorem gA_lo (mu : Nat → Nat → Int32) (l : Nat → Int64) : gA (Hm mu l) 4 0 = some (3, mu 4) := gA_of (by show 4 < 134; decide) (Hm_lo mu l)
theorem ms_lo (mu : Nat → Nat → Int32) (l : Nat → Int64) (j : Nat) (v : Int32) : mset (Hm mu l) 4 (.inr (0, 3, .inl (upd (mu 4) j v))) = Hm (up mu 4 j v) l := by
  rw [up, ← Hm_set, Hc_lo]
theorem kd_hi : kd 5 = 5 := rfl
theorem Hc_hi (m : Nat → Int32) (l : Nat → Int64) : Hc 5 m l = .inr (0, 3, .inl m) := rfl
theorem Hm_hi (mu : Nat → Nat → Int32) (l : Nat → Int64) : (Hm mu l).2 5 = .inr (0, 3, .inl (mu 5)) := Hc_hi (mu 5) l
theorem gA_hi (mu : Nat → Nat → Int32) (l : Nat → Int64) : gA (Hm mu l) 5 0 = some (3, mu 5) := gA_of (by show 5 < 134; decide) (Hm_hi mu l)
theorem ms_hi (mu : Nat → Nat → Int32) (l : Nat → Int64) (j : Nat) (v : Int32) : mset (Hm mu l) 5 (.inr (0, 3, .inl (upd (mu 5) j v))) = Hm (up mu 5 j v) l := by
  rw [up, ← Hm_set, Hc_hi]
theorem kd_ho : kd 6 = 6 := rfl
theorem Hc_ho (m : Nat → Int32) (l : Nat → Int64) : Hc 6 m l = .inr (0, 3, .inl m) := rfl
theorem Hm_ho (mu : Nat → Nat → Int32) (l : Nat → Int64) : (Hm mu l).2 6 = .inr (0, 3, .inl (mu 6)) := Hc_ho (mu 6) l
theorem gA_ho (mu : Nat → Nat → Int32) (l : Nat → Int64) : gA (Hm mu l) 6 0 = some (3, mu 6) := gA_of (by show 6 < 134; decide) (Hm_ho mu l)
theorem ms_ho (mu : Nat → Nat → Int32) (l : Nat → Int64) (j : Nat) (v : Int32) : mset (Hm mu l) 6 (.inr (0, 3, .inl (upd (mu 6) j v))) = Hm (up mu 6 j v) l := by
  rw [up, ← Hm_set, Hc_ho]
theorem kd_CO : kd 7 = 7 := rfl
theorem Hc_CO (m : Nat → Int32) (l : Nat → Int64) : Hc 7 m l = .inr (4, 12, .inr (.inr (fun i => if i < 12 then some (11 + 8 * i) else none))) := rfl
theorem Hm_CO (mu : Nat → Nat → Int32) (l : Nat → Int64) : (Hm mu l).2 7 = .inr (4, 12, .inr (.inr (fun i => if i < 12 then some (11 + 8 * i) else none))) := Hc_CO (mu 7) l
theorem gR_CO (mu : Nat → Nat → Int32) (l : Nat → Int64) : gR (Hm mu l) 7 4 = some (12, fun i => if i < 12 then some (11 + 8 * i) else none) := gR_of (by show 7 < 134; decide) (Hm_CO mu l)
theorem kd_ch {i : Nat} (hi : i < 12) : kd (8 + 8 * i) = 8 := by unfold kd; rw [if_neg (by omega), if_pos (by omega)]; omega
theorem Hc_ch (m : Nat → Int32) (l : Nat → Int64) {i : Nat} (hi : i < 12) : Hc (8 + 8 * i) m l = .inl (0, [.inl (m 0), .inl (m 1), .inl (m 2), .inl (m 3), .inr (some (9 + 8 * i)), .inr (some (10 + 8 * i)), .inl (m 6), .inl (m 7), .inl (m 8), .inl (m 9), .inl (m 10)]) := by
  unfold Hc; rw [kd_ch hi]; simp only []; rw [show 8 + 8 * i + 1 = 9 + 8 * i by omega, show 8 + 8 * i + 2 = 10 + 8 * i by omega]
theorem Hm_ch (mu : Nat → Nat → Int32) (l : Nat → Int64) {i : Nat} (hi : i < 12) : (Hm mu l).2 (8 + 8 * i) = .inl (0, [.inl (mu (8 + 8 * i) 0), .inl (mu (8 + 8 * i) 1), .inl (mu (8 + 8 * i) 2), .inl (mu (8 + 8 * i) 3), .inr (some (9 + 8 * i)), .inr (some (10 + 8 * i)), .inl (mu (8 + 8 * i) 6), .inl (mu (8 + 8 * i) 7), .inl (mu (8 + 8 * i) 8), .inl (mu (8 + 8 * i) 9), .inl (mu (8 + 8 * i) 10)]) := Hc_ch (mu (8 + 8 * i)) l hi
theorem gC_ch (mu : Nat → Nat → Int32) (l : Nat → Int64) {i : Nat} (hi : i < 12) : gC (Hm mu l) (8 + 8 * i) = some 0 := gC_of (by show (8 + 8 * i) < 134; omega) (Hm_ch mu l hi)
theorem gF_ch_0 (mu : Nat → Nat → Int32) (l : Nat → Int64) {i : Nat} (hi : i < 12) : gF (Hm mu l) (8 + 8 * i) 0 0 = some (.inl (mu (8 + 8 * i) 0)) := gF_of (by show (8 + 8 * i) < 134; omega) (Hm_ch mu l hi) rfl
theorem fs_ch_0 (mu : Nat → Nat → Int32) (l : Nat → Int64) {i : Nat} (hi : i < 12) (v : Int32) : fset (Hm mu l) (8 + 8 * i) 0 (.inl v) = Hm (up mu (8 + 8 * i) 0 v) l := by
  rw [fset_eq _ (Hm_ch mu l hi), up, ← Hm_set, Hc_ch _ _ hi]; simp [upd]
theorem gF_ch_1 (mu : Nat → Nat → Int32) (l : Nat → Int64) {i : Nat} (hi : i < 12) : gF (Hm mu l) (8 + 8 * i) 0 1 = some (.inl (mu (8 + 8 * i) 1)) := gF_of (by show (8 + 8 * i) < 134; omega) (Hm_ch mu l hi) rfl
theorem fs_ch_1 (mu : Nat → Nat → Int32) (l : Nat → Int64) {i : Nat} (hi : i < 12) (v : Int32) : fset (Hm mu l) (8 + 8 * i) 1 (.inl v) = Hm (up mu (8 + 8 * i) 1 v) l := by
  rw [fset_eq _ (Hm_ch mu l hi), up, ← Hm_set, Hc_ch _ _ hi]; simp [upd]
theorem gF_ch_2 (mu : Nat → Nat → Int32) (l : Nat → Int64) {i : Nat} (hi : i < 12) : gF (Hm mu l) (8 + 8 * i) 0 2 = some (.inl (mu (8 + 8 * i) 2)) := gF_of (by show (8 + 8 * i) < 134; omega) (Hm_ch mu l hi) rfl
theorem fs_ch_2 (mu : Nat → Nat → Int32) (l : Nat → Int64) {i : Nat} (hi : i < 12) (v : Int32) : fset (Hm mu l) (8 + 8 * i) 2 (.inl v) = Hm (up mu (8 + 8 * i) 2 v) l := by
  rw [fset_eq _ (Hm_ch mu l hi), up, ← Hm_set, Hc_ch _ _ hi]; simp [upd]
theorem gF_ch_3 (mu : Nat → Nat → Int32) (l : Nat → Int64) {i : Nat} (hi : i < 12) : gF (Hm mu l) (8 + 8 * i) 0 3 = some (.inl (mu (8 + 8 * i) 3)) := gF_of (by show (8 + 8 * i) < 134; omega) (Hm_ch mu l hi) rfl
theorem fs_ch_3 (mu : Nat → Nat → Int32) (l : Nat → Int64) {i : Nat} (hi : i < 12) (v : Int32) : fset (Hm mu l) (8 + 8 * i) 3 (.inl v) = Hm (up mu (8 + 8 * i) 3 v) l := by
  rw [fset_eq _ (Hm_ch mu l hi), up, ← Hm_set, Hc_ch _ _ hi]; simp [upd]
theorem gF_ch_4 (mu : Nat → Nat → Int32) (l : Nat → Int64) {i : Nat} (hi : i < 12) : gF (Hm mu l) (8 + 8 * i) 0 4 = some (.inr (some (9 + 8 * i))) := gF_of (by show (8 + 8 * i) < 134; omega) (Hm_ch mu l hi) rfl
theorem gF_ch_5 (mu : Nat → Nat → Int32) (l : Nat → Int64) {i : Nat} (hi : i < 12) : gF (Hm mu l) (8 + 8 * i) 0 5 = some (.inr (some (10 + 8 * i))) := gF_of (by show (8 + 8 * i) < 134; omega) (Hm_ch mu l hi) rfl
theorem gF_ch_6 (mu : Nat → Nat → Int32) (l : Nat → Int64) {i : Nat} (hi : i < 12) : gF (Hm mu l) (8 + 8 * i) 0 6 = some (.inl (mu (8 + 8 * i) 6)) := gF_of (by show (8 + 8 * i) < 134; omega) (Hm_ch mu l hi) rfl
theorem fs_ch_6 (mu : Nat → Nat → Int32) (l : Nat → Int64) {i : Nat} (hi : i < 12) (v : Int32) : fset (Hm mu l) (8 + 8 * i) 6 (.inl v) = Hm (up mu (8 + 8 * i) 6 v) l := by
  rw [fset_eq _ (Hm_ch mu l hi), up, ← Hm_set, Hc_ch _ _ hi]; simp [upd]
theorem gF_ch_7 (mu : Nat → Nat → Int32) (l : Nat → Int64) {i : Nat} (hi : i < 12) : gF (Hm mu l) (8 + 8 * i) 0 7 = some (.inl (mu (8 + 8 * i) 7)) := gF_of (by show (8 + 8 * i) < 134; omega) (Hm_ch mu l hi) rfl
theorem fs_ch_7 (mu : Nat → Nat → Int32) (l : Nat → Int64) {i : Nat} (hi : i < 12) (v : Int32) : fset (Hm mu l) (8 + 8 * i) 7 (.inl v) = Hm (up mu (8 + 8 * i) 7 v) l := by
  rw [fset_eq _ (Hm_ch mu l hi), up, ← Hm_set, Hc_ch _ _ hi]; simp [upd]
theorem gF_ch_8 (mu : Nat → Nat → Int32) (l : Nat → Int64) {i : Nat} (hi : i < 12) : gF (Hm mu l) (8 + 8 * i) 0 8 = some (.inl (mu (8 + 8 * i) 8)) := gF_of (by show (8 + 8 * i) < 134; omega) (Hm_ch mu l hi) rfl
theorem fs_ch_8 (mu : Nat → Nat → Int32) (l : Nat → Int64) {i : Nat} (hi : i < 12) (v : Int32) : fset (Hm mu l) (8 + 8 * i) 8 (.inl v) = Hm (up mu (8 + 8 * i) 8 v) l := by
  rw [fset_eq _ (Hm_ch mu l hi), up, ← Hm_set, Hc_ch _ _ hi]; simp [upd]
theorem gF_ch_9 (mu : Nat → Nat → Int32) (l : Nat → Int64) {i : Nat} (hi : i < 12) : gF (Hm mu l) (8 + 8 * i) 0 9 = some (.inl (mu (8 + 8 * i) 9)) := gF_of (by show (8 + 8 * i) < 134; omega) (Hm_ch mu l hi) rfl
theorem fs_ch_9 (mu : Nat → Nat → Int32) (l : Nat → Int64) {i : Nat} (hi : i < 12) (v : Int32) : fset (Hm mu l) (8 + 8 * i) 9 (.inl v) = Hm (up mu (8 + 8 * i) 9 v) l := by
  rw [fset_eq _ (Hm_ch mu l hi), up, ← Hm_set, Hc_ch _ _ hi]; simp [upd]
theorem gF_ch_10 (mu : Nat → Nat → Int32) (l : Nat → Int64) {i : Nat} (hi : i < 12) : gF (Hm mu l) (8 + 8 * i) 0 10 = some (.inl (mu (8 + 8 * i) 10)) := gF_of (by show (8 + 8 * i) < 134; omega) (Hm_ch mu l hi) rfl
theorem fs_ch_10 (mu : Nat → Nat → Int32) (l : Nat → Int64) {i : Nat} (hi : i < 12) (v : Int32) : fset (Hm mu l) (8 + 8 * i) 10 (.inl v) = Hm (up mu (8 + 8 * i) 10 v) l := by
  rw [fset_eq _ (Hm_ch mu l hi), up, ← Hm_set, Hc_ch _ _ hi]; simp [upd]
theorem kd_sg {i : Nat} (hi : i < 12) : kd (9 + 8 * i) = 9 := by unfold kd; rw [if_neg (by omega), if_pos (by omega)]; omega
theorem Hc_sg (m : Nat → Int32) (l : Nat → Int64) {i : Nat} (hi : i < 12) : Hc (9 + 8 * i) m l = .inr (0, 10, .inl m) := by unfold Hc; rw [kd_sg hi]; rfl
theorem Hm_sg (mu : Nat → Nat → Int32) (l : Nat → Int64) {i : Nat} (hi : i < 12) : (Hm mu l).2 (9 + 8 * i) = .inr (0, 10, .inl (mu (9 + 8 * i))) := Hc_sg (mu (9 + 8 * i)) l hi
theorem gA_sg (mu : Nat → Nat → Int32) (l : Nat → Int64) {i : Nat} (hi : i < 12) : gA (Hm mu l) (9 + 8 * i) 0 = some (10, mu (9 + 8 * i)) := gA_of (by show (9 + 8 * i) < 134; omega) (Hm_sg mu l hi)
theorem ms_sg (mu : Nat → Nat → Int32) (l : Nat → Int64) {i : Nat} (hi : i < 12) (j : Nat) (v : Int32) : mset (Hm mu l) (9 + 8 * i) (.inr (0, 10, .inl (upd (mu (9 + 8 * i)) j v))) = Hm (up mu (9 + 8 * i) j v) l := by
  rw [up, ← Hm_set, Hc_sg _ _ hi]
theorem kd_fx {i : Nat} (hi : i < 12) : kd (10 + 8 * i) = 10 := by unfold kd; rw [if_neg (by omega), if_pos (by omega)]; omega
theorem Hc_fx (m : Nat → Int32) (l : Nat → Int64) {i : Nat} (hi : i < 12) : Hc (10 + 8 * i) m l = .inr (0, 3, .inl m) := by unfold Hc; rw [kd_fx hi]; rfl
theorem Hm_fx (mu : Nat → Nat → Int32) (l : Nat → Int64) {i : Nat} (hi : i < 12) : (Hm mu l).2 (10 + 8 * i) = .inr (0, 3, .inl (mu (10 + 8 * i))) := Hc_fx (mu (10 + 8 * i)) l hi
theorem gA_fx (mu : Nat → Nat → Int32) (l : Nat → Int64) {i : Nat} (hi : i < 12) : gA (Hm mu l) (10 + 8 * i) 0 = some (3, mu (10 + 8 * i)) := gA_of (by show (10 + 8 * i) < 134; omega) (Hm_fx mu l hi)
theorem ms_fx (mu : Nat → Nat → Int32) (l : Nat → Int64) {i : Nat} (hi : i < 12) (j : Nat) (v : Int32) : mset (Hm mu l) (10 + 8 * i) (.inr (0, 3, .inl (upd (mu (10 + 8 * i)) j v))) = Hm (up mu (10 + 8 * i) j v) l := by
  rw [up, ← Hm_set, Hc_fx _ _ hi]
theorem kd_co {i : Nat} (hi : i < 12) : kd (11 + 8 * i) = 11 := by unfold kd; rw [if_neg (by omega), if_pos (by omega)]; omega
theorem Hc_co (m : Nat → Int32) (l : Nat → Int64) {i : Nat} (hi : i < 12) : Hc (11 + 8 * i) m l = .inl (1, [.inr (some (12 + 8 * i)), .inr (some (13 + 8 * i)), .inr (some (14 + 8 * i)), .inr (some (15 + 8 * i)), .inl (m 4), .inl (m 5)]) := by
  unfold Hc; rw [kd_co hi]; simp only []; rw [show 11 + 8 * i + 1 = 12 + 8 * i by omega, show 11 + 8 * i + 2 = 13 + 8 * i by omega, show 11 + 8 * i + 3 = 14 + 8 * i by omega, show 11 + 8 * i + 4 = 15 + 8 * i by omega]
theorem Hm_co (mu : Nat → Nat → Int32) (l : Nat → Int64) {i : Nat} (hi : i < 12) : (Hm mu l).2 (11 + 8 * i) = .inl (1, [.inr (some (12 + 8 * i)), .inr (some (13 + 8 * i)), .inr (some (14 + 8 * i)), .inr (some (15 + 8 * i)), .inl (mu (11 + 8 * i) 4), .inl (mu (11 + 8 * i) 5)]) := Hc_co (mu (11 + 8 * i)) l hi
theorem gC_co (mu : Nat → Nat → Int32) (l : Nat → Int64) {i : Nat} (hi : i < 12) : gC (Hm mu l) (11 + 8 * i) = some 1 := gC_of (by show (11 + 8 * i) < 134; omega) (Hm_co mu l hi)
theorem gF_co_0 (mu : Nat → Nat → Int32) (l : Nat → Int64) {i : Nat} (hi : i < 12) : gF (Hm mu l) (11 + 8 * i) 1 0 = some (.inr (some (12 + 8 * i))) := gF_of (by show (11 + 8 * i) < 134; omega) (Hm_co mu l hi) rfl
theorem gF_co_1 (mu : Nat → Nat → Int32) (l : Nat → Int64) {i : Nat} (hi : i < 12) : gF (Hm mu l) (11 + 8 * i) 1 1 = some (.inr (some (13 + 8 * i))) := gF_of (by show (11 + 8 * i) < 134; omega) (Hm_co mu l hi) rfl
theorem gF_co_2 (mu : Nat → Nat → Int32) (l : Nat → Int64) {i : Nat} (hi : i < 12) : gF (Hm mu l) (11 + 8 * i) 1 2 = some (.inr (some (14 + 8 * i))) := gF_of (by show (11 + 8 * i) < 134; omega) (Hm_co mu l hi) rfl
theorem gF_co_3 (mu : Nat → Nat → Int32) (l : Nat → Int64) {i : Nat} (hi : i < 12) : gF (Hm mu l) (11 + 8 * i) 1 3 = some (.inr (some (15 + 8 * i))) := gF_of (by show (11 + 8 * i) < 134; omega) (Hm_co mu l hi) rfl
theorem gF_co_4 (mu : Nat → Nat → Int32) (l : Nat → Int64) {i : Nat} (hi : i < 12) : gF (Hm mu l) (11 + 8 * i) 1 4 = some (.inl (mu (11 + 8 * i) 4)) := gF_of (by show (11 + 8 * i) < 134; omega) (Hm_co mu l hi) rfl
theorem fs_co_4 (mu : Nat → Nat → Int32) (l : Nat → Int64) {i : Nat} (hi : i < 12) (v : Int32) : fset (Hm mu l) (11 + 8 * i) 4 (.inl v) = Hm (up mu (11 + 8 * i) 4 v) l := by
  rw [fset_eq _ (Hm_co mu l hi), up, ← Hm_set, Hc_co _ _ hi]; simp [upd]
theorem gF_co_5 (mu : Nat → Nat → Int32) (l : Nat → Int64) {i : Nat} (hi : i < 12) : gF (Hm mu l) (11 + 8 * i) 1 5 = some (.inl (mu (11 + 8 * i) 5)) := gF_of (by show (11 + 8 * i) < 134; omega) (Hm_co mu l hi) rfl
theorem fs_co_5 (mu : Nat → Nat → Int32) (l : Nat → Int64) {i : Nat} (hi : i < 12) (v : Int32) : fset (Hm mu l) (11 + 8 * i) 5 (.inl v) = Hm (up mu (11 + 8 * i) 5 v) l := by
  rw [fset_eq _ (Hm_co mu l hi), up, ← Hm_set, Hc_co _ _ hi]; simp [upd]
theorem kd_vo {i : Nat} (hi : i < 12) : kd (12 + 8 * i) = 12 := by unfold kd; rw [if_neg (by omega), if_pos (by omega)]; omega
theorem Hc_vo (m : Nat → Int32) (l : Nat → Int64) {i : Nat} (hi : i < 12) : Hc (12 + 8 * i) m l = .inr (0, 112, .inl m) := by unfold Hc; rw [kd_vo hi]; rfl
theorem Hm_vo (mu : Nat → Nat → Int32) (l : Nat → Int64) {i : Nat} (hi : i < 12) : (Hm mu l).2 (12 + 8 * i) = .inr (0, 112, .inl (mu (12 + 8 * i))) := Hc_vo (mu (12 + 8 * i)) l hi
theorem gA_vo (mu : Nat → Nat → Int32) (l : Nat → Int64) {i : Nat} (hi : i < 12) : gA (Hm mu l) (12 + 8 * i) 0 = some (112, mu (12 + 8 * i)) := gA_of (by show (12 + 8 * i) < 134; omega) (Hm_vo mu l hi)
theorem ms_vo (mu : Nat → Nat → Int32) (l : Nat → Int64) {i : Nat} (hi : i < 12) (j : Nat) (v : Int32) : mset (Hm mu l) (12 + 8 * i) (.inr (0, 112, .inl (upd (mu (12 + 8 * i)) j v))) = Hm (up mu (12 + 8 * i) j v) l := by
  rw [up, ← Hm_set, Hc_vo _ _ hi]
theorem kd_re {i : Nat} (hi : i < 12) : kd (13 + 8 * i) = 13 := by unfold kd; rw [if_neg (by omega), if_pos (by omega)]; omega
theorem Hc_re (m : Nat → Int32) (l : Nat → Int64) {i : Nat} (hi : i < 12) : Hc (13 + 8 * i) m l = .inr (1, 112, .inl m) := by unfold Hc; rw [kd_re hi]; rfl
theorem Hm_re (mu : Nat → Nat → Int32) (l : Nat → Int64) {i : Nat} (hi : i < 12) : (Hm mu l).2 (13 + 8 * i) = .inr (1, 112, .inl (mu (13 + 8 * i))) := Hc_re (mu (13 + 8 * i)) l hi
theorem gA_re (mu : Nat → Nat → Int32) (l : Nat → Int64) {i : Nat} (hi : i < 12) : gA (Hm mu l) (13 + 8 * i) 1 = some (112, mu (13 + 8 * i)) := gA_of (by show (13 + 8 * i) < 134; omega) (Hm_re mu l hi)
theorem ms_re (mu : Nat → Nat → Int32) (l : Nat → Int64) {i : Nat} (hi : i < 12) (j : Nat) (v : Int32) : mset (Hm mu l) (13 + 8 * i) (.inr (1, 112, .inl (upd (mu (13 + 8 * i)) j v))) = Hm (up mu (13 + 8 * i) j v) l := by
  rw [up, ← Hm_set, Hc_re _ _ hi]
theorem kd_wa {i : Nat} (hi : i < 12) : kd (14 + 8 * i) = 14 := by unfold kd; rw [if_neg (by omega), if_pos (by omega)]; omega
theorem Hc_wa (m : Nat → Int32) (l : Nat → Int64) {i : Nat} (hi : i < 12) : Hc (14 + 8 * i) m l = .inr (0, 112, .inl m) := by unfold Hc; rw [kd_wa hi]; rfl
theorem Hm_wa (mu : Nat → Nat → Int32) (l : Nat → Int64) {i : Nat} (hi : i < 12) : (Hm mu l).2 (14 + 8 * i) = .inr (0, 112, .inl (mu (14 + 8 * i))) := Hc_wa (mu (14 + 8 * i)) l hi
theorem gA_wa (mu : Nat → Nat → Int32) (l : Nat → Int64) {i : Nat} (hi : i < 12) : gA (Hm mu l) (14 + 8 * i) 0 = some (112, mu (14 + 8 * i)) := gA_of (by show (14 + 8 * i) < 134; omega) (Hm_wa mu l hi)
theorem ms_wa (mu : Nat → Nat → Int32) (l : Nat → Int64) {i : Nat} (hi : i < 12) (j : Nat) (v : Int32) : mset (Hm mu l) (14 + 8 * i) (.inr (0, 112, .inl (upd (mu (14 + 8 * i)) j v))) = Hm (up mu (14 + 8 * i) j v) l := by
  rw [up, ← Hm_set, Hc_wa _ _ hi]
theorem kd_rs {i : Nat} (hi : i < 12) : kd (15 + 8 * i) = 15 := by unfold kd; rw [if_neg (by omega), if_pos (by omega)]; omega
theorem Hc_rs (m : Nat → Int32) (l : Nat → Int64) {i : Nat} (hi : i < 12) : Hc (15 + 8 * i) m l = .inr (0, 112, .inl m) := by unfold Hc; rw [kd_rs hi]; rfl
theorem Hm_rs (mu : Nat → Nat → Int32) (l : Nat → Int64) {i : Nat} (hi : i < 12) : (Hm mu l).2 (15 + 8 * i) = .inr (0, 112, .inl (mu (15 + 8 * i))) := Hc_rs (mu (15 + 8 * i)) l hi
theorem gA_rs (mu : Nat → Nat → Int32) (l : Nat → Int64) {i : Nat} (hi : i < 12) : gA (Hm mu l) (15 + 8 * i) 0 = some (112, mu (15 + 8 * i)) := gA_of (by show (15 + 8 * i) < 134; omega) (Hm_rs mu l hi)
theorem ms_rs (mu : Nat → Nat → Int32) (l : Nat → Int64) {i : Nat} (hi : i < 12) (j : Nat) (v : Int32) : mset (Hm mu l) (15 + 8 * i) (.inr (0, 112, .inl (upd (mu (15 + 8 * i)) j v))) = Hm (up mu (15 + 8 * i) j v) l := by
  rw [up, ← Hm_set, Hc_rs _ _ hi]
theorem kd_M1 : kd 104 = 16 := rfl
theorem Hc_M1 (m : Nat → Int32) (l : Nat → Int64) : Hc 104 m l = .inl (2, [.inr (some 105), .inr (some 106), .inr (some 107), .inl (m 3), .inl (m 4), .inl (m 5)]) := rfl
theorem Hm_M1 (mu : Nat → Nat → Int32) (l : Nat → Int64) : (Hm mu l).2 104 = .inl (2, [.inr (some 105), .inr (some 106), .inr (some 107), .inl (mu 104 3), .inl (mu 104 4), .inl (mu 104 5)]) := Hc_M1 (mu 104) l
theorem gC_M1 (mu : Nat → Nat → Int32) (l : Nat → Int64) : gC (Hm mu l) 104 = some 2 := gC_of (by show 104 < 134; decide) (Hm_M1 mu l)
theorem gF_M1_0 (mu : Nat → Nat → Int32) (l : Nat → Int64) : gF (Hm mu l) 104 2 0 = some (.inr (some 105)) := gF_of (by show 104 < 134; decide) (Hm_M1 mu l) rfl
theorem gF_M1_1 (mu : Nat → Nat → Int32) (l : Nat → Int64) : gF (Hm mu l) 104 2 1 = some (.inr (some 106)) := gF_of (by show 104 < 134; decide) (Hm_M1 mu l) rfl
theorem gF_M1_2 (mu : Nat → Nat → Int32) (l : Nat → Int64) : gF (Hm mu l) 104 2 2 = some (.inr (some 107)) := gF_of (by show 104 < 134; decide) (Hm_M1 mu l) rfl
theorem gF_M1_3 (mu : Nat → Nat → Int32) (l : Nat → Int64) : gF (Hm mu l) 104 2 3 = some (.inl (mu 104 3)) := gF_of (by show 104 < 134; decide) (Hm_M1 mu l) rfl
theorem fs_M1_3 (mu : Nat → Nat → Int32) (l : Nat → Int64) (v : Int32) : fset (Hm mu l) 104 3 (.inl v) = Hm (up mu 104 3 v) l := by
  rw [fset_eq _ (Hm_M1 mu l), up, ← Hm_set, Hc_M1]; simp [upd]
theorem gF_M1_4 (mu : Nat → Nat → Int32) (l : Nat → Int64) : gF (Hm mu l) 104 2 4 = some (.inl (mu 104 4)) := gF_of (by show 104 < 134; decide) (Hm_M1 mu l) rfl
theorem fs_M1_4 (mu : Nat → Nat → Int32) (l : Nat → Int64) (v : Int32) : fset (Hm mu l) 104 4 (.inl v) = Hm (up mu 104 4 v) l := by
  rw [fset_eq _ (Hm_M1 mu l), up, ← Hm_set, Hc_M1]; simp [upd]
theorem gF_M1_5 (mu : Nat → Nat → Int32) (l : Nat → Int64) : gF (Hm mu l) 104 2 5 = some (.inl (mu 104 5)) := gF_of (by show 104 < 134; decide) (Hm_M1 mu l) rfl
theorem fs_M1_5 (mu : Nat → Nat → Int32) (l : Nat → Int64) (v : Int32) : fset (Hm mu l) 104 5 (.inl v) = Hm (up mu 104 5 v) l := by
  rw [fset_eq _ (Hm_M1 mu l), up, ← Hm_set, Hc_M1]; simp [upd]
theorem kd_M10 : kd 105 = 17 := rfl
theorem Hc_M10 (m : Nat → Int32) (l : Nat → Int64) : Hc 105 m l = .inr (0, 4, .inl m) := rfl
theorem Hm_M10 (mu : Nat → Nat → Int32) (l : Nat → Int64) : (Hm mu l).2 105 = .inr (0, 4, .inl (mu 105)) := Hc_M10 (mu 105) l
theorem gA_M10 (mu : Nat → Nat → Int32) (l : Nat → Int64) : gA (Hm mu l) 105 0 = some (4, mu 105) := gA_of (by show 105 < 134; decide) (Hm_M10 mu l)
theorem ms_M10 (mu : Nat → Nat → Int32) (l : Nat → Int64) (j : Nat) (v : Int32) : mset (Hm mu l) 105 (.inr (0, 4, .inl (upd (mu 105) j v))) = Hm (up mu 105 j v) l := by
  rw [up, ← Hm_set, Hc_M10]
theorem kd_M11 : kd 106 = 18 := rfl
theorem Hc_M11 (m : Nat → Int32) (l : Nat → Int64) : Hc 106 m l = .inr (0, 4, .inl m) := rfl
theorem Hm_M11 (mu : Nat → Nat → Int32) (l : Nat → Int64) : (Hm mu l).2 106 = .inr (0, 4, .inl (mu 106)) := Hc_M11 (mu 106) l
theorem gA_M11 (mu : Nat → Nat → Int32) (l : Nat → Int64) : gA (Hm mu l) 106 0 = some (4, mu 106) := gA_of (by show 106 < 134; decide) (Hm_M11 mu l)
theorem ms_M11 (mu : Nat → Nat → Int32) (l : Nat → Int64) (j : Nat) (v : Int32) : mset (Hm mu l) 106 (.inr (0, 4, .inl (upd (mu 106) j v))) = Hm (up mu 106 j v) l := by
  rw [up, ← Hm_set, Hc_M11]
theorem kd_M12 : kd 107 = 19 := rfl
theorem Hc_M12 (m : Nat → Int32) (l : Nat → Int64) : Hc 107 m l = .inr (0, 4, .inl m) := rfl
theorem Hm_M12 (mu : Nat → Nat → Int32) (l : Nat → Int64) : (Hm mu l).2 107 = .inr (0, 4, .inl (mu 107)) := Hc_M12 (mu 107) l
theorem gA_M12 (mu : Nat → Nat → Int32) (l : Nat → Int64) : gA (Hm mu l) 107 0 = some (4, mu 107) := gA_of (by show 107 < 134; decide) (Hm_M12 mu l)
theorem ms_M12 (mu : Nat → Nat → Int32) (l : Nat → Int64) (j : Nat) (v : Int32) : mset (Hm mu l) 107 (.inr (0, 4, .inl (upd (mu 107) j v))) = Hm (up mu 107 j v) l := by
  rw [up, ← Hm_set, Hc_M12]
theorem kd_be : kd 108 = 20 := rfl
theorem Hc_be (m : Nat → Int32) (l : Nat → Int64) : Hc 108 m l = .inr (0, 12, .inl m) := rfl
theorem Hm_be (mu : Nat → Nat → Int32) (l : Nat → Int64) : (Hm mu l).2 108 = .inr (0, 12, .inl (mu 108)) := Hc_be (mu 108) l
theorem gA_be (mu : Nat → Nat → Int32) (l : Nat → Int64) : gA (Hm mu l) 108 0 = some (12, mu 108) := gA_of (by show 108 < 134; decide) (Hm_be mu l)
theorem ms_be (mu : Nat → Nat → Int32) (l : Nat → Int64) (j : Nat) (v : Int32) : mset (Hm mu l) 108 (.inr (0, 12, .inl (upd (mu 108) j v))) = Hm (up mu 108 j v) l := by
  rw [up, ← Hm_set, Hc_be]
theorem kd_M2 : kd 109 = 21 := rfl
theorem Hc_M2 (m : Nat → Int32) (l : Nat → Int64) : Hc 109 m l = .inl (2, [.inr (some 110), .inr (some 111), .inr (some 112), .inl (m 3), .inl (m 4), .inl (m 5)]) := rfl
theorem Hm_M2 (mu : Nat → Nat → Int32) (l : Nat → Int64) : (Hm mu l).2 109 = .inl (2, [.inr (some 110), .inr (some 111), .inr (some 112), .inl (mu 109 3), .inl (mu 109 4), .inl (mu 109 5)]) := Hc_M2 (mu 109) l
theorem gC_M2 (mu : Nat → Nat → Int32) (l : Nat → Int64) : gC (Hm mu l) 109 = some 2 := gC_of (by show 109 < 134; decide) (Hm_M2 mu l)
theorem gF_M2_0 (mu : Nat → Nat → Int32) (l : Nat → Int64) : gF (Hm mu l) 109 2 0 = some (.inr (some 110)) := gF_of (by show 109 < 134; decide) (Hm_M2 mu l) rfl
theorem gF_M2_1 (mu : Nat → Nat → Int32) (l : Nat → Int64) : gF (Hm mu l) 109 2 1 = some (.inr (some 111)) := gF_of (by show 109 < 134; decide) (Hm_M2 mu l) rfl
theorem gF_M2_2 (mu : Nat → Nat → Int32) (l : Nat → Int64) : gF (Hm mu l) 109 2 2 = some (.inr (some 112)) := gF_of (by show 109 < 134; decide) (Hm_M2 mu l) rfl
theorem gF_M2_3 (mu : Nat → Nat → Int32) (l : Nat → Int64) : gF (Hm mu l) 109 2 3 = some (.inl (mu 109 3)) := gF_of (by show 109 < 134; decide) (Hm_M2 mu l) rfl
theorem fs_M2_3 (mu : Nat → Nat → Int32) (l : Nat → Int64) (v : Int32) : fset (Hm mu l) 109 3 (.inl v) = Hm (up mu 109 3 v) l := by
  rw [fset_eq _ (Hm_M2 mu l), up, ← Hm_set, Hc_M2]; simp [upd]
theorem gF_M2_4 (mu : Nat → Nat → Int32) (l : Nat → Int64) : gF (Hm mu l) 109 2 4 = some (.inl (mu 109 4)) := gF_of (by show 109 < 134; decide) (Hm_M2 mu l) rfl
theorem fs_M2_4 (mu : Nat → Nat → Int32) (l : Nat → Int64) (v : Int32) : fset (Hm mu l) 109 4 (.inl v) = Hm (up mu 109 4 v) l := by
  rw [fset_eq _ (Hm_M2 mu l), up, ← Hm_set, Hc_M2]; simp [upd]
theorem gF_M2_5 (mu : Nat → Nat → Int32) (l : Nat → Int64) : gF (Hm mu l) 109 2 5 = some (.inl (mu 109 5)) := gF_of (by show 109 < 134; decide) (Hm_M2 mu l) rfl
theorem fs_M2_5 (mu : Nat → Nat → Int32) (l : Nat → Int64) (v : Int32) : fset (Hm mu l) 109 5 (.inl v) = Hm (up mu 109 5 v) l := by
  rw [fset_eq _ (Hm_M2 mu l), up, ← Hm_set, Hc_M2]; simp [upd]
theorem kd_M20 : kd 110 = 22 := rfl
theorem Hc_M20 (m : Nat → Int32) (l : Nat → Int64) : Hc 110 m l = .inr (0, 4, .inl m) := rfl
theorem Hm_M20 (mu : Nat → Nat → Int32) (l : Nat → Int64) : (Hm mu l).2 110 = .inr (0, 4, .inl (mu 110)) := Hc_M20 (mu 110) l
theorem gA_M20 (mu : Nat → Nat → Int32) (l : Nat → Int64) : gA (Hm mu l) 110 0 = some (4, mu 110) := gA_of (by show 110 < 134; decide) (Hm_M20 mu l)
theorem ms_M20 (mu : Nat → Nat → Int32) (l : Nat → Int64) (j : Nat) (v : Int32) : mset (Hm mu l) 110 (.inr (0, 4, .inl (upd (mu 110) j v))) = Hm (up mu 110 j v) l := by
  rw [up, ← Hm_set, Hc_M20]
theorem kd_M21 : kd 111 = 23 := rfl
theorem Hc_M21 (m : Nat → Int32) (l : Nat → Int64) : Hc 111 m l = .inr (0, 4, .inl m) := rfl
theorem Hm_M21 (mu : Nat → Nat → Int32) (l : Nat → Int64) : (Hm mu l).2 111 = .inr (0, 4, .inl (mu 111)) := Hc_M21 (mu 111) l
theorem gA_M21 (mu : Nat → Nat → Int32) (l : Nat → Int64) : gA (Hm mu l) 111 0 = some (4, mu 111) := gA_of (by show 111 < 134; decide) (Hm_M21 mu l)
theorem ms_M21 (mu : Nat → Nat → Int32) (l : Nat → Int64) (j : Nat) (v : Int32) : mset (Hm mu l) 111 (.inr (0, 4, .inl (upd (mu 111) j v))) = Hm (up mu 111 j v) l := by
  rw [up, ← Hm_set, Hc_M21]
theorem kd_M22 : kd 112 = 24 := rfl
theorem Hc_M22 (m : Nat → Int32) (l : Nat → Int64) : Hc 112 m l = .inr (0, 4, .inl m) := rfl
theorem Hm_M22 (mu : Nat → Nat → Int32) (l : Nat → Int64) : (Hm mu l).2 112 = .inr (0, 4, .inl (mu 112)) := Hc_M22 (mu 112) l
theorem gA_M22 (mu : Nat → Nat → Int32) (l : Nat → Int64) : gA (Hm mu l) 112 0 = some (4, mu 112) := gA_of (by show 112 < 134; decide) (Hm_M22 mu l)
theorem ms_M22 (mu : Nat → Nat → Int32) (l : Nat → Int64) (j : Nat) (v : Int32) : mset (Hm mu l) 112 (.inr (0, 4, .inl (upd (mu 112) j v))) = Hm (up mu 112 j v) l := by
  rw [up, ← Hm_set, Hc_M22]
theorem kd_Rm : kd 113 = 25 := rfl
theorem Hc_Rm (m : Nat → Int32) (l : Nat → Int64) : Hc 113 m l = .inl (6, [.inl (m 0), .inl (m 1), .inl (m 2), .inr (some 114), .inr (some 115), .inr (some 116), .inr (some 117), .inr (some 118), .inr (some 119), .inr (some 120), .inl (m 10), .inr (some 121), .inr (some 122), .inr (some 123), .inr (some 124), .inr (some 125), .inr (some 126), .inr (some 127), .inr (some 128), .inl (m 19), .inr (some 129), .inr (some 130), .inr (some 131), .inr (some 132), .inl (m 24), .inr (some 133)]) := rfl
theorem Hm_Rm (mu : Nat → Nat → Int32) (l : Nat → Int64) : (Hm mu l).2 113 = .inl (6, [.inl (mu 113 0), .inl (mu 113 1), .inl (mu 113 2), .inr (some 114), .inr (some 115), .inr (some 116), .inr (some 117), .inr (some 118), .inr (some 119), .inr (some 120), .inl (mu 113 10), .inr (some 121), .inr (some 122), .inr (some 123), .inr (some 124), .inr (some 125), .inr (some 126), .inr (some 127), .inr (some 128), .inl (mu 113 19), .inr (some 129), .inr (some 130), .inr (some 131), .inr (some 132), .inl (mu 113 24), .inr (some 133)]) := Hc_Rm (mu 113) l
theorem gC_Rm (mu : Nat → Nat → Int32) (l : Nat → Int64) : gC (Hm mu l) 113 = some 6 := gC_of (by show 113 < 134; decide) (Hm_Rm mu l)
theorem gF_Rm_0 (mu : Nat → Nat → Int32) (l : Nat → Int64) : gF (Hm mu l) 113 6 0 = some (.inl (mu 113 0)) := gF_of (by show 113 < 134; decide) (Hm_Rm mu l) rfl
theorem fs_Rm_0 (mu : Nat → Nat → Int32) (l : Nat → Int64) (v : Int32) : fset (Hm mu l) 113 0 (.inl v) = Hm (up mu 113 0 v) l := by
  rw [fset_eq _ (Hm_Rm mu l), up, ← Hm_set, Hc_Rm]; simp [upd]
theorem gF_Rm_1 (mu : Nat → Nat → Int32) (l : Nat → Int64) : gF (Hm mu l) 113 6 1 = some (.inl (mu 113 1)) := gF_of (by show 113 < 134; decide) (Hm_Rm mu l) rfl
theorem fs_Rm_1 (mu : Nat → Nat → Int32) (l : Nat → Int64) (v : Int32) : fset (Hm mu l) 113 1 (.inl v) = Hm (up mu 113 1 v) l := by
  rw [fset_eq _ (Hm_Rm mu l), up, ← Hm_set, Hc_Rm]; simp [upd]
theorem gF_Rm_2 (mu : Nat → Nat → Int32) (l : Nat → Int64) : gF (Hm mu l) 113 6 2 = some (.inl (mu 113 2)) := gF_of (by show 113 < 134; decide) (Hm_Rm mu l) rfl
theorem fs_Rm_2 (mu : Nat → Nat → Int32) (l : Nat → Int64) (v : Int32) : fset (Hm mu l) 113 2 (.inl v) = Hm (up mu 113 2 v) l := by
  rw [fset_eq _ (Hm_Rm mu l), up, ← Hm_set, Hc_Rm]; simp [upd]
theorem gF_Rm_3 (mu : Nat → Nat → Int32) (l : Nat → Int64) : gF (Hm mu l) 113 6 3 = some (.inr (some 114)) := gF_of (by show 113 < 134; decide) (Hm_Rm mu l) rfl
theorem gF_Rm_4 (mu : Nat → Nat → Int32) (l : Nat → Int64) : gF (Hm mu l) 113 6 4 = some (.inr (some 115)) := gF_of (by show 113 < 134; decide) (Hm_Rm mu l) rfl
theorem gF_Rm_5 (mu : Nat → Nat → Int32) (l : Nat → Int64) : gF (Hm mu l) 113 6 5 = some (.inr (some 116)) := gF_of (by show 113 < 134; decide) (Hm_Rm mu l) rfl
theorem gF_Rm_6 (mu : Nat → Nat → Int32) (l : Nat → Int64) : gF (Hm mu l) 113 6 6 = some (.inr (some 117)) := gF_of (by show 113 < 134; decide) (Hm_Rm mu l) rfl
theorem gF_Rm_7 (mu : Nat → Nat → Int32) (l : Nat → Int64) : gF (Hm mu l) 113 6 7 = some (.inr (some 118)) := gF_of (by show 113 < 134; decide) (Hm_Rm mu l) rfl
theorem gF_Rm_8 (mu : Nat → Nat → Int32) (l : Nat → Int64) : gF (Hm mu l) 113 6 8 = some (.inr (some 119)) := gF_of (by show 113 < 134; decide) (Hm_Rm mu l) rfl
theorem gF_Rm_9 (mu : Nat → Nat → Int32) (l : Nat → Int64) : gF (Hm mu l) 113 6 9 = some (.inr (some 120)) := gF_of (by show 113 < 134; decide) (Hm_Rm mu l) rfl
theorem gF_Rm_10 (mu : Nat → Nat → Int32) (l : Nat → Int64) : gF (Hm mu l) 113 6 10 = some (.inl (mu 113 10)) := gF_of (by show 113 < 134; decide) (Hm_Rm mu l) rfl
theorem fs_Rm_10 (mu : Nat → Nat → Int32) (l : Nat → Int64) (v : Int32) : fset (Hm mu l) 113 10 (.inl v) = Hm (up mu 113 10 v) l := by
  rw [fset_eq _ (Hm_Rm mu l), up, ← Hm_set, Hc_Rm]; simp [upd]
theorem gF_Rm_11 (mu : Nat → Nat → Int32) (l : Nat → Int64) : gF (Hm mu l) 113 6 11 = some (.inr (some 121)) := gF_of (by show 113 < 134; decide) (Hm_Rm mu l) rfl
theorem gF_Rm_12 (mu : Nat → Nat → Int32) (l : Nat → Int64) : gF (Hm mu l) 113 6 12 = some (.inr (some 122)) := gF_of (by show 113 < 134; decide) (Hm_Rm mu l) rfl
theorem gF_Rm_13 (mu : Nat → Nat → Int32) (l : Nat → Int64) : gF (Hm mu l) 113 6 13 = some (.inr (some 123)) := gF_of (by show 113 < 134; decide) (Hm_Rm mu l) rfl
theorem gF_Rm_14 (mu : Nat → Nat → Int32) (l : Nat → Int64) : gF (Hm mu l) 113 6 14 = some (.inr (some 124)) := gF_of (by show 113 < 134; decide) (Hm_Rm mu l) rfl
theorem gF_Rm_15 (mu : Nat → Nat → Int32) (l : Nat → Int64) : gF (Hm mu l) 113 6 15 = some (.inr (some 125)) := gF_of (by show 113 < 134; decide) (Hm_Rm mu l) rfl
theorem gF_Rm_16 (mu : Nat → Nat → Int32) (l : Nat → Int64) : gF (Hm mu l) 113 6 16 = some (.inr (some 126)) := gF_of (by show 113 < 134; decide) (Hm_Rm mu l) rfl
theorem gF_Rm_17 (mu : Nat → Nat → Int32) (l : Nat → Int64) : gF (Hm mu l) 113 6 17 = some (.inr (some 127)) := gF_of (by show 113 < 134; decide) (Hm_Rm mu l) rfl
theorem gF_Rm_18 (mu : Nat → Nat → Int32) (l : Nat → Int64) : gF (Hm mu l) 113 6 18 = some (.inr (some 128)) := gF_of (by show 113 < 134; decide) (Hm_Rm mu l) rfl
theorem gF_Rm_19 (mu : Nat → Nat → Int32) (l : Nat → Int64) : gF (Hm mu l) 113 6 19 = some (.inl (mu 113 19)) := gF_of (by show 113 < 134; decide) (Hm_Rm mu l) rfl
theorem fs_Rm_19 (mu : Nat → Nat → Int32) (l : Nat → Int64) (v : Int32) : fset (Hm mu l) 113 19 (.inl v) = Hm (up mu 113 19 v) l := by
  rw [fset_eq _ (Hm_Rm mu l), up, ← Hm_set, Hc_Rm]; simp [upd]
theorem gF_Rm_20 (mu : Nat → Nat → Int32) (l : Nat → Int64) : gF (Hm mu l) 113 6 20 = some (.inr (some 129)) := gF_of (by show 113 < 134; decide) (Hm_Rm mu l) rfl
theorem gF_Rm_21 (mu : Nat → Nat → Int32) (l : Nat → Int64) : gF (Hm mu l) 113 6 21 = some (.inr (some 130)) := gF_of (by show 113 < 134; decide) (Hm_Rm mu l) rfl
theorem gF_Rm_22 (mu : Nat → Nat → Int32) (l : Nat → Int64) : gF (Hm mu l) 113 6 22 = some (.inr (some 131)) := gF_of (by show 113 < 134; decide) (Hm_Rm mu l) rfl
theorem gF_Rm_23 (mu : Nat → Nat → Int32) (l : Nat → Int64) : gF (Hm mu l) 113 6 23 = some (.inr (some 132)) := gF_of (by show 113 < 134; decide) (Hm_Rm mu l) rfl
theorem gF_Rm_24 (mu : Nat → Nat → Int32) (l : Nat → Int64) : gF (Hm mu l) 113 6 24 = some (.inl (mu 113 24)) := gF_of (by show 113 < 134; decide) (Hm_Rm mu l) rfl
theorem fs_Rm_24 (mu : Nat → Nat → Int32) (l : Nat → Int64) (v : Int32) : fset (Hm mu l) 113 24 (.inl v) = Hm (up mu 113 24 v) l := by
  rw [fset_eq _ (Hm_Rm mu l), up, ← Hm_set, Hc_Rm]; simp [upd]
theorem gF_Rm_25 (mu : Nat → Nat → Int32) (l : Nat → Int64) : gF (Hm mu l) 113 6 25 = some (.inr (some 133)) := gF_of (by show 113 < 134; decide) (Hm_Rm mu l) rfl
theorem kd_Rle : kd 114 = 26 := rfl
theorem Hc_Rle (m : Nat → Int32) (l : Nat → Int64) : Hc 114 m l = .inr (0, 12, .inl m) := rfl
theorem Hm_Rle (mu : Nat → Nat → Int32) (l : Nat → Int64) : (Hm mu l).2 114 = .inr (0, 12, .inl (mu 114)) := Hc_Rle (mu 114) l
theorem gA_Rle (mu : Nat → Nat → Int32) (l : Nat → Int64) : gA (Hm mu l) 114 0 = some (12, mu 114) := gA_of (by show 114 < 134; decide) (Hm_Rle mu l)
theorem ms_Rle (mu : Nat → Nat → Int32) (l : Nat → Int64) (j : Nat) (v : Int32) : mset (Hm mu l) 114 (.inr (0, 12, .inl (upd (mu 114) j v))) = Hm (up mu 114 j v) l := by
  rw [up, ← Hm_set, Hc_Rle]
theorem kd_Roc : kd 115 = 27 := rfl
theorem Hc_Roc (m : Nat → Int32) (l : Nat → Int64) : Hc 115 m l = .inr (0, 12, .inl m) := rfl
theorem Hm_Roc (mu : Nat → Nat → Int32) (l : Nat → Int64) : (Hm mu l).2 115 = .inr (0, 12, .inl (mu 115)) := Hc_Roc (mu 115) l
theorem gA_Roc (mu : Nat → Nat → Int32) (l : Nat → Int64) : gA (Hm mu l) 115 0 = some (12, mu 115) := gA_of (by show 115 < 134; decide) (Hm_Roc mu l)
theorem ms_Roc (mu : Nat → Nat → Int32) (l : Nat → Int64) (j : Nat) (v : Int32) : mset (Hm mu l) 115 (.inr (0, 12, .inl (upd (mu 115) j v))) = Hm (up mu 115 j v) l := by
  rw [up, ← Hm_set, Hc_Roc]
theorem kd_Ral : kd 116 = 28 := rfl
theorem Hc_Ral (m : Nat → Int32) (l : Nat → Int64) : Hc 116 m l = .inr (0, 12, .inl m) := rfl
theorem Hm_Ral (mu : Nat → Nat → Int32) (l : Nat → Int64) : (Hm mu l).2 116 = .inr (0, 12, .inl (mu 116)) := Hc_Ral (mu 116) l
theorem gA_Ral (mu : Nat → Nat → Int32) (l : Nat → Int64) : gA (Hm mu l) 116 0 = some (12, mu 116) := gA_of (by show 116 < 134; decide) (Hm_Ral mu l)
theorem ms_Ral (mu : Nat → Nat → Int32) (l : Nat → Int64) (j : Nat) (v : Int32) : mset (Hm mu l) 116 (.inr (0, 12, .inl (upd (mu 116) j v))) = Hm (up mu 116 j v) l := by
  rw [up, ← Hm_set, Hc_Ral]
theorem kd_Rto : kd 117 = 29 := rfl
theorem Hc_Rto (m : Nat → Int32) (l : Nat → Int64) : Hc 117 m l = .inr (0, 120, .inl m) := rfl
theorem Hm_Rto (mu : Nat → Nat → Int32) (l : Nat → Int64) : (Hm mu l).2 117 = .inr (0, 120, .inl (mu 117)) := Hc_Rto (mu 117) l
theorem gA_Rto (mu : Nat → Nat → Int32) (l : Nat → Int64) : gA (Hm mu l) 117 0 = some (120, mu 117) := gA_of (by show 117 < 134; decide) (Hm_Rto mu l)
theorem ms_Rto (mu : Nat → Nat → Int32) (l : Nat → Int64) (j : Nat) (v : Int32) : mset (Hm mu l) 117 (.inr (0, 120, .inl (upd (mu 117) j v))) = Hm (up mu 117 j v) l := by
  rw [up, ← Hm_set, Hc_Rto]
theorem kd_Rlo : kd 118 = 30 := rfl
theorem Hc_Rlo (m : Nat → Int32) (l : Nat → Int64) : Hc 118 m l = .inr (0, 3, .inl m) := rfl
theorem Hm_Rlo (mu : Nat → Nat → Int32) (l : Nat → Int64) : (Hm mu l).2 118 = .inr (0, 3, .inl (mu 118)) := Hc_Rlo (mu 118) l
theorem gA_Rlo (mu : Nat → Nat → Int32) (l : Nat → Int64) : gA (Hm mu l) 118 0 = some (3, mu 118) := gA_of (by show 118 < 134; decide) (Hm_Rlo mu l)
theorem ms_Rlo (mu : Nat → Nat → Int32) (l : Nat → Int64) (j : Nat) (v : Int32) : mset (Hm mu l) 118 (.inr (0, 3, .inl (upd (mu 118) j v))) = Hm (up mu 118 j v) l := by
  rw [up, ← Hm_set, Hc_Rlo]
theorem kd_Rhi : kd 119 = 31 := rfl
theorem Hc_Rhi (m : Nat → Int32) (l : Nat → Int64) : Hc 119 m l = .inr (0, 3, .inl m) := rfl
theorem Hm_Rhi (mu : Nat → Nat → Int32) (l : Nat → Int64) : (Hm mu l).2 119 = .inr (0, 3, .inl (mu 119)) := Hc_Rhi (mu 119) l
theorem gA_Rhi (mu : Nat → Nat → Int32) (l : Nat → Int64) : gA (Hm mu l) 119 0 = some (3, mu 119) := gA_of (by show 119 < 134; decide) (Hm_Rhi mu l)
theorem ms_Rhi (mu : Nat → Nat → Int32) (l : Nat → Int64) (j : Nat) (v : Int32) : mset (Hm mu l) 119 (.inr (0, 3, .inl (upd (mu 119) j v))) = Hm (up mu 119 j v) l := by
  rw [up, ← Hm_set, Hc_Rhi]
theorem kd_Rho : kd 120 = 32 := rfl
theorem Hc_Rho (m : Nat → Int32) (l : Nat → Int64) : Hc 120 m l = .inr (0, 3, .inl m) := rfl
theorem Hm_Rho (mu : Nat → Nat → Int32) (l : Nat → Int64) : (Hm mu l).2 120 = .inr (0, 3, .inl (mu 120)) := Hc_Rho (mu 120) l
theorem gA_Rho (mu : Nat → Nat → Int32) (l : Nat → Int64) : gA (Hm mu l) 120 0 = some (3, mu 120) := gA_of (by show 120 < 134; decide) (Hm_Rho mu l)
theorem ms_Rho (mu : Nat → Nat → Int32) (l : Nat → Int64) (j : Nat) (v : Int32) : mset (Hm mu l) 120 (.inr (0, 3, .inl (upd (mu 120) j v))) = Hm (up mu 120 j v) l := by
  rw [up, ← Hm_set, Hc_Rho]
theorem kd_Rgi : kd 121 = 33 := rfl
theorem Hc_Rgi (m : Nat → Int32) (l : Nat → Int64) : Hc 121 m l = .inr (0, 36, .inl m) := rfl
theorem Hm_Rgi (mu : Nat → Nat → Int32) (l : Nat → Int64) : (Hm mu l).2 121 = .inr (0, 36, .inl (mu 121)) := Hc_Rgi (mu 121) l
theorem gA_Rgi (mu : Nat → Nat → Int32) (l : Nat → Int64) : gA (Hm mu l) 121 0 = some (36, mu 121) := gA_of (by show 121 < 134; decide) (Hm_Rgi mu l)
theorem ms_Rgi (mu : Nat → Nat → Int32) (l : Nat → Int64) (j : Nat) (v : Int32) : mset (Hm mu l) 121 (.inr (0, 36, .inl (upd (mu 121) j v))) = Hm (up mu 121 j v) l := by
  rw [up, ← Hm_set, Hc_Rgi]
theorem kd_Rha : kd 122 = 34 := rfl
theorem Hc_Rha (m : Nat → Int32) (l : Nat → Int64) : Hc 122 m l = .inr (0, 36, .inl m) := rfl
theorem Hm_Rha (mu : Nat → Nat → Int32) (l : Nat → Int64) : (Hm mu l).2 122 = .inr (0, 36, .inl (mu 122)) := Hc_Rha (mu 122) l
theorem gA_Rha (mu : Nat → Nat → Int32) (l : Nat → Int64) : gA (Hm mu l) 122 0 = some (36, mu 122) := gA_of (by show 122 < 134; decide) (Hm_Rha mu l)
theorem ms_Rha (mu : Nat → Nat → Int32) (l : Nat → Int64) (j : Nat) (v : Int32) : mset (Hm mu l) 122 (.inr (0, 36, .inl (upd (mu 122) j v))) = Hm (up mu 122 j v) l := by
  rw [up, ← Hm_set, Hc_Rha]
theorem kd_Ris : kd 123 = 35 := rfl
theorem Hc_Ris (m : Nat → Int32) (l : Nat → Int64) : Hc 123 m l = .inr (1, 12, .inl m) := rfl
theorem Hm_Ris (mu : Nat → Nat → Int32) (l : Nat → Int64) : (Hm mu l).2 123 = .inr (1, 12, .inl (mu 123)) := Hc_Ris (mu 123) l
theorem gA_Ris (mu : Nat → Nat → Int32) (l : Nat → Int64) : gA (Hm mu l) 123 1 = some (12, mu 123) := gA_of (by show 123 < 134; decide) (Hm_Ris mu l)
theorem ms_Ris (mu : Nat → Nat → Int32) (l : Nat → Int64) (j : Nat) (v : Int32) : mset (Hm mu l) 123 (.inr (1, 12, .inl (upd (mu 123) j v))) = Hm (up mu 123 j v) l := by
  rw [up, ← Hm_set, Hc_Ris]
theorem kd_Rno : kd 124 = 36 := rfl
theorem Hc_Rno (m : Nat → Int32) (l : Nat → Int64) : Hc 124 m l = .inr (0, 4, .inl m) := rfl
theorem Hm_Rno (mu : Nat → Nat → Int32) (l : Nat → Int64) : (Hm mu l).2 124 = .inr (0, 4, .inl (mu 124)) := Hc_Rno (mu 124) l
theorem gA_Rno (mu : Nat → Nat → Int32) (l : Nat → Int64) : gA (Hm mu l) 124 0 = some (4, mu 124) := gA_of (by show 124 < 134; decide) (Hm_Rno mu l)
theorem ms_Rno (mu : Nat → Nat → Int32) (l : Nat → Int64) (j : Nat) (v : Int32) : mset (Hm mu l) 124 (.inr (0, 4, .inl (upd (mu 124) j v))) = Hm (up mu 124 j v) l := by
  rw [up, ← Hm_set, Hc_Rno]
theorem kd_Rbe : kd 125 = 37 := rfl
theorem Hc_Rbe (m : Nat → Int32) (l : Nat → Int64) : Hc 125 m l = .inr (0, 4, .inl m) := rfl
theorem Hm_Rbe (mu : Nat → Nat → Int32) (l : Nat → Int64) : (Hm mu l).2 125 = .inr (0, 4, .inl (mu 125)) := Hc_Rbe (mu 125) l
theorem gA_Rbe (mu : Nat → Nat → Int32) (l : Nat → Int64) : gA (Hm mu l) 125 0 = some (4, mu 125) := gA_of (by show 125 < 134; decide) (Hm_Rbe mu l)
theorem ms_Rbe (mu : Nat → Nat → Int32) (l : Nat → Int64) (j : Nat) (v : Int32) : mset (Hm mu l) 125 (.inr (0, 4, .inl (upd (mu 125) j v))) = Hm (up mu 125 j v) l := by
  rw [up, ← Hm_set, Hc_Rbe]
theorem kd_Rtn : kd 126 = 38 := rfl
theorem Hc_Rtn (m : Nat → Int32) (l : Nat → Int64) : Hc 126 m l = .inr (0, 12, .inl m) := rfl
theorem Hm_Rtn (mu : Nat → Nat → Int32) (l : Nat → Int64) : (Hm mu l).2 126 = .inr (0, 12, .inl (mu 126)) := Hc_Rtn (mu 126) l
theorem gA_Rtn (mu : Nat → Nat → Int32) (l : Nat → Int64) : gA (Hm mu l) 126 0 = some (12, mu 126) := gA_of (by show 126 < 134; decide) (Hm_Rtn mu l)
theorem ms_Rtn (mu : Nat → Nat → Int32) (l : Nat → Int64) (j : Nat) (v : Int32) : mset (Hm mu l) 126 (.inr (0, 12, .inl (upd (mu 126) j v))) = Hm (up mu 126 j v) l := by
  rw [up, ← Hm_set, Hc_Rtn]
theorem kd_Rsu : kd 127 = 39 := rfl
theorem Hc_Rsu (m : Nat → Int32) (l : Nat → Int64) : Hc 127 m l = .inr (0, 12, .inl m) := rfl
theorem Hm_Rsu (mu : Nat → Nat → Int32) (l : Nat → Int64) : (Hm mu l).2 127 = .inr (0, 12, .inl (mu 127)) := Hc_Rsu (mu 127) l
theorem gA_Rsu (mu : Nat → Nat → Int32) (l : Nat → Int64) : gA (Hm mu l) 127 0 = some (12, mu 127) := gA_of (by show 127 < 134; decide) (Hm_Rsu mu l)
theorem ms_Rsu (mu : Nat → Nat → Int32) (l : Nat → Int64) (j : Nat) (v : Int32) : mset (Hm mu l) 127 (.inr (0, 12, .inl (upd (mu 127) j v))) = Hm (up mu 127 j v) l := by
  rw [up, ← Hm_set, Hc_Rsu]
theorem kd_Rfa : kd 128 = 40 := rfl
theorem Hc_Rfa (m : Nat → Int32) (l : Nat → Int64) : Hc 128 m l = .inr (0, 12, .inl m) := rfl
theorem Hm_Rfa (mu : Nat → Nat → Int32) (l : Nat → Int64) : (Hm mu l).2 128 = .inr (0, 12, .inl (mu 128)) := Hc_Rfa (mu 128) l
theorem gA_Rfa (mu : Nat → Nat → Int32) (l : Nat → Int64) : gA (Hm mu l) 128 0 = some (12, mu 128) := gA_of (by show 128 < 134; decide) (Hm_Rfa mu l)
theorem ms_Rfa (mu : Nat → Nat → Int32) (l : Nat → Int64) (j : Nat) (v : Int32) : mset (Hm mu l) 128 (.inr (0, 12, .inl (upd (mu 128) j v))) = Hm (up mu 128 j v) l := by
  rw [up, ← Hm_set, Hc_Rfa]
theorem kd_Rpi : kd 129 = 41 := rfl
theorem Hc_Rpi (m : Nat → Int32) (l : Nat → Int64) : Hc 129 m l = .inr (0, 28800, .inl m) := rfl
theorem Hm_Rpi (mu : Nat → Nat → Int32) (l : Nat → Int64) : (Hm mu l).2 129 = .inr (0, 28800, .inl (mu 129)) := Hc_Rpi (mu 129) l
theorem gA_Rpi (mu : Nat → Nat → Int32) (l : Nat → Int64) : gA (Hm mu l) 129 0 = some (28800, mu 129) := gA_of (by show 129 < 134; decide) (Hm_Rpi mu l)
theorem ms_Rpi (mu : Nat → Nat → Int32) (l : Nat → Int64) (j : Nat) (v : Int32) : mset (Hm mu l) 129 (.inr (0, 28800, .inl (upd (mu 129) j v))) = Hm (up mu 129 j v) l := by
  rw [up, ← Hm_set, Hc_Rpi]
theorem kd_Rsi : kd 130 = 42 := rfl
theorem Hc_Rsi (m : Nat → Int32) (l : Nat → Int64) : Hc 130 m l = .inr (0, 12, .inl m) := rfl
theorem Hm_Rsi (mu : Nat → Nat → Int32) (l : Nat → Int64) : (Hm mu l).2 130 = .inr (0, 12, .inl (mu 130)) := Hc_Rsi (mu 130) l
theorem gA_Rsi (mu : Nat → Nat → Int32) (l : Nat → Int64) : gA (Hm mu l) 130 0 = some (12, mu 130) := gA_of (by show 130 < 134; decide) (Hm_Rsi mu l)
theorem ms_Rsi (mu : Nat → Nat → Int32) (l : Nat → Int64) (j : Nat) (v : Int32) : mset (Hm mu l) 130 (.inr (0, 12, .inl (upd (mu 130) j v))) = Hm (up mu 130 j v) l := by
  rw [up, ← Hm_set, Hc_Rsi]
theorem kd_Rre : kd 131 = 43 := rfl
theorem Hc_Rre (m : Nat → Int32) (l : Nat → Int64) : Hc 131 m l = .inr (0, 9600, .inl m) := rfl
theorem Hm_Rre (mu : Nat → Nat → Int32) (l : Nat → Int64) : (Hm mu l).2 131 = .inr (0, 9600, .inl (mu 131)) := Hc_Rre (mu 131) l
theorem gA_Rre (mu : Nat → Nat → Int32) (l : Nat → Int64) : gA (Hm mu l) 131 0 = some (9600, mu 131) := gA_of (by show 131 < 134; decide) (Hm_Rre mu l)
theorem ms_Rre (mu : Nat → Nat → Int32) (l : Nat → Int64) (j : Nat) (v : Int32) : mset (Hm mu l) 131 (.inr (0, 9600, .inl (upd (mu 131) j v))) = Hm (up mu 131 j v) l := by
  rw [up, ← Hm_set, Hc_Rre]
theorem kd_Rro : kd 132 = 44 := rfl
theorem Hc_Rro (m : Nat → Int32) (l : Nat → Int64) : Hc 132 m l = .inr (2, 9600, .inr (.inl l)) := rfl
theorem Hm_Rro (mu : Nat → Nat → Int32) (l : Nat → Int64) : (Hm mu l).2 132 = .inr (2, 9600, .inr (.inl l)) := Hc_Rro (mu 132) l
theorem gL_Rro (mu : Nat → Nat → Int32) (l : Nat → Int64) : gL (Hm mu l) 132 2 = some (9600, l) := gL_of (by show 132 < 134; decide) (Hm_Rro mu l)
theorem ms_Rro (mu : Nat → Nat → Int32) (l : Nat → Int64) (l2 : Nat → Int64) : mset (Hm mu l) 132 (.inr (2, 9600, .inr (.inl l2))) = Hm mu l2 := by
  unfold mset Hm
  congr 1
  funext q
  by_cases h : q = 132
  · subst h; simp [va_up, Hc_Rro]
  · simp [va_up, h]; exact Hc_l h
theorem kd_Rch : kd 133 = 45 := rfl
theorem Hc_Rch (m : Nat → Int32) (l : Nat → Int64) : Hc 133 m l = .inr (0, 4, .inl m) := rfl
theorem Hm_Rch (mu : Nat → Nat → Int32) (l : Nat → Int64) : (Hm mu l).2 133 = .inr (0, 4, .inl (mu 133)) := Hc_Rch (mu 133) l
theorem gA_Rch (mu : Nat → Nat → Int32) (l : Nat → Int64) : gA (Hm mu l) 133 0 = some (4, mu 133) := gA_of (by show 133 < 134; decide) (Hm_Rch mu l)
theorem ms_Rch (mu : Nat → Nat → Int32) (l : Nat → Int64) (j : Nat) (v : Int32) : mset (Hm mu l) 133 (.inr (0, 4, .inl (upd (mu 133) j v))) = Hm (up mu 133 j v) l := by
  rw [up, ← Hm_set, Hc_Rch]
