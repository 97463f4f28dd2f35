theorem nlit0 : (0 : Int32) = nI 0 := rfl
theorem iI_lt {a b : Int} (h1 : -2147483648 ≤ a) (h2 : a < 2147483648) (h3 : -2147483648 ≤ b) (h4 : b < 2147483648) : iI a < iI b ↔ a < b := by rw [i_lt, iI_t h1 h2, iI_t h3 h4]
theorem iI_le {a b : Int} (h1 : -2147483648 ≤ a) (h2 : a < 2147483648) (h3 : -2147483648 ≤ b) (h4 : b < 2147483648) : iI a ≤ iI b ↔ a ≤ b := by rw [i_le, iI_t h1 h2, iI_t h3 h4]
theorem iI_eq {a b : Int} (h1 : -2147483648 ≤ a) (h2 : a < 2147483648) (h3 : -2147483648 ≤ b) (h4 : b < 2147483648) : iI a = iI b ↔ a = b := by rw [i_eq, iI_t h1 h2, iI_t h3 h4]
theorem al268_step {K : Nat → Int32 → Int32 → MH → Prop} {Post : Int32 → MH → Prop} {s : SG} {mu : Nat → Nat → Int32} (hb : RB s mu) (hw : WF s) {i : Nat} (hi : i < sn s) {l : Nat → Int64} {v x : Nat} (hv : v < 3) (hx : mu 124 v = nI x) (hx2 : x ≤ 127) (h0 : stray s i v x = false → K 113 (nI i) (nI (v + 1)) (Hm mu l)) (h1 : stray s i v x = true → Post 7 (Hm mu l)) : wb_Rm_aloneRule_268 K Post 113 (nI i) (nI v) (Hm mu l) := by
  have h12 := hw.n
  have hg := hw.2.2.2.2.2.2.1 i hi v hv
  have eg := hb.2.2.2.2.2.2.1 i hi v hv
  unfold wb_Rm_aloneRule_268 wp_Rm_aloneRule_312
  refine ⟨fun h => absurd h (nI_ge hv (by decide)), fun _ => ?_⟩
  simp only [Option.some.injEq, Sum.inl.injEq, Sum.inr.injEq, Prod.mk.injEq, and_assoc, exists_eq_left', exists_eq_left, exists_and_left, exists_and_right, exists_eq', exists_eq, forall_eq, forall_eq', true_and, and_true, exists_const, Hm_1, gC_Rm, gF_Rm_0, fs_Rm_0, gF_Rm_1, fs_Rm_1, gF_Rm_2, fs_Rm_2, gF_Rm_3, gF_Rm_4, gF_Rm_5, gF_Rm_6, gF_Rm_7, gF_Rm_8, gF_Rm_9, gF_Rm_10, fs_Rm_10, gF_Rm_11, gF_Rm_12, gF_Rm_13, gF_Rm_14, gF_Rm_15, gF_Rm_16, gF_Rm_17, gF_Rm_18, gF_Rm_19, fs_Rm_19, gF_Rm_20, gF_Rm_21, gF_Rm_22, gF_Rm_23, gF_Rm_24, fs_Rm_24, gF_Rm_25, gA_Rle, ms_Rle, gA_Roc, ms_Roc, gA_Ral, ms_Ral, gA_Rto, ms_Rto, gA_Rlo, ms_Rlo, gA_Rhi, ms_Rhi, gA_Rho, ms_Rho, gA_Rgi, ms_Rgi, gA_Rha, ms_Rha, gA_Ris, ms_Ris, gA_Rno, ms_Rno, gA_Rbe, ms_Rbe, gA_Rtn, ms_Rtn, gA_Rsu, ms_Rsu, gA_Rfa, ms_Rfa, gA_Rpi, ms_Rpi, gA_Rsi, ms_Rsi, gA_Rre, ms_Rre, gL_Rro, ms_Rro, gA_Rch, ms_Rch, show (3 : Int32) = nI 3 from rfl, pk_mul, nI_add, vp_in_nI (show 3 * i + v < 36 by omega) (show 36 < 2 ^ 31 by omega), vp_in_nI (show v < 4 by omega) (show 4 < 2 ^ 31 by omega), nI_clamp (show 3 * i + v < 2 ^ 31 by omega), nI_clamp (show v < 2 ^ 31 by omega), eg, hx, nI_1]
  rw [show (0 : Int32) = iI 0 from rfl, iI_lt (by omega) (by omega) (by omega) (by omega), iI_n x, iI_eq (by omega) (by omega) (by omega) (by omega)]
  unfold stray at h0 h1
  refine ⟨fun h => h0 (by simp; omega), fun h => ⟨fun e => h0 (by simp; omega), fun e => h1 (by simp; omega)⟩⟩
theorem sp_al268 {Post : Int32 → MH → Prop} {s : SG} {mu : Nat → Nat → Int32} (hb : RB s mu) (hw : WF s) {i : Nat} (hi : i < sn s) {l : Nat → Int64} {a b c d : Nat} (hn : Now mu a b c d) (ha : a ≤ 127) (hb2 : b ≤ 127) (hc : c ≤ 127) (hp : Post (nI (r7 s i a b c)) (Hm mu l)) : wp_Rm_aloneRule_268 Post 113 (nI i) 0 (Hm mu l) := by
  refine ⟨4, ?_⟩
  unfold r7 at hp
  refine al268_step hb hw hi (v := 0) (by decide) hn.1 ha (fun h0 => ?_) (fun h0 => by simp [h0] at hp; exact hp)
  refine al268_step hb hw hi (v := 1) (by decide) hn.2.1 hb2 (fun h1 => ?_) (fun h1 => by simp [h0, h1] at hp; exact hp)
  refine al268_step hb hw hi (v := 2) (by decide) hn.2.2.1 hc (fun h2 => ?_) (fun h2 => by simp [h0, h1, h2] at hp; exact hp)
  exact ⟨fun _ => by simp [h0, h1, h2] at hp; exact hp, fun h => absurd (by decide) h⟩
theorem al223_step {K : Nat → Int32 → Int32 → Int32 → Int32 → MH → Prop} {Post : Int32 → MH → Prop} {s : SG} {mu : Nat → Nat → Int32} {i : Nat} {l : Nat → Int64} {v x n : Nat} (hv : v < 4) (hx : mu 124 v = nI x) (hx2 : x ≤ 127) (hF : lead s < 12) (h0 : K 113 (nI i) (nI (lead s)) (nI (n + ldc s x)) (nI (v + 1)) (Hm mu l)) : wb_Rm_aloneRule_223 K Post 113 (nI i) (nI (lead s)) (nI n) (nI v) (Hm mu l) := by
  unfold wb_Rm_aloneRule_223 wp_Rm_aloneRule_250
  refine ⟨fun h => absurd h (nI_ge hv (by decide)), fun _ => ?_⟩
  simp only [Option.some.injEq, Sum.inl.injEq, Sum.inr.injEq, Prod.mk.injEq, and_assoc, exists_eq_left', exists_eq_left, exists_and_left, exists_and_right, exists_eq', exists_eq, forall_eq, forall_eq', true_and, and_true, exists_const, Hm_1, gC_Rm, gF_Rm_0, fs_Rm_0, gF_Rm_1, fs_Rm_1, gF_Rm_2, fs_Rm_2, gF_Rm_3, gF_Rm_4, gF_Rm_5, gF_Rm_6, gF_Rm_7, gF_Rm_8, gF_Rm_9, gF_Rm_10, fs_Rm_10, gF_Rm_11, gF_Rm_12, gF_Rm_13, gF_Rm_14, gF_Rm_15, gF_Rm_16, gF_Rm_17, gF_Rm_18, gF_Rm_19, fs_Rm_19, gF_Rm_20, gF_Rm_21, gF_Rm_22, gF_Rm_23, gF_Rm_24, fs_Rm_24, gF_Rm_25, gA_Rle, ms_Rle, gA_Roc, ms_Roc, gA_Ral, ms_Ral, gA_Rto, ms_Rto, gA_Rlo, ms_Rlo, gA_Rhi, ms_Rhi, gA_Rho, ms_Rho, gA_Rgi, ms_Rgi, gA_Rha, ms_Rha, gA_Ris, ms_Ris, gA_Rno, ms_Rno, gA_Rbe, ms_Rbe, gA_Rtn, ms_Rtn, gA_Rsu, ms_Rsu, gA_Rfa, ms_Rfa, gA_Rpi, ms_Rpi, gA_Rsi, ms_Rsi, gA_Rre, ms_Rre, gL_Rro, ms_Rro, gA_Rch, ms_Rch, vp_in_nI hv (show 4 < 2 ^ 31 by omega), nI_clamp (show v < 2 ^ 31 by omega), hx, nI_1, rem12 (show x < 2 ^ 31 by omega), nI_eq (show x % 12 < 2 ^ 31 by omega) (show lead s < 2 ^ 31 by omega)]
  unfold ldc at h0
  refine ⟨fun h => by simpa [h] using h0, fun h => by simpa [h] using h0⟩
theorem lead_lt (s : SG) : lead s < 12 := by unfold lead; omega
theorem ldc_le (s : SG) (x : Nat) : ldc s x ≤ 1 := by unfold ldc; split <;> omega
theorem sp_al223 {Post : Int32 → MH → Prop} {s : SG} {mu : Nat → Nat → Int32} (hb : RB s mu) (hw : WF s) {i : Nat} (hi : i < sn s) {l : Nat → Int64} {a b c : Nat} (hn : Now mu a b c (bN s i)) (ha : a ≤ 127) (hb2 : b ≤ 127) (hc : c ≤ 127) (hp : Post (nI (r6 s i a b c)) (Hm mu l)) : wp_Rm_aloneRule_223 Post 113 (nI i) (nI (lead s)) 0 0 (Hm mu l) := by
  have hd := bN_rg hw hi
  have hF := lead_lt s
  refine ⟨5, ?_⟩
  refine al223_step (n := 0) (v := 0) (by decide) hn.1 ha hF ?_
  refine al223_step (v := 1) (by decide) hn.2.1 hb2 hF ?_
  refine al223_step (v := 2) (by decide) hn.2.2.1 hc hF ?_
  refine al223_step (v := 3) (by decide) hn.2.2.2 (by omega) hF ?_
  have l0 := ldc_le s a; have l1 := ldc_le s b; have l2 := ldc_le s c; have l3 := ldc_le s (bN s i)
  unfold r6 at hp
  refine ⟨fun _ => ⟨fun h => ?_, fun h => ?_⟩, fun h => absurd (by decide) h⟩
  · rw [show (1 : Int32) = nI 1 from rfl, nI_leI (by omega) (by decide)] at h
    rw [if_neg (by omega)] at hp
    exact sp_al268 hb hw hi hn ha hb2 hc hp
  · rw [show (1 : Int32) = nI 1 from rfl, nI_leI (by omega) (by decide)] at h
    rw [if_pos (by omega)] at hp
    exact hp
theorem in64 (x : Int32) : x.toInt64.toInt = x.toInt := Int32.toInt_toInt64 x
theorem nI_t {n : Nat} (h : n < 2 ^ 31) : (nI n).toInt = (n : Int) := nI_toInt h
theorem mod_lead : ∀ j : Nat, j < 15 → (((7 : Int32) * iI ((j : Int) - 7) + 11 - (7 * iI ((j : Int) - 7) + 11) / 12 * 12) + 12) - (((7 : Int32) * iI ((j : Int) - 7) + 11 - (7 * iI ((j : Int) - 7) + 11) / 12 * 12) + 12) / 12 * 12 = nI (((7 * ((j : Int) - 7) + 11) % 12).toNat) := by decide +kernel
theorem sp_lead (Post : Int32 → MH → Prop) {s : SG} (hw : WF s) (h : MH) : wp_Rm_mod Post (7 * iI (sF s) + 11) 12 h ↔ Post (nI (lead s)) h := by
  have hF := hw.1
  unfold wp_Rm_mod
  have := mod_lead (sF s + 7).toNat (by omega)
  rw [show (((sF s + 7).toNat : Nat) : Int) - 7 = sF s by omega] at this
  rw [this]
  have e : ¬ (12 : Int32) = 0 := by decide
  simp only [e, not_false_eq_true, true_and]
  rfl
theorem al44_step {K : Nat → Int32 → Int32 → MH → Prop} {Post : Int32 → MH → Prop} {s : SG} {mu : Nat → Nat → Int32} (hw : WF s) {i : Nat} (hi : i < sn s) {l : Nat → Int64} {a b c v x : Nat} (hv : v < 3) (hn : Now mu a b c (bN s i)) (hx : mu 124 v = nI x) (hx2 : x ≤ 127) (ht : mu 126 i = tmI s i 8) (h0 : okc s i x = true → K 113 (nI i) (nI (v + 1)) (Hm mu l)) (h1 : okc s i x = false → Post 2 (Hm mu l)) : wb_Rm_aloneRule_44 K Post 113 (nI i) (nI v) (Hm mu l) := by
  have h12 := hw.n
  have hd := bN_rg hw hi
  unfold wb_Rm_aloneRule_44 wp_Rm_aloneRule_93
  refine ⟨fun h => absurd h (nI_ge hv (by decide)), fun _ => ?_⟩
  simp only [Option.some.injEq, Sum.inl.injEq, Sum.inr.injEq, Prod.mk.injEq, and_assoc, exists_eq_left', exists_eq_left, exists_and_left, exists_and_right, exists_eq', exists_eq, forall_eq, forall_eq', true_and, and_true, exists_const, Hm_1, gC_Rm, gF_Rm_0, fs_Rm_0, gF_Rm_1, fs_Rm_1, gF_Rm_2, fs_Rm_2, gF_Rm_3, gF_Rm_4, gF_Rm_5, gF_Rm_6, gF_Rm_7, gF_Rm_8, gF_Rm_9, gF_Rm_10, fs_Rm_10, gF_Rm_11, gF_Rm_12, gF_Rm_13, gF_Rm_14, gF_Rm_15, gF_Rm_16, gF_Rm_17, gF_Rm_18, gF_Rm_19, fs_Rm_19, gF_Rm_20, gF_Rm_21, gF_Rm_22, gF_Rm_23, gF_Rm_24, fs_Rm_24, gF_Rm_25, gA_Rle, ms_Rle, gA_Roc, ms_Roc, gA_Ral, ms_Ral, gA_Rto, ms_Rto, gA_Rlo, ms_Rlo, gA_Rhi, ms_Rhi, gA_Rho, ms_Rho, gA_Rgi, ms_Rgi, gA_Rha, ms_Rha, gA_Ris, ms_Ris, gA_Rno, ms_Rno, gA_Rbe, ms_Rbe, gA_Rtn, ms_Rtn, gA_Rsu, ms_Rsu, gA_Rfa, ms_Rfa, gA_Rpi, ms_Rpi, gA_Rsi, ms_Rsi, gA_Rre, ms_Rre, gL_Rro, ms_Rro, gA_Rch, ms_Rch, vp_in_nI (show v < 4 by omega) (show 4 < 2 ^ 31 by omega), vp_in_nI (show i < 12 by omega) (show 12 < 2 ^ 31 by omega), nI_clamp (show v < 2 ^ 31 by omega), nI_clamp (show i < 2 ^ 31 by omega), show ((3 : Int32)).toNatClampNeg = 3 from rfl, show vp_in 3 4 from (by unfold vp_in; decide), hx, hn.2.2.2, ht, nI_1, rem12 (show x < 2 ^ 31 by omega), rem12 (show bN s i < 2 ^ 31 by omega), nI_eq (show x % 12 < 2 ^ 31 by omega) (show bN s i % 12 < 2 ^ 31 by omega), sp_Rm_has, bI_0]
  unfold okc at h0 h1
  refine ⟨fun h => h0 (by simp [h]), fun h => ⟨fun e => h0 (by simp [h]; simpa using e), fun e => h1 (by simp [h, e])⟩⟩
set_option maxHeartbeats 1000000 in
theorem sp_al44 {Post : Int32 → MH → Prop} {s : SG} {mu : Nat → Nat → Int32} (hb : RB s mu) (hw : WF s) {i : Nat} (hi : i < sn s) {l : Nat → Int64} {a b c : Nat} (hn : Now mu a b c (bN s i)) (ha : a ≤ 127) (hb2 : b ≤ 127) (hc : c ≤ 127) (ht : mu 126 i = tmI s i 8) (hp : Post (nI (r2 s i a b c)) (Hm mu l)) : wp_Rm_aloneRule_44 Post 113 (nI i) 0 (Hm mu l) := by
  have h12 := hw.n
  have hd := bN_rg hw hi
  refine ⟨4, ?_⟩
  unfold r2 at hp
  refine al44_step hw hi (v := 0) (by decide) hn hn.1 ha ht (fun h0 => ?_) (fun h0 => by simp [h0] at hp; exact hp)
  refine al44_step hw hi (v := 1) (by decide) hn hn.2.1 hb2 ht (fun h1 => ?_) (fun h1 => by simp [h0, h1] at hp; exact hp)
  refine al44_step hw hi (v := 2) (by decide) hn hn.2.2.1 hc ht (fun h2 => ?_) (fun h2 => by simp [h0, h1, h2] at hp; exact hp)
  simp only [h0, h1, h2, Bool.and_self, if_true] at hp
  show wb_Rm_aloneRule_44 _ _ _ _ _ _
  unfold wb_Rm_aloneRule_44
  refine ⟨fun _ => ?_, fun h => absurd (by decide) h⟩
  simp only [Option.some.injEq, Sum.inl.injEq, Sum.inr.injEq, Prod.mk.injEq, and_assoc, exists_eq_left', exists_eq_left, exists_and_left, exists_and_right, exists_eq', exists_eq, forall_eq, forall_eq', true_and, and_true, exists_const, Hm_1, gC_Rm, gF_Rm_0, fs_Rm_0, gF_Rm_1, fs_Rm_1, gF_Rm_2, fs_Rm_2, gF_Rm_3, gF_Rm_4, gF_Rm_5, gF_Rm_6, gF_Rm_7, gF_Rm_8, gF_Rm_9, gF_Rm_10, fs_Rm_10, gF_Rm_11, gF_Rm_12, gF_Rm_13, gF_Rm_14, gF_Rm_15, gF_Rm_16, gF_Rm_17, gF_Rm_18, gF_Rm_19, fs_Rm_19, gF_Rm_20, gF_Rm_21, gF_Rm_22, gF_Rm_23, gF_Rm_24, fs_Rm_24, gF_Rm_25, gA_Rle, ms_Rle, gA_Roc, ms_Roc, gA_Ral, ms_Ral, gA_Rto, ms_Rto, gA_Rlo, ms_Rlo, gA_Rhi, ms_Rhi, gA_Rho, ms_Rho, gA_Rgi, ms_Rgi, gA_Rha, ms_Rha, gA_Ris, ms_Ris, gA_Rno, ms_Rno, gA_Rbe, ms_Rbe, gA_Rtn, ms_Rtn, gA_Rsu, ms_Rsu, gA_Rfa, ms_Rfa, gA_Rpi, ms_Rpi, gA_Rsi, ms_Rsi, gA_Rre, ms_Rre, gL_Rro, ms_Rro, gA_Rch, ms_Rch, vp_in_nI (show i < 12 by omega) (show 12 < 2 ^ 31 by omega), nI_clamp (show i < 2 ^ 31 by omega), ht]
  refine sp_Rm_classes _ hn (by omega) (by omega) (by omega) (by omega) l ?_
  unfold r3 at hp
  refine ⟨fun h3 => ?_, fun h3 => by rw [if_neg h3] at hp; exact hp⟩
  rw [if_pos h3] at hp
  unfold r4 r5 at hp
  have v0 : vp_in 0 4 := by unfold vp_in; decide
  have v1 : vp_in 1 4 := by unfold vp_in; decide
  have v2 : vp_in 2 4 := by unfold vp_in; decide
  have v3 : vp_in 3 4 := by unfold vp_in; decide
  simp only [Option.some.injEq, Sum.inl.injEq, Sum.inr.injEq, Prod.mk.injEq, and_assoc, exists_eq_left', exists_eq_left, exists_and_left, exists_and_right, exists_eq', exists_eq, forall_eq, forall_eq', true_and, and_true, exists_const, Hm_1, gC_Rm, gF_Rm_0, fs_Rm_0, gF_Rm_1, fs_Rm_1, gF_Rm_2, fs_Rm_2, gF_Rm_3, gF_Rm_4, gF_Rm_5, gF_Rm_6, gF_Rm_7, gF_Rm_8, gF_Rm_9, gF_Rm_10, fs_Rm_10, gF_Rm_11, gF_Rm_12, gF_Rm_13, gF_Rm_14, gF_Rm_15, gF_Rm_16, gF_Rm_17, gF_Rm_18, gF_Rm_19, fs_Rm_19, gF_Rm_20, gF_Rm_21, gF_Rm_22, gF_Rm_23, gF_Rm_24, fs_Rm_24, gF_Rm_25, gA_Rle, ms_Rle, gA_Roc, ms_Roc, gA_Ral, ms_Ral, gA_Rto, ms_Rto, gA_Rlo, ms_Rlo, gA_Rhi, ms_Rhi, gA_Rho, ms_Rho, gA_Rgi, ms_Rgi, gA_Rha, ms_Rha, gA_Ris, ms_Ris, gA_Rno, ms_Rno, gA_Rbe, ms_Rbe, gA_Rtn, ms_Rtn, gA_Rsu, ms_Rsu, gA_Rfa, ms_Rfa, gA_Rpi, ms_Rpi, gA_Rsi, ms_Rsi, gA_Rre, ms_Rre, gL_Rro, ms_Rro, gA_Rch, ms_Rch, v0, v1, v2, v3, show ((0 : Int32)).toNatClampNeg = 0 from rfl, show ((1 : Int32)).toNatClampNeg = 1 from rfl, show ((2 : Int32)).toNatClampNeg = 2 from rfl, show ((3 : Int32)).toNatClampNeg = 3 from rfl, hn.1, hn.2.1, hn.2.2.1, hn.2.2.2, hb.1, sp_lead _ hw]
  simp only [nI_ltI (show a < 2 ^ 31 by omega) (show b < 2 ^ 31 by omega), nI_ltI (show b < 2 ^ 31 by omega) (show c < 2 ^ 31 by omega), nI_leI (show bN s i < 2 ^ 31 by omega) (show c < 2 ^ 31 by omega), i_lt, i_le, pk_sub_toInt (show a < 2 ^ 30 by omega) (show b < 2 ^ 30 by omega), pk_sub_toInt (show b < 2 ^ 30 by omega) (show c < 2 ^ 30 by omega), show ((12 : Int32)).toInt = 12 from rfl]
  by_cases q1 : a < b ∨ b < c ∨ c < bN s i
  · rw [if_pos q1] at hp
    refine ⟨fun _ => hp, fun e1 => ⟨fun _ => hp, fun e2 => ⟨fun e3 => by omega, fun _ => hp⟩⟩⟩
  · rw [if_neg q1] at hp
    refine ⟨fun e => by omega, fun e1 => ⟨fun e => by omega, fun e2 => ⟨fun e3 => ?_, fun e => by omega⟩⟩⟩
    by_cases q2 : b + 12 < a ∨ c + 12 < b
    · rw [if_pos q2] at hp
      exact ⟨fun _ => hp, fun e4 => ⟨fun e => by omega, fun _ => hp⟩⟩
    · rw [if_neg q2] at hp
      exact ⟨fun e => by omega, fun e4 => ⟨fun e => sp_al223 hb hw hi hn ha hb2 hc hp, fun e => by omega⟩⟩
theorem al2_step {K : Nat → Int32 → Int32 → MH → Prop} {Post : Int32 → MH → Prop} {s : SG} {mu : Nat → Nat → Int32} (hb : RB s mu) (hw : WF s) {i : Nat} {l : Nat → Int64} {v x : Nat} (hv : v < 3) (hx : mu 124 v = nI x) (hx2 : x ≤ 127) (h0 : inR s v x = true → K 113 (nI i) (nI (v + 1)) (Hm mu l)) (h1 : inR s v x = false → Post 1 (Hm mu l)) : wb_Rm_aloneRule_2 K Post 113 (nI i) (nI v) (Hm mu l) := by
  have hr := hw.2.2.2.2.2.1 v hv
  have er := hb.2.2.2.2.2.1 v hv
  unfold wb_Rm_aloneRule_2
  refine ⟨fun h => absurd h (nI_ge hv (by decide)), fun _ => ?_⟩
  simp only [Option.some.injEq, Sum.inl.injEq, Sum.inr.injEq, Prod.mk.injEq, and_assoc, exists_eq_left', exists_eq_left, exists_and_left, exists_and_right, exists_eq', exists_eq, forall_eq, forall_eq', true_and, and_true, exists_const, Hm_1, gC_Rm, gF_Rm_0, fs_Rm_0, gF_Rm_1, fs_Rm_1, gF_Rm_2, fs_Rm_2, gF_Rm_3, gF_Rm_4, gF_Rm_5, gF_Rm_6, gF_Rm_7, gF_Rm_8, gF_Rm_9, gF_Rm_10, fs_Rm_10, gF_Rm_11, gF_Rm_12, gF_Rm_13, gF_Rm_14, gF_Rm_15, gF_Rm_16, gF_Rm_17, gF_Rm_18, gF_Rm_19, fs_Rm_19, gF_Rm_20, gF_Rm_21, gF_Rm_22, gF_Rm_23, gF_Rm_24, fs_Rm_24, gF_Rm_25, gA_Rle, ms_Rle, gA_Roc, ms_Roc, gA_Ral, ms_Ral, gA_Rto, ms_Rto, gA_Rlo, ms_Rlo, gA_Rhi, ms_Rhi, gA_Rho, ms_Rho, gA_Rgi, ms_Rgi, gA_Rha, ms_Rha, gA_Ris, ms_Ris, gA_Rno, ms_Rno, gA_Rbe, ms_Rbe, gA_Rtn, ms_Rtn, gA_Rsu, ms_Rsu, gA_Rfa, ms_Rfa, gA_Rpi, ms_Rpi, gA_Rsi, ms_Rsi, gA_Rre, ms_Rre, gL_Rro, ms_Rro, gA_Rch, ms_Rch, vp_in_nI (show v < 4 by omega) (show 4 < 2 ^ 31 by omega), vp_in_nI hv (show 3 < 2 ^ 31 by omega), nI_clamp (show v < 2 ^ 31 by omega), hx, er.1, er.2.1, nI_1, sp_Rm_in, in64, nI_t (show x < 2 ^ 31 by omega), nI_t (show slo s v < 2 ^ 31 by omega), nI_t (show shi s v < 2 ^ 31 by omega), bI_0, Int.ofNat_le]
  unfold inR at h0 h1
  refine ⟨fun h => h0 (by simpa using h), fun h => h1 h⟩
theorem sp_Rm_aloneRule {Post : Int32 → MH → Prop} {s : SG} {mu : Nat → Nat → Int32} (hb : RB s mu) (hw : WF s) {i : Nat} (hi : i < sn s) {l : Nat → Int64} {a b c : Nat} (hn : Now mu a b c (bN s i)) (ha : a ≤ 127) (hb2 : b ≤ 127) (hc : c ≤ 127) (ht : mu 126 i = tmI s i 8) (hp : Post (nI (alone s i a b c)) (Hm mu l)) : wp_Rm_aloneRule Post 113 (nI i) (Hm mu l) := by
  refine ⟨4, ?_⟩
  unfold alone at hp
  refine al2_step hb hw (v := 0) (by decide) hn.1 ha (fun h0 => ?_) (fun h0 => by simp [h0] at hp; exact hp)
  refine al2_step hb hw (v := 1) (by decide) hn.2.1 hb2 (fun h1 => ?_) (fun h1 => by simp [h0, h1] at hp; exact hp)
  refine al2_step hb hw (v := 2) (by decide) hn.2.2.1 hc (fun h2 => ?_) (fun h2 => by simp [h0, h1, h2] at hp; exact hp)
  simp only [h0, h1, h2, Bool.and_self, if_true] at hp
  exact ⟨fun _ => sp_al44 hb hw hi hn ha hb2 hc ht hp, fun h => absurd (by decide) h⟩
