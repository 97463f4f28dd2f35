def parRow (x y : Nat → Nat) (v : Nat) : Bool := match v with
  | 0 => prl x y 0 1 || prl x y 0 2 || prl x y 0 3
  | 1 => prl x y 1 2 || prl x y 1 3
  | _ => prl x y 2 3
def dis (a b : Nat) : Nat := if a ≤ b then b - a else a - b
theorem sp_far2 (Post : Int32 → MH → Prop) {a b : Nat} (ha : a ≤ 127) (hb : b ≤ 127) (h : MH) : wp_Rm_far Post (nI a) (nI b) h ↔ Post (nI (dis a b)) h := by
  rw [sp_Rm_far]
  have hq : nI a ≤ nI b ↔ a ≤ b := nI_leI (by omega) (by omega)
  unfold dis
  by_cases e : a ≤ b
  · rw [if_pos (hq.mpr e), if_pos e, pk_sub e]
  · rw [if_neg (fun z => e (hq.mp z)), if_neg e, pk_sub (by omega)]
theorem dis_le {a b : Nat} (ha : a ≤ 127) (hb : b ≤ 127) : dis a b ≤ 127 := by unfold dis; split <;> omega
theorem pr85 {K56 : Nat → Int32 → Int32 → Int32 → Int32 → Int32 → MH → Prop} {Post : Int32 → MH → Prop} {i v a b : Nat} {l : Nat → Int64} {mu : Nat → Nat → Int32} {l2 l3 l4 : Int32} (ha : a ≤ 127) (hb : b ≤ 127) (hk : wp_Rm_pairRule_113 K56 Post 113 (nI i) l2 l3 l4 (nI v) (nI a - nI b) (bI (down a b)) (nI (v + 1)) (Hm mu l)) : wp_Rm_pairRule_85 K56 Post 113 (nI i) l2 l3 l4 (nI v) (nI a - nI b) (Hm mu l) := by
  unfold wp_Rm_pairRule_85 wp_Rm_pairRule_100 wp_Rm_pairRule_105
  simp only [by_1 ha hb, by_2 ha hb, forall_eq, nI_1]
  unfold down at hk
  refine ⟨fun e => ?_, fun e => ⟨fun e2 => ?_, fun e2 => ?_⟩⟩
  · simpa [e, bI_t] using hk
  · simpa [e, e2, bI_f] using hk
  · simpa [e, e2, bI_t] using hk
theorem pr56_step {K : Nat → Int32 → Int32 → Int32 → Int32 → Int32 → MH → Prop} {Post : Int32 → MH → Prop} {s : SG} {mu : Nat → Nat → Int32} {i : Nat} (h0 : 0 < i) (hi : i < 12) (hm : Msk s mu (i - 1)) (hm2 : Msk s mu i) {x y : Nat → Nat} (hx : Row mu 124 x) (hy : Row mu 125 y) {l : Nat → Int64} {p h f : Bool} {v : Nat} (hv : v < 3) (hk : K 113 (nI i) (bI (p || parRow x y v)) (bI (h || hld s i x y v)) (bI (f || fls s i x y v)) (nI (v + 1)) (Hm mu l)) : wb_Rm_pairRule_56 K Post 113 (nI i) (bI p) (bI h) (bI f) (nI v) (Hm mu l) := by
  have xv := hx v (by omega)
  have yv := hy v (by omega)
  have hi2 : i < 2 ^ 31 := by omega
  unfold wb_Rm_pairRule_56
  refine ⟨fun q => absurd q (nI_ge hv (by decide)), fun _ => ⟨fun _ => ?_, fun q => absurd q (nI_ne0 h0 hi2)⟩⟩
  simp only [Option.some.injEq, Sum.inl.injEq, Sum.inr.injEq, Prod.mk.injEq, and_assoc, exists_eq_left', exists_eq_left, exists_and_left, exists_and_right, exists_eq', exists_eq, forall_eq, forall_eq', true_and, and_true, exists_const, Hm_1, gC_Rm, gF_Rm_0, fs_Rm_0, gF_Rm_1, fs_Rm_1, gF_Rm_2, fs_Rm_2, gF_Rm_3, gF_Rm_4, gF_Rm_5, gF_Rm_6, gF_Rm_7, gF_Rm_8, gF_Rm_9, gF_Rm_10, fs_Rm_10, gF_Rm_11, gF_Rm_12, gF_Rm_13, gF_Rm_14, gF_Rm_15, gF_Rm_16, gF_Rm_17, gF_Rm_18, gF_Rm_19, fs_Rm_19, gF_Rm_20, gF_Rm_21, gF_Rm_22, gF_Rm_23, gF_Rm_24, fs_Rm_24, gF_Rm_25, gA_Rle, ms_Rle, gA_Roc, ms_Roc, gA_Ral, ms_Ral, gA_Rto, ms_Rto, gA_Rlo, ms_Rlo, gA_Rhi, ms_Rhi, gA_Rho, ms_Rho, gA_Rgi, ms_Rgi, gA_Rha, ms_Rha, gA_Ris, ms_Ris, gA_Rno, ms_Rno, gA_Rbe, ms_Rbe, gA_Rtn, ms_Rtn, gA_Rsu, ms_Rsu, gA_Rfa, ms_Rfa, gA_Rpi, ms_Rpi, gA_Rsi, ms_Rsi, gA_Rre, ms_Rre, gL_Rro, ms_Rro, gA_Rch, ms_Rch, vp_in_nI (show v < 4 by omega) (show 4 < 2 ^ 31 by omega), nI_clamp (show v < 2 ^ 31 by omega), xv.1, yv.1]
  refine pr85 xv.2 yv.2 ?_
  match v, hv with
  | 0, hv =>
    refine ⟨4, ?_⟩
    refine pr113_step hx hy h0 hi2 (by decide) (by decide) ?_
    refine pr113_step hx hy h0 hi2 (by decide) (by decide) ?_
    refine pr113_step hx hy h0 hi2 (by decide) (by decide) ?_
    refine pr113_exit h0 hi hm hm2 hx hy hv ?_
    simpa [parRow, Bool.or_assoc] using hk
  | 1, hv =>
    refine ⟨3, ?_⟩
    refine pr113_step hx hy h0 hi2 (by decide) (by decide) ?_
    refine pr113_step hx hy h0 hi2 (by decide) (by decide) ?_
    refine pr113_exit h0 hi hm hm2 hx hy hv ?_
    simpa [parRow, Bool.or_assoc] using hk
  | 2, hv =>
    refine ⟨2, ?_⟩
    refine pr113_step hx hy h0 hi2 (by decide) (by decide) ?_
    refine pr113_exit h0 hi hm hm2 hx hy hv ?_
    simpa [parRow, Bool.or_assoc] using hk
def parA (x y : Nat → Nat) : Bool := parRow x y 0 || parRow x y 1 || parRow x y 2
def hldA (s : SG) (i : Nat) (x y : Nat → Nat) : Bool := hld s i x y 0 || hld s i x y 1 || hld s i x y 2
def flsA (s : SG) (i : Nat) (x y : Nat → Nat) : Bool := fls s i x y 0 || fls s i x y 1 || fls s i x y 2
def lpA (s : SG) (x y : Nat → Nat) : Bool := decide (sp s < dis (x 0) (y 0)) || decide (sp s < dis (x 1) (y 1)) || decide (sp s < dis (x 2) (y 2))
def pairQ (s : SG) (i : Nat) (x y : Nat → Nat) : Nat := if parA x y then 9 else if hldA s i x y then 10 else if flsA s i x y then 11 else 0
def pairR (s : SG) (i : Nat) (x y : Nat → Nat) : Nat := if lpA s x y then 8 else pairQ s i x y
theorem sp_pr56 {Post : Int32 → MH → Prop} {s : SG} {mu : Nat → Nat → Int32} {i : Nat} (h0 : 0 < i) (hi : i < 12) (hm : Msk s mu (i - 1)) (hm2 : Msk s mu i) {x y : Nat → Nat} (hx : Row mu 124 x) (hy : Row mu 125 y) {l : Nat → Int64} (hp : Post (nI (pairQ s i x y)) (Hm mu l)) : wp_Rm_pairRule_56 Post 113 (nI i) 0 0 0 0 (Hm mu l) := by
  refine ⟨4, ?_⟩
  refine pr56_step (p := false) (h := false) (f := false) (v := 0) h0 hi hm hm2 hx hy (by decide) ?_
  refine pr56_step (v := 1) h0 hi hm hm2 hx hy (by decide) ?_
  refine pr56_step (v := 2) h0 hi hm hm2 hx hy (by decide) ?_
  show wb_Rm_pairRule_56 _ _ _ _ _ _ _ _ _
  unfold wb_Rm_pairRule_56
  refine ⟨fun _ => ?_, fun q => absurd (by decide) q⟩
  simp only [bI_0, Bool.false_or]
  unfold pairQ parA hldA flsA at hp
  refine ⟨fun a => ⟨fun b => ⟨fun c => ?_, fun c => ?_⟩, fun b => ?_⟩, fun a => ?_⟩
  · rw [a, b, c] at hp; exact hp
  · simp only [Bool.not_eq_false] at c; rw [a, b, c] at hp; exact hp
  · simp only [Bool.not_eq_false] at b; rw [a, b] at hp; exact hp
  · simp only [Bool.not_eq_false] at a; rw [a] at hp; exact hp
theorem pr10_step {K : Nat → Int32 → Int32 → Int32 → Int32 → Int32 → MH → Prop} {Post : Int32 → MH → Prop} {s : SG} {mu : Nat → Nat → Int32} (hb : RB s mu) (hw : WF s) {i : Nat} (h0 : 0 < i) (hi : i < 12) {x y : Nat → Nat} (hx : Row mu 124 x) (hy : Row mu 125 y) {l : Nat → Int64} {l2 l3 l4 : Int32} {v : Nat} (hv : v < 3) (hk : ¬ sp s < dis (x v) (y v) → K 113 (nI i) l2 l3 l4 (nI (v + 1)) (Hm mu l)) (h8 : sp s < dis (x v) (y v) → Post 8 (Hm mu l)) : wb_Rm_pairRule_10 K Post 113 (nI i) l2 l3 l4 (nI v) (Hm mu l) := by
  have xv := hx v (by omega)
  have yv := hy v (by omega)
  have hl := hw.2.2.1
  have hd := dis_le xv.2 yv.2
  unfold wb_Rm_pairRule_10
  refine ⟨fun q => absurd q (nI_ge hv (by decide)), fun _ => ⟨fun q => absurd q (nI_nle h0 (by omega)), fun _ => ?_⟩⟩
  simp only [Option.some.injEq, Sum.inl.injEq, Sum.inr.injEq, Prod.mk.injEq, and_assoc, exists_eq_left', exists_eq_left, exists_and_left, exists_and_right, exists_eq', exists_eq, forall_eq, forall_eq', true_and, and_true, exists_const, Hm_1, gC_Rm, gF_Rm_0, fs_Rm_0, gF_Rm_1, fs_Rm_1, gF_Rm_2, fs_Rm_2, gF_Rm_3, gF_Rm_4, gF_Rm_5, gF_Rm_6, gF_Rm_7, gF_Rm_8, gF_Rm_9, gF_Rm_10, fs_Rm_10, gF_Rm_11, gF_Rm_12, gF_Rm_13, gF_Rm_14, gF_Rm_15, gF_Rm_16, gF_Rm_17, gF_Rm_18, gF_Rm_19, fs_Rm_19, gF_Rm_20, gF_Rm_21, gF_Rm_22, gF_Rm_23, gF_Rm_24, fs_Rm_24, gF_Rm_25, gA_Rle, ms_Rle, gA_Roc, ms_Roc, gA_Ral, ms_Ral, gA_Rto, ms_Rto, gA_Rlo, ms_Rlo, gA_Rhi, ms_Rhi, gA_Rho, ms_Rho, gA_Rgi, ms_Rgi, gA_Rha, ms_Rha, gA_Ris, ms_Ris, gA_Rno, ms_Rno, gA_Rbe, ms_Rbe, gA_Rtn, ms_Rtn, gA_Rsu, ms_Rsu, gA_Rfa, ms_Rfa, gA_Rpi, ms_Rpi, gA_Rsi, ms_Rsi, gA_Rre, ms_Rre, gL_Rro, ms_Rro, gA_Rch, ms_Rch, vp_in_nI (show v < 4 by omega) (show 4 < 2 ^ 31 by omega), nI_clamp (show v < 2 ^ 31 by omega), xv.1, yv.1, sp_far2 _ xv.2 yv.2, hb.2.2.1, nI_leI (show dis (x v) (y v) < 2 ^ 31 by omega) (show sp s < 2 ^ 31 by omega), nI_1]
  exact ⟨fun q => hk (by omega), fun q => h8 (by omega)⟩
theorem sp_Rm_pairRule {Post : Int32 → MH → Prop} {s : SG} {mu : Nat → Nat → Int32} (hb : RB s mu) (hw : WF s) {i : Nat} (h0 : 0 < i) (hi : i < 12) (hm : Msk s mu (i - 1)) (hm2 : Msk s mu i) {x y : Nat → Nat} (hx : Row mu 124 x) (hy : Row mu 125 y) {l : Nat → Int64} (hp : Post (nI (pairR s i x y)) (Hm mu l)) : wp_Rm_pairRule Post 113 (nI i) (Hm mu l) := by
  refine ⟨4, ?_⟩
  unfold pairR lpA at hp
  refine pr10_step hb hw h0 hi hx hy (v := 0) (by decide) (fun a => ?_) (fun a => by simp [a] at hp; exact hp)
  refine pr10_step hb hw h0 hi hx hy (v := 1) (by decide) (fun b => ?_) (fun b => by simp [a, b] at hp; exact hp)
  refine pr10_step hb hw h0 hi hx hy (v := 2) (by decide) (fun c => ?_) (fun c => by simp [a, b, c] at hp; exact hp)
  rw [if_neg (by simp [a, b, c])] at hp
  exact ⟨fun _ => sp_pr56 h0 hi hm hm2 hx hy hp, fun q => absurd (by decide) q⟩
def hl0 (s : SG) (x : Nat → Nat) (v : Nat) : Bool := has1 (smI s 0 8) (x v % 12)
def pair0 (s : SG) (x : Nat → Nat) : Nat := if hl0 s x 0 || hl0 s x 1 || hl0 s x 2 then 10 else 0
theorem p0_113 {K56 : Nat → Int32 → Int32 → Int32 → Int32 → Int32 → MH → Prop} {K : Nat → Int32 → Int32 → Int32 → Int32 → Int32 → Int32 → Int32 → Int32 → MH → Prop} {Post : Int32 → MH → Prop} {mu : Nat → Nat → Int32} {l : Nat → Int64} {l3 l4 l6 l7 : Int32} {v u : Nat} (hu : u < 4) (hk : K 113 0 0 l3 l4 (nI v) l6 l7 (nI (u + 1)) (Hm mu l)) : wb_Rm_pairRule_113 K56 K Post 113 0 0 l3 l4 (nI v) l6 l7 (nI u) (Hm mu l) := by
  unfold wb_Rm_pairRule_113 wp_Rm_pairRule_138 wp_Rm_pairRule_142 wp_Rm_pairRule_143
  refine ⟨fun h => absurd h (nI_ge hu (by decide)), fun _ => ⟨fun h => absurd rfl h, fun _ => ⟨fun _ => ?_, fun h => absurd (by decide) h⟩⟩⟩
  rw [nI_1]; exact hk
theorem p0_190 {K56 : Nat → Int32 → Int32 → Int32 → Int32 → Int32 → MH → Prop} {Post : Int32 → MH → Prop} {mu : Nat → Nat → Int32} {l : Nat → Int64} {y0 l6 l7 : Int32} {v : Nat} (hv : v < 3) (hk : K56 113 0 0 y0 0 (nI (v + 1)) (Hm mu l)) : wp_Rm_pairRule_190 K56 Post 113 0 0 0 (nI v) l6 l7 y0 (Hm mu l) := by
  unfold wp_Rm_pairRule_190 wp_Rm_pairRule_233 wp_Rm_pairRule_263 wp_Rm_pairRule_267 wp_Rm_pairRule_268
  simp only [Option.some.injEq, Sum.inl.injEq, Sum.inr.injEq, Prod.mk.injEq, and_assoc, exists_eq_left', exists_eq_left, exists_and_left, exists_and_right, exists_eq', exists_eq, forall_eq, forall_eq', true_and, and_true, exists_const, Hm_1, gC_Rm, gF_Rm_0, fs_Rm_0, gF_Rm_1, fs_Rm_1, gF_Rm_2, fs_Rm_2, gF_Rm_3, gF_Rm_4, gF_Rm_5, gF_Rm_6, gF_Rm_7, gF_Rm_8, gF_Rm_9, gF_Rm_10, fs_Rm_10, gF_Rm_11, gF_Rm_12, gF_Rm_13, gF_Rm_14, gF_Rm_15, gF_Rm_16, gF_Rm_17, gF_Rm_18, gF_Rm_19, fs_Rm_19, gF_Rm_20, gF_Rm_21, gF_Rm_22, gF_Rm_23, gF_Rm_24, fs_Rm_24, gF_Rm_25, gA_Rle, ms_Rle, gA_Roc, ms_Roc, gA_Ral, ms_Ral, gA_Rto, ms_Rto, gA_Rlo, ms_Rlo, gA_Rhi, ms_Rhi, gA_Rho, ms_Rho, gA_Rgi, ms_Rgi, gA_Rha, ms_Rha, gA_Ris, ms_Ris, gA_Rno, ms_Rno, gA_Rbe, ms_Rbe, gA_Rtn, ms_Rtn, gA_Rsu, ms_Rsu, gA_Rfa, ms_Rfa, gA_Rpi, ms_Rpi, gA_Rsi, ms_Rsi, gA_Rre, ms_Rre, gL_Rro, ms_Rro, gA_Rch, ms_Rch, vp_in_nI (show v < 4 by omega) (show 4 < 2 ^ 31 by omega), nI_1]
  refine ⟨fun h => absurd trivial h, fun _ => ⟨fun _ => ⟨fun _ => hk, fun h => absurd (by decide) h⟩, fun h => absurd (by decide) h⟩⟩
theorem p0_exit {K56 : Nat → Int32 → Int32 → Int32 → Int32 → Int32 → MH → Prop} {K : Nat → Int32 → Int32 → Int32 → Int32 → Int32 → Int32 → Int32 → Int32 → MH → Prop} {Post : Int32 → MH → Prop} {s : SG} {mu : Nat → Nat → Int32} (hm : Msk s mu 0) {x : Nat → Nat} (hx : Row mu 124 x) {l : Nat → Int64} {h : Bool} {l6 l7 : Int32} {v : Nat} (hv : v < 3) (hk : K56 113 0 0 (bI (h || hl0 s x v)) 0 (nI (v + 1)) (Hm mu l)) : wb_Rm_pairRule_113 K56 K Post 113 0 0 (bI h) 0 (nI v) l6 l7 (nI 4) (Hm mu l) := by
  have xv := hx v (by omega)
  have E : ∀ b : Bool, b = (h || hl0 s x v) → wp_Rm_pairRule_190 K56 Post 113 0 0 0 (nI v) l6 l7 (bI b) (Hm mu l) := fun b e => by rw [e]; exact p0_190 hv hk
  unfold wb_Rm_pairRule_113 wp_Rm_pairRule_185 wp_Rm_pairRule_189
  refine ⟨fun _ => ⟨fun q => E true (by simp [bI_0] at q; simp [q]), fun q => ?_⟩, fun q => absurd (by decide) q⟩
  rw [bI_0] at q
  simp only [Option.some.injEq, Sum.inl.injEq, Sum.inr.injEq, Prod.mk.injEq, and_assoc, exists_eq_left', exists_eq_left, exists_and_left, exists_and_right, exists_eq', exists_eq, forall_eq, forall_eq', true_and, and_true, exists_const, Hm_1, gC_Rm, gF_Rm_0, fs_Rm_0, gF_Rm_1, fs_Rm_1, gF_Rm_2, fs_Rm_2, gF_Rm_3, gF_Rm_4, gF_Rm_5, gF_Rm_6, gF_Rm_7, gF_Rm_8, gF_Rm_9, gF_Rm_10, fs_Rm_10, gF_Rm_11, gF_Rm_12, gF_Rm_13, gF_Rm_14, gF_Rm_15, gF_Rm_16, gF_Rm_17, gF_Rm_18, gF_Rm_19, fs_Rm_19, gF_Rm_20, gF_Rm_21, gF_Rm_22, gF_Rm_23, gF_Rm_24, fs_Rm_24, gF_Rm_25, gA_Rle, ms_Rle, gA_Roc, ms_Roc, gA_Ral, ms_Ral, gA_Rto, ms_Rto, gA_Rlo, ms_Rlo, gA_Rhi, ms_Rhi, gA_Rho, ms_Rho, gA_Rgi, ms_Rgi, gA_Rha, ms_Rha, gA_Ris, ms_Ris, gA_Rno, ms_Rno, gA_Rbe, ms_Rbe, gA_Rtn, ms_Rtn, gA_Rsu, ms_Rsu, gA_Rfa, ms_Rfa, gA_Rpi, ms_Rpi, gA_Rsi, ms_Rsi, gA_Rre, ms_Rre, gL_Rro, ms_Rro, gA_Rch, ms_Rch, vp_in_nI (show v < 4 by omega) (show 4 < 2 ^ 31 by omega), show vp_in 0 12 from (by unfold vp_in; decide), nI_clamp (show v < 2 ^ 31 by omega), show ((0 : Int32)).toNatClampNeg = 0 from rfl, xv.1, hm.1, rem12 (show x v < 2 ^ 31 by omega), sp_Rm_has, bI_0]
  unfold hl0 at E
  refine ⟨fun e => E false (by simp [q, e]), fun e => ⟨fun _ => E true (by simp at e; simp [q, e]), fun z => absurd trivial z⟩⟩
theorem p0_step {K : Nat → Int32 → Int32 → Int32 → Int32 → Int32 → MH → Prop} {Post : Int32 → MH → Prop} {s : SG} {mu : Nat → Nat → Int32} (hm : Msk s mu 0) {x : Nat → Nat} (hx : Row mu 124 x) {l : Nat → Int64} {h : Bool} {v : Nat} (hv : v < 3) (hk : K 113 0 0 (bI (h || hl0 s x v)) 0 (nI (v + 1)) (Hm mu l)) : wb_Rm_pairRule_56 K Post 113 0 0 (bI h) 0 (nI v) (Hm mu l) := by
  unfold wb_Rm_pairRule_56 wp_Rm_pairRule_85 wp_Rm_pairRule_105
  refine ⟨fun q => absurd q (nI_ge hv (by decide)), fun _ => ⟨fun q => absurd rfl q, fun _ => ⟨fun q => absurd q (by decide), fun _ => ⟨fun _ => ?_, fun q => absurd q (by decide)⟩⟩⟩⟩
  intro z hz
  rw [nI_1] at hz
  subst hz
  match v, hv with
  | 0, hv => exact ⟨4, p0_113 (by decide) (p0_113 (by decide) (p0_113 (by decide) (p0_exit hm hx hv hk)))⟩
  | 1, hv => exact ⟨3, p0_113 (by decide) (p0_113 (by decide) (p0_exit hm hx hv hk))⟩
  | 2, hv => exact ⟨2, p0_113 (by decide) (p0_exit hm hx hv hk)⟩
theorem sp_Rm_pair0 {Post : Int32 → MH → Prop} {s : SG} {mu : Nat → Nat → Int32} (hm : Msk s mu 0) {x : Nat → Nat} (hx : Row mu 124 x) {l : Nat → Int64} (hp : Post (nI (pair0 s x)) (Hm mu l)) : wp_Rm_pairRule Post 113 0 (Hm mu l) := by
  refine ⟨1, ⟨fun h => absurd h (by decide), fun _ => ⟨fun _ => ?_, fun h => absurd (by decide) h⟩⟩⟩
  refine ⟨4, p0_step (h := false) (v := 0) hm hx (by decide) (p0_step (v := 1) hm hx (by decide) (p0_step (v := 2) hm hx (by decide) ?_))⟩
  refine ⟨fun _ => ⟨fun _ => ?_, fun h => absurd rfl h⟩, fun q => absurd (by decide) q⟩
  unfold pair0 at hp
  simp only [bI_0, Bool.false_or]
  refine ⟨fun a => ⟨fun _ => ?_, fun h => absurd trivial h⟩, fun a => ?_⟩
  · rw [a] at hp; exact hp
  · simp only [Bool.not_eq_false] at a; rw [a] at hp; exact hp
