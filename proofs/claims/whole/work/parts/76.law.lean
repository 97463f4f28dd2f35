theorem RR.cf {s : SG} {mu m : Nat → Nat → Int32} {l : Nat → Int64} (h : RR s mu l) (f : CF mu m) : RR s m l := by
  unfold RR RB Laid at *
  rw [f 113 (by decide), f 114 (by decide), f 115 (by decide), f 116 (by decide), f 117 (by decide), f 118 (by decide), f 119 (by decide), f 120 (by decide), f 121 (by decide), f 122 (by decide), f 123 (by decide), f 126 (by decide), f 127 (by decide), f 128 (by decide), f 129 (by decide), f 130 (by decide), f 131 (by decide)]
  exact h
theorem RC.sc {t : SG} {mu m : Nat → Nat → Int32} (h : RC t mu) (hw : WF t) (f : SC mu m) : RC t m := h.of hw (fun k h1 _ => f k (by omega))
set_option maxHeartbeats 4000000 in
theorem law18 {L : Nat} {xs : Nat → Int32} (hL : L ≤ 2560) {cn sn2 : Nat} (hc : cn ≤ 600000 ∧ sn2 ≤ 7302250) : ∀ (n k : Nat) (s : SG) (mu : Nat → Nat → Int32) (l : Nat → Int64), L < k + 5 * n + 5 → k ≤ L + 5 → RC s mu → RR s mu l → WF s → wn_Lw_law_18 (L, xs) (n + 1) cn sn2 0 113 (nI k) (Hm mu l) := by
  have lt : ∀ k, k ≤ L + 5 → (nI L - 5 < nI k ↔ L < k + 5) := by
    intro k hk
    rw [show nI L - 5 = iI ((L : Int) - 5) by rw [iI_n, show (5 : Int32) = iI 5 from rfl, iI_sub], iI_n k, iI_lt (by omega) (by omega) (by omega) (by omega)]
    omega
  intro n
  induction n with
  | zero =>
    intro k s mu l h1 h2 hC hR hw
    exact ⟨fun _ => hc, fun e => absurd ((lt k h2).mpr (by omega)) e⟩
  | succ n ih =>
    intro k s mu l h1 h2 hC hR hw
    refine ⟨fun _ => hc, fun e => ?_⟩
    have hk : k + 5 ≤ L := by
      have : ¬ L < k + 5 := fun q => e ((lt k h2).mpr q)
      omega
    have v0 : vp_in (nI k) L := vp_in_nI (by omega) (by omega)
    have v1 : vp_in (nI k + 1) L := by rw [show (1 : Int32) = nI 1 from rfl, nI_add]; exact vp_in_nI (by omega) (by omega)
    have v2 : vp_in (nI k + 2) L := by rw [show (2 : Int32) = nI 2 from rfl, nI_add]; exact vp_in_nI (by omega) (by omega)
    have v3 : vp_in (nI k + 3) L := by rw [show (3 : Int32) = nI 3 from rfl, nI_add]; exact vp_in_nI (by omega) (by omega)
    have v4 : vp_in (nI k + 4) L := by rw [show (4 : Int32) = nI 4 from rfl, nI_add]; exact vp_in_nI (by omega) (by omega)
    have hz := sz_800 hw
    have fin : ∀ (t : SG) (m : Nat → Nat → Int32) (l2 : Nat → Int64), RC t m → RR t m l2 → WF t → wp_Lw_law_718 (wn_Lw_law_18 (L, xs) (n + 1)) (L, xs) cn sn2 0 113 (nI k) (Hm m l2) := by
      intro t m l2 a b c
      unfold wp_Lw_law_718
      rw [show (5 : Int32) = nI 5 from rfl, nI_add]
      exact ih (k + 5) t m l2 (by omega) (by omega) a b c
    refine ⟨v0, fun _ => ?_, fun _ => ?_, fun _ => ?_, fun _ => ?_, fun _ => ?_, fun _ => ?_, fun _ => ?_, fun _ => ?_, fun _ => ?_, fun _ => ?_, fun _ => ?_, fun _ => ?_, fun _ => ?_, fun _ => ?_, fun _ => ?_, fun _ => ?_, fun _ => ?_, fun _ => ?_, fun _ => ?_, fun _ => ?_, fun _ _ _ _ _ _ _ _ _ _ _ _ _ _ _ _ _ _ _ _ => fin s mu l hC hR hw⟩
    · exact ⟨v1, hc, gC_Br mu l, cs_key hC hw _ (fun m1 a1 f1 => ⟨v1, hc, gC_Rm m1 l, rs_key (hR.cf f1) hw _ (fun m2 a2 f2 => ⟨fun _ => fin _ m2 l (a1.sc (wf_key hw _) f2) a2 (wf_key hw _), fun q => absurd rfl q⟩)⟩)⟩
    · exact ⟨v1, v2, v3, hc, gC_Br mu l, cs_chord hC hw _ _ _ (fun m1 a1 f1 => ⟨v1, v2, v3, hc, gC_Rm m1 l, rs_chord (hR.cf f1) hw _ _ _ (fun m2 a2 f2 => ⟨fun _ => fin _ m2 l (a1.sc (wf_chord hw _ _ _) f2) a2 (wf_chord hw _ _ _), fun q => absurd rfl q⟩)⟩)⟩
    · exact ⟨hc, gC_Br mu l, cs_less hC hw  (fun m1 a1 f1 => ⟨hc, gC_Rm m1 l, rs_less (hR.cf f1) hw  (fun m2 a2 f2 => ⟨fun _ => fin _ m2 l (a1.sc (wf_less hw) f2) a2 (wf_less hw), fun q => absurd rfl q⟩)⟩)⟩
    · exact ⟨v1, v2, v3, hc, gC_Br mu l, cs_figure hC hw _ _ _ (fun m1 a1 f1 => ⟨v1, v2, v3, hc, gC_Rm m1 l, rs_figure (hR.cf f1) hw _ _ _ (fun m2 a2 f2 => ⟨fun _ => fin _ m2 l (a1.sc (wf_figure hw _ _ _) f2) a2 (wf_figure hw _ _ _), fun q => absurd rfl q⟩)⟩)⟩
    · exact ⟨v1, hc, gC_Br mu l, cs_plain hC hw _ (fun m1 a1 f1 => ⟨v1, hc, gC_Rm m1 l, rs_plain (hR.cf f1) hw _ (fun m2 a2 f2 => ⟨fun _ => fin _ m2 l (a1.sc (wf_plain hw _) f2) a2 (wf_plain hw _), fun q => absurd rfl q⟩)⟩)⟩
    · exact ⟨v1, v2, v3, hc, gC_Br mu l, cs_range hC hw _ _ _ (fun m1 a1 f1 => ⟨v1, v2, v3, hc, gC_Rm m1 l, rs_range (hR.cf f1) hw _ _ _ (fun m2 a2 f2 => ⟨fun _ => fin _ m2 l (a1.sc (wf_range hw _ _ _) f2) a2 (wf_range hw _ _ _), fun q => absurd rfl q⟩)⟩)⟩
    · exact ⟨v1, v2, hc, gC_Br mu l, cs_home hC hw _ _ (fun m1 a1 f1 => ⟨v1, v2, hc, gC_Rm m1 l, rs_home (hR.cf f1) hw _ _ (fun m2 a2 f2 => ⟨fun _ => fin _ m2 l (a1.sc (wf_home hw _ _) f2) a2 (wf_home hw _ _), fun q => absurd rfl q⟩)⟩)⟩
    · exact ⟨v1, hc, gC_Br mu l, cs_leap hC hw _ (fun m1 a1 f1 => ⟨v1, hc, gC_Rm m1 l, rs_leap (hR.cf f1) hw _ (fun m2 a2 f2 => ⟨fun _ => fin _ m2 l (a1.sc (wf_leap hw _) f2) a2 (wf_leap hw _), fun q => absurd rfl q⟩)⟩)⟩
    · exact ⟨v1, v2, v3, hc, gC_Br mu l, cs_given hC hw _ _ _ (fun m1 a1 f1 => ⟨v1, v2, v3, hc, gC_Rm m1 l, rs_given (hR.cf f1) hw _ _ _ (fun m2 a2 f2 => ⟨fun _ => fin _ m2 l (a1.sc (wf_given hw _ _ _) f2) a2 (wf_given hw _ _ _), fun q => absurd rfl q⟩)⟩)⟩
    · exact ⟨v1, hc, gC_Br mu l, cs_bass hC hw _ (fun m1 a1 f1 => ⟨v1, hc, gC_Rm m1 l, rs_bass (hR.cf f1) hw _ (fun m2 a2 f2 => ⟨fun _ => fin _ m2 l (a1.sc hw f2) a2 hw, fun q => absurd rfl q⟩)⟩)⟩
    · exact ⟨v1, v2, v3, hc, gC_Br mu l, cs_worked hC hw _ _ _ (fun m1 a1 f1 => ⟨v1, v2, v3, hc, gC_Rm m1 l, rs_worked (hR.cf f1) hw _ _ _ (fun m2 a2 f2 => ⟨fun _ => fin _ m2 l (a1.sc hw f2) a2 hw, fun q => absurd rfl q⟩)⟩)⟩
    · exact ⟨v1, hc, gC_Br mu l, cs_voicings hC hw _ (fun m1 a1 f1 => ⟨v1, hc, gC_Rm m1 l, rs_voicings (hR.cf f1) hw hz _ (fun m2 l2 a2 f2 => ⟨fun _ => fin _ m2 l2 (a1.sc hw f2) a2 hw, fun q => absurd rfl q⟩)⟩)⟩
    · exact ⟨v1, v2, v3, hc, gC_Br mu l, cs_voicing hC hw _ _ _ (fun m1 a1 f1 => ⟨v1, v2, v3, hc, gC_Rm m1 l, rs_voicing (hR.cf f1) hw hz _ _ _ (fun m2 l2 a2 f2 => ⟨fun _ => fin _ m2 l2 (a1.sc hw f2) a2 hw, fun q => absurd rfl q⟩)⟩)⟩
    · exact ⟨hc, gC_Br mu l, cs_solve hC hw  (fun m1 a1 f1 => ⟨hc, gC_Rm m1 l, rs_solve (hR.cf f1) hw hz  (fun m2 l2 a2 f2 => ⟨fun _ => fin _ m2 l2 (a1.sc hw f2) a2 hw, fun q => absurd rfl q⟩)⟩)⟩
    · exact ⟨v1, v2, hc, gC_Br mu l, cs_note hC hw _ _ (fun m1 a1 f1 => ⟨v1, v2, hc, gC_Rm m1 l, rs_note (hR.cf f1) hw hz _ _ (fun m2 l2 a2 f2 => ⟨fun _ => fin _ m2 l2 (a1.sc hw f2) a2 hw, fun q => absurd rfl q⟩)⟩)⟩
    · exact ⟨hc, gC_Br mu l, cs_many hC hw  (fun m1 a1 f1 => ⟨hc, gC_Rm m1 l, rs_many (hR.cf f1) hw hz  (fun m2 l2 a2 f2 => ⟨fun _ => fin _ m2 l2 (a1.sc hw f2) a2 hw, fun q => absurd rfl q⟩)⟩)⟩
    · exact ⟨v1, v2, v3, v4, hc, gC_Br mu l, cs_sing hC hw _ _ _ _ (fun m1 a1 f1 => ⟨v1, v2, v3, v4, hc, gC_Rm m1 l, rs_sing (hR.cf f1) hw _ _ _ _ (fun m2 a2 f2 => ⟨fun _ => fin _ m2 l (a1.sc (wf_sing hw _ _ _ _) f2) a2 (wf_sing hw _ _ _ _), fun q => absurd rfl q⟩)⟩)⟩
    · exact ⟨v1, hc, gC_Br mu l, cs_fault hC hw _ (fun m1 a1 f1 => ⟨v1, hc, gC_Rm m1 l, rs_fault (hR.cf f1) hw _ (fun m2 a2 f2 => ⟨fun _ => fin _ m2 l (a1.sc hw f2) a2 hw, fun q => absurd rfl q⟩)⟩)⟩
    · exact ⟨hc, gC_Br mu l, cs_sung hC hw  (fun m1 a1 f1 => ⟨hc, gC_Rm m1 l, rs_sung (hR.cf f1) hw  (fun m2 a2 f2 => ⟨fun _ => fin _ m2 l (a1.sc hw f2) a2 hw, fun q => absurd rfl q⟩)⟩)⟩
    · exact ⟨v1, hc, gC_Br mu l, cs_count hC hw _ (fun m1 a1 f1 => ⟨v1, hc, gC_Rm m1 l, rs_count (hR.cf f1) hw _ (fun m2 a2 f2 => ⟨fun _ => fin _ m2 l (a1.sc hw f2) a2 hw, fun q => absurd rfl q⟩)⟩)⟩
