theorem m_rankOf {σ : Sto} {ρ : Rho} {p : Nat} {m : Nat → Int} (hρ : Md ρ) (hp : PR p) (hm : Mm σ p m) : OK (MX12_rankOf σ ρ 92) (fun o => o.1 = iI (rkm p m : Nat) ∧ Fr RX σ o.2) := by
  obtain ⟨hp3, hp23⟩ := hp.le
  have hrp : rg32 (p : Int) := ⟨by omega, by omega⟩
  have h11 := hρ.2.2.2.1
  have h12 := hρ.2.2.2.2.1
  obtain ⟨h7, hv, hb⟩ := hm
  have v0 := hv 0 (by omega); have v1 := hv 1 (by omega); have v2 := hv 2 (by omega); have v3 := hv 3 (by omega); have v4 := hv 4 (by omega); have v5 := hv 5 (by omega)
  have b0 := hb 0 (by omega); have b1 := hb 1 (by omega); have b2 := hb 2 (by omega); have b3 := hb 3 (by omega); have b4 := hb 4 (by omega); have b5 := hb 5 (by omega)
  have R : ∀ i, i < 6 → rmi ((2 : Int32) * σ 96 i) (σ 92 7) = some (iI (2 * m i % p)) := by
    intro i hi
    have bi := hb i hi
    rw [hv i hi, h7, show (2 : Int32) = iI 2 from rfl, iI_mul, rmi_iI ⟨by omega, by omega⟩ hrp (by omega), Int.tmod_eq_emod_of_nonneg (by omega)]
  have r0 := R 0 (by omega); have r1 := R 1 (by omega); have r2 := R 2 (by omega)
  unfold MX12_rankOf
  simp (disch := decide) only [h11, h12, ↓ob_some, ↓oag96_0, ↓oag96_1, ↓oag96_2, ↓oag96_3, ↓oag96_4, ↓oag96_5, ↓oap97_0, ↓oap97_1, ↓oap97_2, ↓oap97_6, ↓oap97_7, ↓oap97_8, ↓oap97_12, ↓oap97_13, ↓oap97_14, su_k, r0, r1, r2]
  refine OK.bi (m_rank (R := 3) (W := 3) (M := M3 p m) hρ hp ?_ (by omega) (by omega) ?_) ?_
  · simp (disch := decide) only [su_k]; exact h7
  · intro r hr c hc
    have e0 := emod_nn (x := 2 * m 0) (p := p) (by omega)
    have e1 := emod_nn (x := 2 * m 1) (p := p) (by omega)
    have e2 := emod_nn (x := 2 * m 2) (p := p) (by omega)
    have hr3 : r = 0 ∨ r = 1 ∨ r = 2 := by omega
    have hc3 : c = 0 ∨ c = 1 ∨ c = 2 := by omega
    rcases hr3 with rfl | rfl | rfl <;> rcases hc3 with rfl | rfl | rfl <;> simp [su, M3, v3, v4, v5, e0, e1, e2, b3, b4, b5]
  · rintro ⟨c, s⟩ ⟨n, M', q1, q2, q3, q4⟩
    refine OK.so ⟨?_, ?_⟩
    · rw [q1, rk3 hp q2]
    · refine Fr.tr (fun k i hk => ?_) q4
      have hk' : ¬ k = 97 := hk
      simp [su, hk']
def QX (k i : Nat) : Prop := PX k i ∨ RX k i
theorem dlm_z {p : Nat} (hp : PR p) {m : Nat → Int} (h : rkm p m = 2) : dlm p m = 1 ∨ dlm p m = -1 := by
  have hs : sdm p m ≠ 0 := by
    unfold rkm at h
    split at h
    · omega
    · split at h
      · omega
      · split at h
        · assumption
        · omega
  unfold sdm at hs
  unfold dlm dl
  by_cases c1 : (4 * m 1 * m 2 - m 3 * m 3) % p = 0
  · rw [if_neg (fun z => z c1)] at hs
    rw [if_neg (fun z => z (z_of (z_neg.mpr c1) (by grind)))]
    by_cases c2 : (4 * m 0 * m 2 - m 4 * m 4) % p = 0
    · rw [if_neg (fun z => z c2)] at hs
      rw [if_neg (fun z => z (z_of (z_neg.mpr c2) (by grind)))]
      exact chi_pm hp (fun z => hs (z_of (z_neg.mpr z) (by grind)))
    · rw [if_pos (fun z => c2 (z_of (z_neg.mpr z) (by grind)))]
      exact chi_pm hp (fun z => c2 (z_of (z_neg.mpr z) (by grind)))
  · rw [if_pos (fun z => c1 (z_of (z_neg.mpr z) (by grind)))]
    exact chi_pm hp (fun z => c1 (z_of (z_neg.mpr z) (by grind)))
theorem rkm_le {p : Nat} {m : Nat → Int} : rkm p m ≤ 3 := by
  unfold rkm
  split
  · omega
  · split
    · omega
    · split <;> omega
theorem kdm_le {p : Nat} {m : Nat → Int} : kdm p m ≤ 4 := by
  unfold kdm
  split
  · omega
  · split
    · omega
    · split
      · omega
      · split <;> omega
theorem rkm_0 {p : Nat} {m : Nat → Int} : rkm p m = 0 ↔ zm p m := by
  unfold rkm zm
  constructor
  · intro h
    split at h
    · assumption
    · split at h
      · omega
      · split at h <;> omega
  · intro h; rw [if_pos h]
theorem rkm_3 {p : Nat} {m : Nat → Int} : rkm p m = 3 ↔ ¬ zm p m ∧ e6m m % p ≠ 0 := by
  unfold rkm zm
  constructor
  · intro h
    split at h
    · omega
    · rename_i h1
      split at h
      · rename_i h2; exact ⟨h1, h2⟩
      · split at h <;> omega
  · rintro ⟨h1, h2⟩; rw [if_neg h1, if_pos h2]
theorem e6_zm {p : Nat} {m : Nat → Int} (h : zm p m) : e6m m % p = 0 := by
  obtain ⟨h0, h1, h2, h3, h4, h5⟩ := h
  unfold e6m e6
  exact z_sub (z_sub (z_sub (z_add (z_mulL _ h2) (z_mulL _ h5)) (z_mulL _ h3)) (z_mulL _ h4)) (z_mulL _ h5)
theorem rkm_3' {p : Nat} {m : Nat → Int} : rkm p m = 3 ↔ e6m m % p ≠ 0 := by
  rw [rkm_3]
  exact ⟨fun h => h.2, fun h => ⟨fun z => h (e6_zm z), h⟩⟩
theorem kdm_4 {p : Nat} {m : Nat → Int} : kdm p m = 4 ↔ e6m m % p ≠ 0 := by
  rw [← rkm_3']
  unfold kdm
  constructor
  · intro h
    split at h
    · omega
    · split at h
      · omega
      · split at h
        · assumption
        · split at h <;> omega
  · intro h; rw [h]; rfl
theorem m_kindOf {σ : Sto} {ρ : Rho} {p : Nat} {m : Nat → Int} (hρ : Md ρ) (hp : PR p) (hm : Mm σ p m) : OK (MX12_kindOf σ ρ 92) (fun o => o.1 = iI (kdm p m : Nat) ∧ Fr QX σ o.2) := by
  have hN := NP_le hp
  have hr := rkm_le (p := p) (m := m)
  unfold MX12_kindOf
  refine OK.bi (m_rankOf hρ hp hm) ?_
  rintro ⟨c, s⟩ ⟨q1, q2⟩
  dsimp only at q1 q2 ⊢
  have q2' : Fr QX σ s := q2.mo (fun k i h => Or.inr h)
  rw [bn_eq, q1, show (0 : Int32) = iI ((0 : Nat) : Int) from rfl, show (1 : Int32) = iI ((1 : Nat) : Int) from rfl, show (3 : Int32) = iI ((3 : Nat) : Int) from rfl]
  unfold kdm
  by_cases c0 : rkm p m = 0
  · rw [if_pos (by rw [c0]), if_pos c0]
    exact OK.so ⟨rfl, q2'⟩
  · rw [if_neg (by rw [iI_eqN (by omega) (by omega)]; exact c0), if_neg c0]
    by_cases c1 : rkm p m = 1
    · rw [if_pos (by rw [c1]), if_pos c1]
      exact OK.so ⟨rfl, q2'⟩
    · rw [if_neg (by rw [iI_eqN (by omega) (by omega)]; exact c1), if_neg c1]
      by_cases c3 : rkm p m = 3
      · rw [if_pos (by rw [c3]), if_pos c3]
        exact OK.so ⟨rfl, q2'⟩
      · rw [if_neg (by rw [iI_eqN (by omega) (by omega)]; exact c3), if_neg c3]
        have c2 : rkm p m = 2 := by omega
        have hm' : Mm s p m := ⟨by rw [q2 92 7 (by unfold RX; decide)]; exact hm.1, fun i hi => by rw [q2 96 i (by unfold RX; decide)]; exact hm.2.1 i hi, hm.2.2⟩
        obtain ⟨s2, e2, f2⟩ := m_linesOn hρ hp hm'
        have hl := ct_le (allB m p) (NP p)
        have nz : ¬ zm p m := fun z => c0 (rkm_0.mpr z)
        have e0 : e6m m % p = 0 := by
          refine Classical.byContradiction fun h => c3 (rkm_3'.mpr h)
        have hln := lines_on hp nz
        rw [if_pos e0] at hln
        rw [e2, ob_some]
        dsimp only
        have f3 : Fr QX σ s2 := q2'.tr (f2.mo (fun k i h => Or.inl h))
        rcases dlm_z hp c2 with d | d
        · rw [if_pos d, if_neg (by rw [iI_leN (by omega) (by omega)]; omega)]
          exact OK.so ⟨rfl, f3⟩
        · rw [if_neg (show ¬ dlm p m = 1 by omega), if_pos (by rw [iI_leN (by omega) (by omega)]; omega)]
          exact OK.so ⟨rfl, f3⟩
