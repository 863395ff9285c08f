/-! THE CLASS's leaves: inverses, squares, kinds -/
theorem w0 : (0 : Int32) = iI ((0 : Nat) : Int) := rfl
theorem w1 : (1 : Int32) = iI ((1 : Nat) : Int) := rfl
theorem w2 : (2 : Int32) = iI ((2 : Nat) : Int) := rfl
theorem w3 : (3 : Int32) = iI ((3 : Nat) : Int) := rfl
theorem w4 : (4 : Int32) = iI ((4 : Nat) : Int) := rfl
theorem w5 : (5 : Int32) = iI ((5 : Nat) : Int) := rfl
theorem w6 : (6 : Int32) = iI ((6 : Nat) : Int) := rfl
theorem w7 : (7 : Int32) = iI ((7 : Nat) : Int) := rfl
theorem w8 : (8 : Int32) = iI ((8 : Nat) : Int) := rfl
theorem w9 : (9 : Int32) = iI ((9 : Nat) : Int) := rfl
theorem w10 : (10 : Int32) = iI ((10 : Nat) : Int) := rfl
theorem w11 : (11 : Int32) = iI ((11 : Nat) : Int) := rfl
theorem w12 : (12 : Int32) = iI ((12 : Nat) : Int) := rfl
theorem w13 : (13 : Int32) = iI ((13 : Nat) : Int) := rfl
theorem c_inverse {p v : Nat} (hp : PR p) (h1 : 1 ≤ v) (h2 : v < p) : MX2_inverse (iI v) (iI p) = some (iI (iv p v)) := by
  obtain ⟨hp3, hp23⟩ := hp.le
  obtain ⟨k1, k2, k3, k4⟩ := iv_ok hp h1 h2
  generalize hK : iv p v = K at *
  unfold MX2_inverse
  rw [bn_eq]
  have key : ∀ d fuel, d < fuel → ∀ k : Nat, 1 ≤ k → k + d = K → fixN (fun _ => none) (FX2_inverse_2 (iI v) (iI p)) fuel (iI k) = some (iI K) := by
    refine fix_run (Q := fun d (r : Int32 → Option Int32) => ∀ k : Nat, 1 ≤ k → k + d = K → r (iI k) = some (iI K)) ?_ ?_
    · intro r k hk1 hk
      have hkK : k = K := by omega
      subst hkK
      have hb : k * v ≤ 23 * 23 := Nat.mul_le_mul (by omega) (by omega)
      have e : ((k : Int) * (v : Int)) = ((k * v : Nat) : Int) := by push_cast; rfl
      unfold FX2_inverse_2
      rw [if_neg (by rw [iI_leN (by omega) (by omega)]; omega), iI_mul, e, c_rest hp (rgN (by omega)), ob_some, ← Int.natCast_emod, Nat.mul_comm, k3, if_pos (by rfl)]
    · intro d r hr k hk1 hk
      have hb : k * v ≤ 23 * 23 := Nat.mul_le_mul (by omega) (by omega)
      have e : ((k : Int) * (v : Int)) = ((k * v : Nat) : Int) := by push_cast; rfl
      have hne := k4 k (by omega)
      have hlt : v * k % p < p := Nat.mod_lt _ (by omega)
      unfold FX2_inverse_2
      rw [if_neg (by rw [iI_leN (by omega) (by omega)]; omega), iI_mul, e, c_rest hp (rgN (by omega)), ob_some, ← Int.natCast_emod, Nat.mul_comm, if_neg, bn_eq, iI_succ]
      · exact hr (k + 1) (by omega) (by omega)
      · rw [show (1 : Int32) = iI ((1 : Nat) : Int) from rfl, iI_eqN (by omega) (by omega)]
        exact hne
  exact key (K - 1) FU (by unfold FU; omega) 1 (by omega) (by omega)
theorem c_inverse' {p : Nat} {u : Int} (hp : PR p) (h0 : 0 ≤ u) (h1 : u < p) (hu : u ≠ 0) : MX2_inverse (iI u) (iI p) = some (iI (iv p u.toNat)) ∧ 0 ≤ (iv p u.toNat : Int) ∧ (iv p u.toNat : Int) < p := by
  have a := c_inverse (v := u.toNat) hp (by omega) (by omega)
  have b := iv_ok (v := u.toNat) hp (by omega) (by omega)
  rw [show ((u.toNat : Nat) : Int) = u by omega] at a
  exact ⟨a, by omega, by omega⟩
theorem c_numbered {σ : Sto} {t p : Nat} {x y z : Int} (hp : PR p) (ht : Tr σ t x y z) (hx : rg32 x) (hy : rg32 y) (hz : rg32 z) : MX10_numbered σ t (iI p) = some (iI (nb p x y z)) := by
  obtain ⟨hp3, hp23⟩ := hp.le
  obtain ⟨t0, t1, t2⟩ := ht
  obtain ⟨u1, u2⟩ := emod_nn (x := x) (p := p) (by omega)
  obtain ⟨v1, v2⟩ := emod_nn (x := y) (p := p) (by omega)
  obtain ⟨w1, w2⟩ := emod_nn (x := z) (p := p) (by omega)
  have z0 : ∀ u : Int, 0 ≤ u → u < p → (iI u = 0 ↔ u = 0) := fun u a b => iI_z a (by omega)
  have mulr : ∀ a b : Int, 0 ≤ a → a < p → 0 ≤ b → b < p → MX2_rest (iI a * iI b) (iI p) = some (iI (a * b % p)) := by
    intro a b a1 a2 b1 b2
    have hb := bd_mul (a := a) (b := b) (A := 23) (B := 23) ⟨by omega, by omega⟩ ⟨by omega, by omega⟩
    rw [iI_mul, c_rest hp (bd_rg hb (by decide))]
  unfold MX10_numbered nb
  rw [t0, t1, t2, c_rest hp hx, ob_some, bn_eq, c_rest hp hy, ob_some, bn_eq, c_rest hp hz, ob_some, bn_eq]
  by_cases c1 : x % p = 0
  · rw [if_pos ((z0 _ u1 u2).mpr c1), if_pos c1]
    by_cases c2 : y % p = 0
    · rw [if_pos ((z0 _ v1 v2).mpr c2), if_pos c2]
      by_cases c3 : z % p = 0
      · rw [if_pos ((z0 _ w1 w2).mpr c3), if_pos c3]; rfl
      · rw [if_neg (fun h => c3 ((z0 _ w1 w2).mp h)), if_neg c3, iI_mul, iI_add]
    · obtain ⟨i1, i2, i3⟩ := c_inverse' hp v1 v2 c2
      rw [if_neg (fun h => c2 ((z0 _ v1 v2).mp h)), if_neg c2, i1, ob_some, mulr _ _ w1 w2 i2 i3, ob_some, iI_mul, iI_add]
  · obtain ⟨i1, i2, i3⟩ := c_inverse' hp u1 u2 c1
    rw [if_neg (fun h => c1 ((z0 _ u1 u2).mp h)), if_neg c1, i1, ob_some, bn_eq, mulr _ _ v1 v2 i2 i3, ob_some, mulr _ _ w1 w2 i2 i3, ob_some, iI_mul, iI_add]
/-- squares -/
theorem chi_no {p : Nat} (hp : PR p) {v : Int} : chi p v = -1 ↔ ∀ k, k < p → (decide (((k * k % p : Nat) : Int) = v % p)) = false := by
  obtain ⟨hp3, hp23⟩ := hp.le
  obtain ⟨a, b⟩ := emod_nn (x := v) (p := p) (by omega)
  have h := tabQ p (PR_mem hp) (v % p).toNat (by omega)
  have e : ct (fun u => u * u % p == (v % p).toNat) p = ct (fun u => decide (((u * u % p : Nat) : Int) = v % p)) p := ct_congr (fun k _ => by
    by_cases c : ((k * k % p : Nat) : Int) = v % p
    · rw [decide_eq_true c]; simp only [beq_iff_eq]; omega
    · rw [decide_eq_false c]; simp only [beq_eq_false_iff_ne, ne_eq]; omega)
  rw [e] at h
  have hc : chi p v = chZ p (v % p).toNat := rfl
  constructor
  · intro hv
    have : ct (fun u => decide (((u * u % p : Nat) : Int) = v % p)) p = 0 := by omega
    exact fun k hk => ct_z this k hk
  · intro hv
    have : ct (fun u => decide (((u * u % p : Nat) : Int) = v % p)) p = 0 := ct_non hv
    omega
theorem c_square {p : Nat} {v : Int} (hp : PR p) (hv : rg32 v) : MX2_isSquare (iI v) (iI p) = some (if chi p v = -1 then 0 else 1) := by
  obtain ⟨hp3, hp23⟩ := hp.le
  obtain ⟨a, b⟩ := emod_nn (x := v) (p := p) (by omega)
  have hs := chi_no hp (v := v)
  unfold MX2_isSquare
  rw [c_rest hp hv, ob_some, bn_eq, bn_eq]
  refine run_g (S := Unit) (call := fun (g : Int32 → Int32 → Option Int32) _ (k : Nat) => g (iI (v % p)) (iI k)) (N := p) (I := fun k _ => ∀ j, j < k → decide (((j * j % p : Nat) : Int) = v % p) = false) (Post := fun o => o = some (if chi p v = -1 then 0 else 1)) ?_ ?_ (by unfold FU; omega) (k0 := 0) (by omega) (s := ()) (fun j hj => by omega)
  · intro g _ h
    unfold FX2_isSquare_8
    rw [if_pos (by rw [iI_leN (by omega) (by omega)]; omega), if_pos (hs.mpr h)]; exact zr0 _
  · intro g _ k h hk ih
    have hb : k * k ≤ 23 * 23 := Nat.mul_le_mul (by omega) (by omega)
    have hlt : k * k % p < p := Nat.mod_lt _ (by omega)
    have e : ((k : Int) * (k : Int)) = ((k * k : Nat) : Int) := by push_cast; rfl
    show FX2_isSquare_8 (iI v) (iI p) g (iI (v % p)) (iI k) = _
    unfold FX2_isSquare_8
    rw [if_neg (by rw [iI_leN (by omega) (by omega)]; omega), iI_mul, e, c_rest hp (rgN (by omega)), ob_some, ← Int.natCast_emod]
    by_cases c : ((k * k % p : Nat) : Int) = v % p
    · rw [if_pos (by rw [c]), if_neg (fun z => by have := hs.mp z k hk; rw [decide_eq_true c] at this; cases this)]; exact zr1 _
    · rw [if_neg (by rw [iI_eq (rgN (by omega)) ⟨by omega, by omega⟩]; exact c), bn_eq, iI_succ]
      refine ih () (fun j hj => ?_)
      by_cases q : j = k
      · rw [q]; exact decide_eq_false c
      · exact h j (by omega)
theorem c_isZero {σ : Sto} {k : Nat} {v : Nat → Int} (h : FI σ k v) (hb : ∀ i, i < 6 → rg32 (v i)) : MX3_isZero σ k = some (if v 0 = 0 ∧ v 1 = 0 ∧ v 2 = 0 ∧ v 3 = 0 ∧ v 4 = 0 ∧ v 5 = 0 then 1 else 0) := by
  have z : ∀ i, i < 6 → (σ k i = 0 ↔ v i = 0) := fun i hi => by rw [h i hi, show (0 : Int32) = iI 0 from rfl, iI_eq (hb i hi) ⟨by omega, by omega⟩]
  unfold MX3_isZero
  simp only [z 0 (by omega), z 1 (by omega), z 2 (by omega), z 3 (by omega), z 4 (by omega), z 5 (by omega), zr0, zr1]
  by_cases c0 : v 0 = 0 <;> by_cases c1 : v 1 = 0 <;> by_cases c2 : v 2 = 0 <;> by_cases c3 : v 3 = 0 <;> by_cases c4 : v 4 = 0 <;> by_cases c5 : v 5 = 0 <;> simp [c0, c1, c2, c3, c4, c5]
def fe (m : Nat → Int) : Int := 8 * m 0 * m 1 * m 2 + 2 * m 3 * m 4 * m 5 - 2 * m 0 * m 3 * m 3 - 2 * m 1 * m 4 * m 4 - 2 * m 2 * m 5 * m 5
theorem fe_eq {m : Nat → Int} : fe m = e6m m := rfl
theorem c_e {σ : Sto} {k : Nat} {m : Nat → Int} (h : FI σ k m) : MX3_e σ k = some (iI (fe m)) := by
  unfold MX3_e fe
  simp only [h 0 (by omega), h 1 (by omega), h 2 (by omega), h 3 (by omega), h 4 (by omega), h 5 (by omega), i2, i8, iI_mul, iI_add, iI_sub]
theorem c_d {σ : Sto} {k : Nat} {m : Nat → Int} (h : FI σ k m) : MX3_d σ k = some (iI (4 * m 0 * m 1 - m 5 * m 5)) := by
  unfold MX3_d
  simp only [h 0 (by omega), h 1 (by omega), h 5 (by omega), i4, iI_mul, iI_sub]
theorem c_i {σ : Sto} {k : Nat} {m : Nat → Int} (h : FI σ k m) : MX3_i σ k = some (iI (4 * m 1 * m 2 - m 3 * m 3 + 4 * m 0 * m 2 - m 4 * m 4)) := by
  unfold MX3_i
  simp only [h 0 (by omega), h 1 (by omega), h 2 (by omega), h 3 (by omega), h 4 (by omega), i4, iI_mul, iI_add, iI_sub]
theorem fe_bd {m : Nat → Int} {B : Nat} (h0 : bd (m 0) B) (hm1 : bd (m 1) B) (hm2 : bd (m 2) B) (hm3 : bd (m 3) B) (h4 : bd (m 4) B) (h5 : bd (m 5) B) : bd (fe m) (8 * B * B * B + 2 * B * B * B + 2 * B * B * B + 2 * B * B * B + 2 * B * B * B) := (bd_sub (bd_sub (bd_sub (bd_add (bd_mul (bd_mul (bd_mul (bd_lit 8) h0) hm1) hm2) (bd_mul (bd_mul (bd_mul (bd_lit 2) hm3) h4) h5)) (bd_mul (bd_mul (bd_mul (bd_lit 2) h0) hm3) hm3)) (bd_mul (bd_mul (bd_mul (bd_lit 2) hm1) h4) h4)) (bd_mul (bd_mul (bd_mul (bd_lit 2) hm2) h5) h5))
theorem c_side {σ : Sto} {ρ : Rho} {k p : Nat} {m : Nat → Int} (hk : ρ k 0 = some (k + 1)) (hp : PR p) (h : Cv σ k p m) : MX0_sideMinor σ ρ k = some (iI (sdm p m)) := by
  have hp3 := hp.le
  obtain ⟨h1, h2, h3⟩ := h
  have h0 := b23 hp (h3 0 (by omega)); have hm1 := b23 hp (h3 1 (by omega)); have hm2 := b23 hp (h3 2 (by omega)); have hm3 := b23 hp (h3 3 (by omega)); have h4 := b23 hp (h3 4 (by omega)); have h5 := b23 hp (h3 5 (by omega))
  have z0 : ∀ u : Int, (iI (u % p) = 0 ↔ u % p = 0) := fun u => iI_z (emod_nn (by omega)).1 (by have := (emod_nn (x := u) (p := p) (by omega)).2; omega)
  unfold MX0_sideMinor sdm
  simp only [hk, ↓ob_some, h1, h2 0 (by omega), h2 1 (by omega), h2 2 (by omega), h2 3 (by omega), h2 4 (by omega), i4, iI_mul, iI_sub]
  rw [c_rest hp (bd_rg (bd_sub (bd_mul (bd_mul (bd_lit 4) hm1) hm2) (bd_mul hm3 hm3)) (by decide)), ob_some, bn_eq]
  by_cases c1 : (4 * m 1 * m 2 - m 3 * m 3) % p = 0
  · rw [if_pos ((z0 _).mpr c1), if_neg (fun z => z c1), c_rest hp (bd_rg (bd_sub (bd_mul (bd_mul (bd_lit 4) h0) hm2) (bd_mul h4 h4)) (by decide)), ob_some, bn_eq]
    by_cases c2 : (4 * m 0 * m 2 - m 4 * m 4) % p = 0
    · rw [if_pos ((z0 _).mpr c2), if_neg (fun z => z c2), c_d h2, ob_some, c_rest hp (bd_rg (bd_sub (bd_mul (bd_mul (bd_lit 4) h0) hm1) (bd_mul h5 h5)) (by decide)), ob_some]
    · rw [if_neg (fun h => c2 ((z0 _).mp h)), if_pos c2]
  · rw [if_neg (fun h => c1 ((z0 _).mp h)), if_pos c1]
theorem sdm_nn {p : Nat} {m : Nat → Int} (hp : PR p) : 0 ≤ sdm p m ∧ sdm p m < p := by
  have hp3 := hp.le
  unfold sdm
  split
  · exact emod_nn (by omega)
  · split <;> exact emod_nn (by omega)
theorem sml_mod {p : Nat} {x : Int} (h : 0 ≤ x ∧ x < p) : x % p = x := Int.emod_eq_of_lt h.1 h.2
theorem c_rank {σ : Sto} {ρ : Rho} {k p : Nat} {m : Nat → Int} (hk : ρ k 0 = some (k + 1)) (hp : PR p) (h : Cv σ k p m) : MX0_rank σ ρ k = some (iI (rkm p m : Nat)) := by
  have hp3 := hp.le
  obtain ⟨h1, h2, h3⟩ := id h
  have h0 := b23 hp (h3 0 (by omega)); have hm1 := b23 hp (h3 1 (by omega)); have hm2 := b23 hp (h3 2 (by omega)); have hm3 := b23 hp (h3 3 (by omega)); have h4 := b23 hp (h3 4 (by omega)); have h5 := b23 hp (h3 5 (by omega))
  have z0 : ∀ u : Int, (iI (u % p) = 0 ↔ u % p = 0) := fun u => iI_z (emod_nn (by omega)).1 (by have := (emod_nn (x := u) (p := p) (by omega)).2; omega)
  unfold MX0_rank rkm
  rw [hk, ob_some, c_isZero h2 (fun i hi => bd_rg (b23 hp (h3 i hi)) (by decide)), ob_some, sml_mod (h3 0 (by omega)), sml_mod (h3 1 (by omega)), sml_mod (h3 2 (by omega)), sml_mod (h3 3 (by omega)), sml_mod (h3 4 (by omega)), sml_mod (h3 5 (by omega))]
  by_cases c : m 0 = 0 ∧ m 1 = 0 ∧ m 2 = 0 ∧ m 3 = 0 ∧ m 4 = 0 ∧ m 5 = 0
  · rw [if_pos c, if_neg ne10, if_pos c]; rfl
  · rw [if_neg c, if_pos rfl, if_neg c, ob_some, c_e h2, ob_some, h1, c_rest hp (bd_rg (fe_bd h0 hm1 hm2 hm3 h4 h5) (by decide)), ob_some, fe_eq]
    by_cases c2 : e6m m % p = 0
    · rw [if_pos ((z0 _).mpr c2), if_neg (fun z => z c2), c_side hk hp h, ob_some]
      have hs := sdm_nn (m := m) hp
      by_cases c3 : sdm p m = 0
      · rw [if_pos ((iI_z hs.1 (by omega)).mpr c3), if_neg (fun z => z c3)]; rfl
      · rw [if_neg (fun z => c3 ((iI_z hs.1 (by omega)).mp z)), if_pos c3]; rfl
    · rw [if_neg (fun h => c2 ((z0 _).mp h)), if_pos c2]; rfl
theorem chi_mod {p : Nat} {x : Int} : chi p (x % p) = chi p x := by
  apply chi_congr; exact Int.emod_emod_of_dvd x (Int.dvd_refl p)
theorem chi_sdm {p : Nat} {m : Nat → Int} : chi p (-(sdm p m)) = dlm p m := by
  have n1 : ((m 3 * m 3 - 4 * m 1 * m 2) % p = 0) ↔ ((4 * m 1 * m 2 - m 3 * m 3) % p = 0) := ⟨fun z => z_of (z_neg.mpr z) (by grind), fun z => z_of (z_neg.mpr z) (by grind)⟩
  have n2 : ((m 4 * m 4 - 4 * m 0 * m 2) % p = 0) ↔ ((4 * m 0 * m 2 - m 4 * m 4) % p = 0) := ⟨fun z => z_of (z_neg.mpr z) (by grind), fun z => z_of (z_neg.mpr z) (by grind)⟩
  unfold sdm dlm dl
  simp only [ne_eq, n1, n2]
  by_cases c1 : (4 * m 1 * m 2 - m 3 * m 3) % p = 0
  · by_cases c2 : (4 * m 0 * m 2 - m 4 * m 4) % p = 0
    · simp only [c1, c2, not_true, if_false]
      refine chi_congr (eqm.mpr (z_of (z_neg.mpr (em_sub (p := (p : Int)) (x := 4 * m 0 * m 1 - m 5 * m 5))) (by grind)))
    · simp only [c1, c2, not_true, not_false_eq_true, if_false, if_true]
      refine chi_congr (eqm.mpr (z_of (z_neg.mpr (em_sub (p := (p : Int)) (x := 4 * m 0 * m 2 - m 4 * m 4))) (by grind)))
  · simp only [c1, not_false_eq_true, if_true]
    refine chi_congr (eqm.mpr (z_of (z_neg.mpr (em_sub (p := (p : Int)) (x := 4 * m 1 * m 2 - m 3 * m 3))) (by grind)))
theorem c_kind {σ : Sto} {ρ : Rho} {k p : Nat} {m : Nat → Int} (hk : ρ k 0 = some (k + 1)) (hp : PR p) (h : Cv σ k p m) : MX0_kind σ ρ k = some (iI (kdm p m : Nat)) := by
  have hp3 := hp.le
  have hr := rkm_le (p := p) (m := m)
  have hs := sdm_nn (m := m) hp
  unfold MX0_kind kdm
  have q3 : (iI (rkm p m : Nat) = iI ((3 : Nat) : Int)) ↔ rkm p m = 3 := iI_eqN (by omega) (by omega)
  have q1 : (iI (rkm p m : Nat) = iI ((1 : Nat) : Int)) ↔ rkm p m = 1 := iI_eqN (by omega) (by omega)
  have q2 : (iI ((2 : Nat) : Int) ≤ iI (rkm p m : Nat)) ↔ 2 ≤ rkm p m := iI_leN (by omega) (by omega)
  rw [c_rank hk hp h, ob_some, bn_eq, w3, w1, w2]
  simp only [q1, q2, q3]
  by_cases c3 : rkm p m = 3
  · rw [if_pos c3, if_neg (show ¬ rkm p m = 0 by omega), if_neg (show ¬ rkm p m = 1 by omega), if_pos c3]; rfl
  · rw [if_neg c3]
    by_cases c2 : rkm p m = 2
    · rw [if_pos (show 2 ≤ rkm p m by omega), if_neg (show ¬ rkm p m = 0 by omega), if_neg (show ¬ rkm p m = 1 by omega), if_neg c3, c_side hk hp h, ob_some, iI_neg, h.1, c_square hp ⟨by omega, by omega⟩, ob_some, chi_sdm]
      rcases dlm_z hp c2 with d | d
      · rw [d]; rfl
      · rw [d]; rfl
    · rw [if_neg (show ¬ 2 ≤ rkm p m by omega)]
      by_cases c1 : rkm p m = 1
      · rw [if_pos c1, if_neg (show ¬ rkm p m = 0 by omega), if_pos c1]
      · rw [if_neg c1, if_pos (show rkm p m = 0 by omega)]; rfl
def ptsN (p : Nat) (m : Nat → Int) : Nat := if kdm p m = 0 then NP p else if kdm p m = 2 then 2 * p + 1 else if kdm p m = 3 then 1 else p + 1
def lnsN (p : Nat) (m : Nat → Int) : Nat := if kdm p m = 0 then NP p else if kdm p m = 1 then 1 else if kdm p m = 2 then 2 else 0
theorem kdm_rk {p : Nat} {m : Nat → Int} : (kdm p m = 0 ↔ rkm p m = 0) ∧ (kdm p m = 1 ↔ rkm p m = 1) ∧ (kdm p m = 2 ↔ rkm p m = 2 ∧ dlm p m = 1) ∧ (kdm p m = 3 ↔ rkm p m = 2 ∧ dlm p m ≠ 1) := by
  have hr := rkm_le (p := p) (m := m)
  unfold kdm
  by_cases c0 : rkm p m = 0
  · rw [if_pos c0]; omega
  · rw [if_neg c0]
    by_cases c1 : rkm p m = 1
    · rw [if_pos c1]; omega
    · rw [if_neg c1]
      by_cases c3 : rkm p m = 3
      · rw [if_pos c3]; omega
      · rw [if_neg c3]
        by_cases d : dlm p m = 1
        · rw [if_pos d]; omega
        · rw [if_neg d]; omega
theorem rk1_dl {p : Nat} {m : Nat → Int} (hp : PR p) (h : rkm p m = 1) : e6m m % p = 0 ∧ dlm p m = 0 := by
  have h0 : ¬ zm p m := fun z => by rw [rkm_0.mpr z] at h; omega
  have he : e6m m % p = 0 := Classical.byContradiction fun z => by rw [rkm_3'.mpr z] at h; omega
  refine ⟨he, ?_⟩
  have hs : sdm p m = 0 := by
    refine Classical.byContradiction fun z => ?_
    unfold rkm at h
    rw [if_neg (show ¬ (m 0 % p = 0 ∧ m 1 % p = 0 ∧ m 2 % p = 0 ∧ m 3 % p = 0 ∧ m 4 % p = 0 ∧ m 5 % p = 0) from h0), if_neg (fun w => w he), if_pos z] at h
    omega
  unfold sdm at hs
  unfold dlm
  by_cases c1 : (4 * m 1 * m 2 - m 3 * m 3) % p = 0
  · rw [if_neg (fun z => z c1)] at hs
    by_cases c2 : (4 * m 0 * m 2 - m 4 * m 4) % p = 0
    · rw [if_neg (fun z => z c2)] at hs
      exact dl_zero hp (z_of (z_neg.mpr c1) (by grind)) (z_of (z_neg.mpr c2) (by grind)) (z_of (z_neg.mpr hs) (by grind))
    · rw [if_pos c2] at hs; exact absurd hs c2
  · rw [if_pos c1] at hs; exact absurd hs c1
/-- the counts, as the class tells them -/
theorem ptsN_ct {p : Nat} {m : Nat → Int} (hp : PR p) : ct (onB m p) (NP p) = ptsN p m := by
  have hr := rkm_le (p := p) (m := m)
  obtain ⟨k0, k1, k2, k3⟩ := kdm_rk (p := p) (m := m)
  unfold ptsN
  by_cases c0 : rkm p m = 0
  · rw [if_pos (k0.mpr c0), pts_void (rkm_0.mp c0)]
  · have nz : ¬ zm p m := fun z => c0 (rkm_0.mpr z)
    have hc := pts_on hp nz
    rw [if_neg (fun z => c0 (k0.mp z))]
    by_cases c3 : e6m m % p = 0
    · rw [if_pos c3] at hc
      have r3 : rkm p m ≠ 3 := fun z => (rkm_3'.mp z) c3
      by_cases c1 : rkm p m = 1
      · have d := (rk1_dl hp c1).2
        rw [d, Int.mul_zero] at hc
        rw [if_neg (show ¬ kdm p m = 2 by omega), if_neg (show ¬ kdm p m = 3 by omega)]; omega
      · rcases dlm_z hp (show rkm p m = 2 by omega) with d | d <;> rw [d] at hc
        · rw [if_pos (show kdm p m = 2 by omega)]; omega
        · rw [if_neg (show ¬ kdm p m = 2 by omega), if_pos (show kdm p m = 3 by omega)]; omega
    · rw [if_neg c3] at hc
      have r3 := rkm_3'.mpr c3
      rw [if_neg (show ¬ kdm p m = 2 by omega), if_neg (show ¬ kdm p m = 3 by omega)]
      omega
theorem lnsN_ct {p : Nat} {m : Nat → Int} (hp : PR p) : ct (allB m p) (NP p) = lnsN p m := by
  have hr := rkm_le (p := p) (m := m)
  obtain ⟨k0, k1, k2, k3⟩ := kdm_rk (p := p) (m := m)
  unfold lnsN
  by_cases c0 : rkm p m = 0
  · rw [if_pos (k0.mpr c0), lines_void hp (rkm_0.mp c0)]
  · have nz : ¬ zm p m := fun z => c0 (rkm_0.mpr z)
    have hc := lines_on hp nz
    rw [if_neg (fun z => c0 (k0.mp z))]
    by_cases c3 : e6m m % p = 0
    · rw [if_pos c3] at hc
      have r3 : rkm p m ≠ 3 := fun z => (rkm_3'.mp z) c3
      by_cases c1 : rkm p m = 1
      · have d := (rk1_dl hp c1).2
        rw [d] at hc
        rw [if_pos (show kdm p m = 1 by omega)]; omega
      · rcases dlm_z hp (show rkm p m = 2 by omega) with d | d <;> rw [d] at hc
        · rw [if_neg (show ¬ kdm p m = 1 by omega), if_pos (show kdm p m = 2 by omega)]; omega
        · rw [if_neg (show ¬ kdm p m = 1 by omega), if_neg (show ¬ kdm p m = 2 by omega)]; omega
    · rw [if_neg c3] at hc
      have r3 := rkm_3'.mpr c3
      rw [if_neg (show ¬ kdm p m = 1 by omega), if_neg (show ¬ kdm p m = 2 by omega)]
      omega
theorem c_curvePoints {σ : Sto} {ρ : Rho} {k p : Nat} {m : Nat → Int} (hk : ρ k 0 = some (k + 1)) (hp : PR p) (h : Cv σ k p m) : MX0_points σ ρ k = some (iI (ptsN p m : Nat)) := by
  have hp3 := hp.le
  have hl := kdm_le (p := p) (m := m)
  have q0 : (iI (kdm p m : Nat) = iI ((0 : Nat) : Int)) ↔ kdm p m = 0 := iI_eqN (by omega) (by omega)
  have q1 : (iI (kdm p m : Nat) = iI ((1 : Nat) : Int)) ↔ kdm p m = 1 := iI_eqN (by omega) (by omega)
  have q2 : (iI (kdm p m : Nat) = iI ((2 : Nat) : Int)) ↔ kdm p m = 2 := iI_eqN (by omega) (by omega)
  have q3 : (iI (kdm p m : Nat) = iI ((3 : Nat) : Int)) ↔ kdm p m = 3 := iI_eqN (by omega) (by omega)
  unfold MX0_points ptsN BX0_points_55
  rw [c_kind hk hp h, ob_some, h.1, w0, w1, w2, w3, iI_add, iI_mul, iI_add]
  simp only [q0, q1, q2, q3]
  by_cases c0 : kdm p m = 0
  · rw [if_pos c0, if_pos c0, c_points, ob_some]
  · rw [if_neg c0, if_neg c0]
    by_cases c1 : kdm p m = 1
    · rw [if_pos c1, if_neg (show ¬ kdm p m = 2 by omega), if_neg (show ¬ kdm p m = 3 by omega)]; rfl
    · rw [if_neg c1]
      by_cases c2 : kdm p m = 2
      · rw [if_pos c2, if_pos c2]; rfl
      · rw [if_neg c2, if_neg c2]
        by_cases c3 : kdm p m = 3
        · rw [if_pos c3, if_pos c3]
        · rw [if_neg c3, if_neg c3]; rfl
theorem c_curveLines {σ : Sto} {ρ : Rho} {k p : Nat} {m : Nat → Int} (hk : ρ k 0 = some (k + 1)) (hp : PR p) (h : Cv σ k p m) : MX0_lines σ ρ k = some (iI (lnsN p m : Nat)) := by
  have hp3 := hp.le
  have hl := kdm_le (p := p) (m := m)
  have q0 : (iI (kdm p m : Nat) = iI ((0 : Nat) : Int)) ↔ kdm p m = 0 := iI_eqN (by omega) (by omega)
  have q1 : (iI (kdm p m : Nat) = iI ((1 : Nat) : Int)) ↔ kdm p m = 1 := iI_eqN (by omega) (by omega)
  have q2 : (iI (kdm p m : Nat) = iI ((2 : Nat) : Int)) ↔ kdm p m = 2 := iI_eqN (by omega) (by omega)
  unfold MX0_lines lnsN
  rw [c_kind hk hp h, ob_some, h.1, w0, w1, w2]
  simp only [q0, q1, q2]
  by_cases c0 : kdm p m = 0
  · rw [if_pos c0, if_pos c0, c_points, ob_some]
  · rw [if_neg c0, if_neg c0]
    by_cases c1 : kdm p m = 1
    · rw [if_pos c1, if_pos c1]
    · rw [if_neg c1, if_neg c1]
      by_cases c2 : kdm p m = 2
      · rw [if_pos c2, if_pos c2]
      · rw [if_neg c2, if_neg c2]
