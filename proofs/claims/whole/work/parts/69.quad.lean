/-! sums of the character over lines of the plane -/
theorem eqm {p x y : Int} : x % p = y % p ↔ (x - y) % p = 0 := Int.emod_eq_emod_iff_emod_sub_eq_zero
theorem PR.two {p : Nat} (hp : PR p) : (2 : Int) % p ≠ 0 := by
  have hp3 := hp.le.1
  rw [Int.emod_eq_of_lt (by omega) (by omega)]; decide
theorem nz_mul {p : Nat} (hp : PR p) {x y : Int} (hx : x % p ≠ 0) (hy : y % p ≠ 0) : (x * y) % p ≠ 0 := fun h => (dvd_prime hp h).elim hx hy
theorem z_mulL {p x : Int} (y : Int) (hx : x % p = 0) : (y * x) % p = 0 := by rw [Int.mul_emod, hx]; simp
theorem z_mulR {p x : Int} (y : Int) (hx : x % p = 0) : (x * y) % p = 0 := by rw [Int.mul_emod, hx]; simp
theorem z_add {p x y : Int} (hx : x % p = 0) (hy : y % p = 0) : (x + y) % p = 0 := by rw [Int.add_emod, hx, hy]; simp
theorem z_sub {p x y : Int} (hx : x % p = 0) (hy : y % p = 0) : (x - y) % p = 0 := by rw [Int.sub_emod, hx, hy]; simp
theorem z_neg {p x : Int} : (-x) % p = 0 ↔ x % p = 0 := by
  constructor
  · intro h; exact Int.emod_eq_zero_of_dvd ((Int.dvd_neg).mp (Int.dvd_of_emod_eq_zero h))
  · intro h; exact Int.emod_eq_zero_of_dvd ((Int.dvd_neg).mpr (Int.dvd_of_emod_eq_zero h))
theorem PR.four {p : Nat} (hp : PR p) : (4 : Int) % p ≠ 0 := nz_mul hp (x := 2) (y := 2) hp.two hp.two
theorem chi4 {p : Nat} (hp : PR p) : chi p 4 = 1 := chi_sq hp (x := 2) hp.two
theorem nsq {p : Nat} (hp : PR p) {x : Int} : (((x % p).toNat * (x % p).toNat % p : Nat) : Int) = x * x % p := by
  have hp3 := hp.le.1
  obtain ⟨u1, u2⟩ := emod_nn (x := x) (p := p) (by omega)
  push_cast
  rw [Int.toNat_of_nonneg u1, ← Int.mul_emod]
theorem ct_quad {p : Nat} (hp : PR p) {A B C : Int} (hA : A % p ≠ 0) : ((ct (fun z => decide ((A * (z * z) + B * z + C) % p = 0)) p : Nat) : Int) = 1 + chi p (B * B - 4 * A * C) := by
  have hp3 := hp.le.1
  have h2 := nz_mul hp hp.two hA
  have h4 := nz_mul hp hp.four hA
  obtain ⟨u1, u2⟩ := emod_nn (x := B * B - 4 * A * C) (p := p) (by omega)
  have h1 := tabQ p (PR_mem hp) ((B * B - 4 * A * C) % p).toNat (by omega)
  rw [ct_sm] at h1
  rw [ct_sm]
  refine Eq.trans (Eq.trans (sm_congr ?_) (sm_aff hp (A := 2 * A) (B := B) h2 (fun u => if (u * u % p == ((B * B - 4 * A * C) % p).toNat) = true then 1 else 0))) h1
  intro z hz
  have e1 := nsq hp (x := 2 * A * z + B)
  have key : (A * ((z : Int) * z) + B * z + C) % p = 0 ↔ ((2 * A * z + B) % p).toNat * ((2 * A * z + B) % p).toNat % p = ((B * B - 4 * A * C) % p).toNat := by
    have e2 : (2 * A * z + B) * (2 * A * z + B) - (B * B - 4 * A * C) = 4 * A * (A * ((z : Int) * z) + B * z + C) := by grind
    constructor
    · intro h
      have h5 : ((2 * A * z + B) * (2 * A * z + B)) % p = (B * B - 4 * A * C) % p := eqm.mpr (by rw [e2]; exact z_mulL _ h)
      omega
    · intro h
      have h5 : ((2 * A * z + B) * (2 * A * z + B)) % p = (B * B - 4 * A * C) % p := by omega
      have h6 := eqm.mp h5
      rw [e2] at h6
      exact (dvd_prime hp h6).elim (fun q => absurd q h4) id
  by_cases c : (A * ((z : Int) * z) + B * z + C) % p = 0
  · have c2 := key.mp c
    simp [c, c2]
  · have c2 : ¬ (((2 * A * z + B) % p).toNat * ((2 * A * z + B) % p).toNat % p = ((B * B - 4 * A * C) % p).toNat) := fun q => c (key.mpr q)
    simp [c, c2]
theorem sm_quad {p : Nat} (hp : PR p) {A B C : Int} (hA : A % p ≠ 0) : sm (fun z => chi p (A * (z * z) + B * z + C)) p = if (B * B - 4 * A * C) % p = 0 then (p - 1) * chi p A else - chi p A := by
  have hp3 := hp.le.1
  have h2 := nz_mul hp hp.two hA
  obtain ⟨u1, u2⟩ := emod_nn (x := B * B - 4 * A * C) (p := p) (by omega)
  have h1 := tabU p (PR_mem hp) ((B * B - 4 * A * C) % p).toNat (by omega)
  have hcc : chi p A * chi p A = 1 := by rw [← chi_mul hp]; exact chi_sq hp hA
  have h3 := sm_aff hp (A := 2 * A) (B := B) h2 (fun u => chi p A * chZ p ((u * u + (p - ((B * B - 4 * A * C) % p).toNat)) % p))
  rw [sm_mulL (n := p) (F := fun u => chZ p ((u * u + (p - ((B * B - 4 * A * C) % p).toNat)) % p)), h1] at h3
  refine Eq.trans (Eq.trans (sm_congr ?_) h3) ?_
  · intro z hz
    have e1 := nsq hp (x := 2 * A * z + B)
    have e2 : (2 * A * z + B) * (2 * A * z + B) - (B * B - 4 * A * C) = 4 * A * (A * ((z : Int) * z) + B * z + C) := by grind
    have e3 : (((((2 * A * z + B) % p).toNat * ((2 * A * z + B) % p).toNat + (p - ((B * B - 4 * A * C) % p).toNat)) % p : Nat) : Int) = (4 * A * (A * ((z : Int) * z) + B * z + C)) % p := by
      rw [← e2]
      obtain ⟨v1, v2⟩ := emod_nn (x := 2 * A * z + B) (p := p) (by omega)
      rw [Int.natCast_emod, Int.natCast_add, Int.natCast_sub (by omega), Int.natCast_mul, Int.toNat_of_nonneg u1, Int.toNat_of_nonneg v1]
      refine eqm.mpr ?_
      have e4 : (2 * A * z + B) % p * ((2 * A * z + B) % p) + (p - (B * B - 4 * A * C) % p) - ((2 * A * z + B) * (2 * A * z + B) - (B * B - 4 * A * C)) = p + ((2 * A * z + B) % p * ((2 * A * z + B) % p) - (2 * A * z + B) * (2 * A * z + B)) - ((B * B - 4 * A * C) % p - (B * B - 4 * A * C)) := by grind
      rw [e4]
      refine z_sub (z_add (by simp) (eqm.mp ?_)) (eqm.mp (Int.emod_emod_of_dvd _ (Int.dvd_refl _)))
      rw [← Int.mul_emod]
    have e5 : chZ p ((((2 * A * z + B) % p).toNat * ((2 * A * z + B) % p).toNat + (p - ((B * B - 4 * A * C) % p).toNat)) % p) = chi p (4 * A * (A * ((z : Int) * z) + B * z + C)) := by
      unfold chi
      congr 1
      omega
    show _ = chi p A * chZ p _
    rw [e5, chi_mul hp, chi_mul hp 4, chi4 hp, Int.one_mul, ← Int.mul_assoc (chi p A), hcc, Int.one_mul]
  · by_cases c : (B * B - 4 * A * C) % p = 0
    · rw [if_pos (by omega), if_pos c, Int.mul_comm]
    · rw [if_neg (by omega), if_neg c]; grind
theorem sm_lin {p : Nat} (hp : PR p) {A B : Int} (hA : A % p ≠ 0) : sm (fun z => chi p (A * z + B)) p = 0 := by
  refine Eq.trans (Eq.trans (sm_congr ?_) (sm_aff hp (A := A) (B := B) hA (chZ p))) (tab0 p (PR_mem hp))
  intro z hz
  rfl
theorem ct_lin {p : Nat} (hp : PR p) {A B : Int} (hA : A % p ≠ 0) : ct (fun z => decide ((A * z + B) % p = 0)) p = 1 := by
  obtain ⟨z, h1, h2, h3⟩ := lin_root (B := B) hp hA
  have h : ((ct (fun z => decide ((A * z + B) % p = 0)) p : Nat) : Int) = 1 := by
    rw [ct_sm, sm_one (k := z) h1 (fun j hj hne => if_neg (fun q => hne (h3 j hj (of_decide_eq_true q)))), if_pos (decide_eq_true h2)]
  omega
theorem ct_all {P : Nat → Bool} : ∀ {n}, (∀ k, k < n → P k = true) → ct P n = n
  | 0, _ => rfl
  | n + 1, h => by unfold ct; rw [ct_all (fun k hk => h k (by omega)), h n (by omega)]; rfl
theorem ct_non {P : Nat → Bool} : ∀ {n}, (∀ k, k < n → P k = false) → ct P n = 0
  | 0, _ => rfl
  | n + 1, h => by unfold ct; rw [ct_non (fun k hk => h k (by omega)), h n (by omega)]; rfl
theorem ct_add {P : Nat → Bool} {m : Nat} : ∀ {n}, ct P (m + n) = ct P m + ct (fun k => P (m + k)) n
  | 0 => rfl
  | n + 1 => by
    show ct P (m + n) + _ = ct P m + (ct (fun k => P (m + k)) n + _)
    rw [ct_add (n := n), Nat.add_assoc]; rfl
theorem ct_rows {P : Nat → Bool} {p : Nat} : ∀ {q : Nat}, ((ct P (q * p) : Nat) : Int) = sm (fun y => ((ct (fun z => P (y * p + z)) p : Nat) : Int)) q
  | 0 => by rw [Nat.zero_mul]; rfl
  | q + 1 => by
    rw [Nat.succ_mul, ct_add]
    show _ = sm _ q + _
    rw [← ct_rows (q := q)]
    push_cast
    rfl
theorem plane_ct {p : Nat} (hp : PR p) (F : Int → Int → Int → Bool) : ((ct (fun n => F (cX p n) (cY p n) (cZ p n)) (NP p) : Nat) : Int) = sm (fun y => ((ct (fun z => F 1 y z) p : Nat) : Int)) p + ((ct (fun z => F 0 1 z) p : Nat) : Int) + if F 0 0 1 then 1 else 0 := by
  have hp3 := hp.le.1
  unfold NP
  rw [ct_add (n := 1), ct_add (n := p)]
  push_cast
  rw [ct_rows]
  congr 1
  · congr 1
    · apply sm_congr
      intro y hy
      congr 1
      apply ct_congr
      intro z hz
      have h1 : y * p + z < p * p := by
        have := Nat.mul_le_mul_right p (show y + 1 ≤ p by omega)
        rw [Nat.succ_mul] at this; omega
      have h2 : (y * p + z) / p = y := by rw [Nat.mul_comm, Nat.mul_add_div (by omega), Nat.div_eq_of_lt hz]; rfl
      have h3 : (y * p + z) % p = z := by rw [Nat.mul_comm, Nat.mul_add_mod, Nat.mod_eq_of_lt hz]
      unfold cX cY cZ
      rw [if_pos h1, if_pos h1, if_pos h1, h2, h3]
    · congr 1
      apply ct_congr
      intro z hz
      have h1 : ¬ p * p + z < p * p := by omega
      have h2 : p * p + z < p * p + p := by omega
      unfold cX cY cZ
      rw [if_neg h1, if_neg h1, if_neg h1, if_pos h2, if_pos h2, Nat.add_sub_cancel_left]
  · have h1 : ¬ p * p + p + 0 < p * p := by omega
    have h2 : ¬ p * p + p + 0 < p * p + p := by omega
    unfold ct ct cX cY cZ
    rw [if_neg h1, if_neg h1, if_neg h1, if_neg h2, if_neg h2]
    by_cases c : F 0 0 1 = true
    · rw [if_pos c, if_pos c]; rfl
    · rw [if_neg c, if_neg c]; rfl
