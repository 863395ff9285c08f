/-! THE FIELD: squares, roots of quadratics, sums of signs; small tables over the eight primes -/
def prs : List Nat := [3, 5, 7, 11, 13, 17, 19, 23]
theorem PR_mem {p : Nat} (h : PR p) : p ∈ prs := by unfold PR at h; unfold prs; simp; exact h
def sm (F : Nat → Int) : Nat → Int
  | 0 => 0
  | n + 1 => sm F n + F n
theorem sm_congr {F G : Nat → Int} : ∀ {n}, (∀ k, k < n → F k = G k) → sm F n = sm G n
  | 0, _ => rfl
  | n + 1, h => by unfold sm; rw [sm_congr (fun k hk => h k (by omega)), h n (by omega)]
theorem sm_add {F G : Nat → Int} : ∀ {n}, sm (fun k => F k + G k) n = sm F n + sm G n
  | 0 => rfl
  | n + 1 => by unfold sm; rw [sm_add]; omega
theorem sm_mulL {c : Int} {F : Nat → Int} : ∀ {n}, sm (fun k => c * F k) n = c * sm F n
  | 0 => by simp [sm]
  | n + 1 => by unfold sm; rw [sm_mulL, Int.mul_add]
theorem sm_const {c : Int} : ∀ {n : Nat}, sm (fun _ => c) n = n * c
  | 0 => by simp [sm]
  | n + 1 => by unfold sm; rw [sm_const]; push_cast; rw [Int.add_mul, Int.one_mul]
theorem sm_zero {n : Nat} : sm (fun _ => 0) n = 0 := by rw [sm_const]; simp
theorem sm_swap {F : Nat → Nat → Int} {m : Nat} : ∀ {n}, sm (fun i => sm (fun j => F i j) m) n = sm (fun j => sm (fun i => F i j) n) m
  | 0 => by simp only [sm]; rw [sm_zero]
  | n + 1 => by
    simp only [sm]
    rw [sm_swap, ← sm_add]
theorem ct_sm {P : Nat → Bool} : ∀ {n}, ((ct P n : Nat) : Int) = sm (fun k => if P k then 1 else 0) n
  | 0 => rfl
  | n + 1 => by
    unfold ct sm
    rw [← ct_sm]
    cases P n <;> simp
/-- one term alone -/
theorem sm_one {F : Nat → Int} {k : Nat} : ∀ {n}, k < n → (∀ j, j < n → j ≠ k → F j = 0) → sm F n = F k
  | 0, h, _ => absurd h (Nat.not_lt_zero k)
  | n + 1, h, h2 => by
    unfold sm
    by_cases hk : k = n
    · subst hk
      rw [sm_congr (G := fun _ => 0) (fun j hj => h2 j (by omega) (by omega)), sm_zero]; omega
    · rw [sm_one (n := n) (by omega) (fun j hj hne => h2 j (by omega) hne), h2 n (by omega) (fun q => hk q.symm)]; omega
/-- squares as bits -/
def sqm (p : Nat) : Nat → Nat
  | 0 => 0
  | n + 1 => sqm p n ||| (1 <<< (n * n % p))
def sqN (p r : Nat) : Bool := (sqm p p).testBit r
def chZ (p r : Nat) : Int := if r = 0 then 0 else if sqN p r then 1 else -1
theorem tabP : ∀ p ∈ prs, ∀ x, x < p → ∀ y, y < p → x * y % p = 0 → x = 0 ∨ y = 0 := by decide +kernel
theorem tabM : ∀ p ∈ prs, ∀ x, x < p → ∀ y, y < p → chZ p (x * y % p) = chZ p x * chZ p y := by decide +kernel
theorem tabQ : ∀ p ∈ prs, ∀ D, D < p → ((ct (fun u => u * u % p == D) p : Nat) : Int) = 1 + chZ p D := by decide +kernel
theorem tabU : ∀ p ∈ prs, ∀ D, D < p → sm (fun u => chZ p ((u * u + (p - D)) % p)) p = if D = 0 then (p : Int) - 1 else -1 := by decide +kernel
theorem tab0 : ∀ p ∈ prs, sm (chZ p) p = 0 := by decide +kernel
theorem tabN : ∀ p ∈ prs, chZ p 4 = 1 ∨ p = 3 := by decide +kernel
def chi (p : Nat) (z : Int) : Int := chZ p (z % p).toNat
theorem dvd_prime {p : Nat} (hp : PR p) {x y : Int} (h : x * y % p = 0) : x % p = 0 ∨ y % p = 0 := by
  have hp3 := hp.le.1
  obtain ⟨u1, u2⟩ := emod_nn (x := x) (p := p) (by omega)
  obtain ⟨v1, v2⟩ := emod_nn (x := y) (p := p) (by omega)
  rw [Int.mul_emod] at h
  have h1 := tabP p (PR_mem hp) (x % p).toNat (by omega) (y % p).toNat (by omega) (by
    have e : (((x % p).toNat * (y % p).toNat % p : Nat) : Int) = 0 := by
      push_cast
      rw [Int.toNat_of_nonneg u1, Int.toNat_of_nonneg v1]
      exact h
    omega)
  omega
theorem chi_congr {p : Nat} {x y : Int} (h : x % p = y % p) : chi p x = chi p y := by unfold chi; rw [h]
theorem chi_mul {p : Nat} (hp : PR p) (x y : Int) : chi p (x * y) = chi p x * chi p y := by
  have hp3 := hp.le.1
  obtain ⟨u1, u2⟩ := emod_nn (x := x) (p := p) (by omega)
  obtain ⟨v1, v2⟩ := emod_nn (x := y) (p := p) (by omega)
  have h := tabM p (PR_mem hp) (x % p).toNat (by omega) (y % p).toNat (by omega)
  unfold chi
  rw [← h]
  congr 1
  rw [Int.mul_emod]
  have e : (((x % p).toNat * (y % p).toNat % p : Nat) : Int) = x % p * (y % p) % p := by
    push_cast
    rw [Int.toNat_of_nonneg u1, Int.toNat_of_nonneg v1]
  omega
theorem chi_z {p : Nat} (hp : PR p) {x : Int} : chi p x = 0 ↔ x % p = 0 := by
  have hp3 := hp.le.1
  obtain ⟨u1, u2⟩ := emod_nn (x := x) (p := p) (by omega)
  unfold chi chZ
  by_cases h : (x % p).toNat = 0
  · rw [if_pos h]; constructor
    · intro; omega
    · intro; rfl
  · rw [if_neg h]
    constructor
    · intro h2; split at h2 <;> omega
    · intro h2; exact absurd (by omega) h
theorem chi_pm {p : Nat} (hp : PR p) {x : Int} (h : x % p ≠ 0) : chi p x = 1 ∨ chi p x = -1 := by
  have h1 : chi p x ≠ 0 := fun q => h ((chi_z hp).mp q)
  unfold chi chZ at *
  by_cases h2 : (x % p).toNat = 0
  · rw [if_pos h2] at h1; exact absurd rfl h1
  · rw [if_neg h2]
    by_cases h3 : sqN p (x % p).toNat = true
    · left; rw [if_pos h3]
    · right; rw [if_neg h3]
theorem chi_sq {p : Nat} (hp : PR p) {x : Int} (h : x % p ≠ 0) : chi p (x * x) = 1 := by
  rw [chi_mul hp]
  rcases chi_pm hp h with h | h <;> rw [h] <;> rfl
/-- the one root of a linear form -/
theorem lin_root {p : Nat} (hp : PR p) {A B : Int} (hA : A % p ≠ 0) : ∃ z : Nat, z < p ∧ (A * z + B) % p = 0 ∧ ∀ w : Nat, w < p → (A * w + B) % p = 0 → w = z := by
  have hp3 := hp.le.1
  obtain ⟨u1, u2⟩ := emod_nn (x := A) (p := p) (by omega)
  obtain ⟨i1, i2, i3, -⟩ := iv_ok (v := (A % p).toNat) hp (by omega) (by omega)
  have hi : A * (iv p (A % p).toNat : Int) % p = 1 := by
    rw [Int.mul_emod, Int.emod_eq_of_lt (a := (iv p (A % p).toNat : Int)) (by omega) (by omega)]
    have e : (((A % p).toNat * iv p (A % p).toNat % p : Nat) : Int) = 1 := by rw [i3]; rfl
    push_cast at e
    rw [Int.toNat_of_nonneg u1] at e
    exact e
  generalize (iv p (A % p).toNat : Int) = i at hi
  obtain ⟨w1, w2⟩ := emod_nn (x := -B * i) (p := p) (by omega)
  have uniq : ∀ w z : Nat, w < p → z < p → (A * w + B) % p = 0 → (A * z + B) % p = 0 → w = z := by
    intro w z hw hz h1 h2
    have h3 : (A * ((w : Int) - z)) % p = 0 := by
      have d1 := Int.dvd_of_emod_eq_zero h1
      have d2 := Int.dvd_of_emod_eq_zero h2
      have d3 := Int.dvd_sub d1 d2
      have e : A * (w : Int) + B - (A * z + B) = A * ((w : Int) - z) := by rw [Int.mul_sub]; omega
      rw [e] at d3
      exact Int.emod_eq_zero_of_dvd d3
    rcases dvd_prime hp h3 with h4 | h4
    · exact absurd h4 hA
    · obtain ⟨k, hk⟩ := Int.dvd_of_emod_eq_zero h4
      have hk0 : k = 0 := by
        rcases Int.lt_trichotomy k 0 with q | q | q
        · have : (p : Int) * k ≤ p * (-1) := Int.mul_le_mul_of_nonneg_left (by omega) (by omega)
          omega
        · exact q
        · have : (p : Int) * 1 ≤ p * k := Int.mul_le_mul_of_nonneg_left (by omega) (by omega)
          omega
      rw [hk0] at hk
      omega
  have hz : (A * ((-B * i % p).toNat : Int) + B) % p = 0 := by
    rw [Int.toNat_of_nonneg w1]
    have e1 : (A * (-B * i % p) + B) % p = (A * (-B * i) + B) % p := by
      rw [Int.add_emod, Int.mul_emod, Int.emod_emod_of_dvd _ (Int.dvd_refl _), ← Int.mul_emod, ← Int.add_emod]
    rw [e1]
    have e2 : A * (-B * i) + B = B * (1 - A * i) := by
      rw [Int.mul_sub, Int.mul_one, ← Int.mul_assoc, Int.mul_comm A (-B), Int.mul_assoc, Int.neg_mul]; omega
    rw [e2, Int.mul_emod, Int.sub_emod, hi]
    simp
  refine ⟨(-B * i % p).toNat, by omega, hz, fun w hw h => uniq w _ hw (by omega) h hz⟩
/-- an affine map of the field permutes it -/
theorem sm_aff {p : Nat} (hp : PR p) {A B : Int} (hA : A % p ≠ 0) (F : Nat → Int) : sm (fun z => F ((A * z + B) % p).toNat) p = sm F p := by
  have hp3 := hp.le.1
  have e1 : sm (fun z => F ((A * z + B) % p).toNat) p = sm (fun z => sm (fun u => if ((A * z + B) % p).toNat = u then F u else 0) p) p := by
    apply sm_congr
    intro z hz
    obtain ⟨w1, w2⟩ := emod_nn (x := A * z + B) (p := p) (by omega)
    rw [sm_one (k := ((A * z + B) % p).toNat) (by omega) (fun j _ hj => if_neg (fun q => hj q.symm)), if_pos rfl]
  rw [e1, sm_swap]
  apply sm_congr
  intro u hu
  obtain ⟨z, h1, h2, h3⟩ := lin_root (B := B - u) hp hA
  have key : ∀ w : Nat, ((A * w + B) % p).toNat = u ↔ (A * w + (B - u)) % p = 0 := by
    intro w
    obtain ⟨w1, w2⟩ := emod_nn (x := A * w + B) (p := p) (by omega)
    constructor
    · intro h
      have h4 : (A * w + B) % p = u % p := by rw [Int.emod_eq_of_lt (a := (u : Int)) (by omega) (by omega)]; omega
      have h5 := Int.emod_emod_of_dvd
      have h6 : (A * w + B - u) % p = 0 := Int.emod_eq_zero_of_dvd (Int.dvd_of_emod_eq_zero (by rw [Int.sub_emod, h4]; simp))
      rw [← h6]; congr 1; omega
    · intro h
      have h6 : (A * w + B - u) % p = 0 := by rw [← h]; congr 1; omega
      obtain ⟨k, hk⟩ := Int.dvd_of_emod_eq_zero h6
      have h7 : A * w + B = u + p * k := by omega
      rw [h7, Int.add_mul_emod_self_left, Int.emod_eq_of_lt (by omega) (by omega)]
      omega
  rw [sm_one (k := z) h1 (fun j hj hne => if_neg (fun q => hne (h3 j hj ((key j).mp q)))), if_pos ((key z).mpr h2)]
