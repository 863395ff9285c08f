/-! in how many points a line meets a conic -/
def zf (p : Nat) (A B C : Int) : Int := if A % p = 0 ∧ B % p = 0 ∧ C % p = 0 then p + 1 else 1 + chi p (B * B - 4 * A * C)
theorem ct_zf {p : Nat} (hp : PR p) {A B C : Int} : ((ct (fun z => decide ((A * (z * z) + B * z + C) % p = 0)) p : Nat) : Int) + (if A % p = 0 then 1 else 0) = zf p A B C := by
  unfold zf
  by_cases hA : A % p = 0
  · have s4 : ct (fun y => decide ((A * (y * y) + B * y + C) % p = 0)) p = ct (fun y => decide ((B * y + C) % p = 0)) p := by
      apply ct_congr
      intro y hy
      have : (A * ((y : Nat) * (y : Int)) + B * y + C) % p = (B * y + C) % p := eqm.mpr (by
        have e : A * ((y : Nat) * (y : Int)) + B * y + C - (B * y + C) = A * (y * y) := by grind
        rw [e]; exact z_mulR _ hA)
      rw [this]
    rw [s4, ct_line hp, if_pos hA]
    by_cases hB : B % p = 0
    · rw [if_pos hB]
      by_cases hC : C % p = 0
      · rw [if_pos hC, if_pos ⟨hA, hB, hC⟩]
      · rw [if_neg hC, if_neg (fun q => hC q.2.2), chi0 hp (z_sub (z_mulR _ hB) (by rw [Int.mul_assoc]; exact z_mulL _ (z_mulR _ hA)))]
        rfl
    · rw [if_neg hB, if_neg (fun q => hB q.2.1), chi_congr (y := B * B) (eqm.mpr (by
        rw [show B * B - 4 * A * C - B * B = A * (-4 * C) by grind]; exact z_mulR _ hA)), chi_sq hp hB]
  · rw [if_neg hA, if_neg (fun q => hA q.1), ct_quad hp hA]; omega
theorem ct_one {P R : Nat → Bool} {k : Nat} : ∀ {n}, k < n → P k = true → (∀ j, j < n → P j = true → j = k) → ct (fun j => P j && R j) n = if R k = true then 1 else 0
  | 0, h, _, _ => by omega
  | n + 1, h, h1, h2 => by
    unfold ct
    by_cases q : k = n
    · subst q
      rw [ct_non (fun j hj => by
        by_cases c : P j = true
        · have := h2 j (by omega) c; omega
        · simp [c]), h1]
      simp
    · rw [ct_one (k := k) (by omega) h1 (fun j hj => h2 j (by omega))]
      have : P n = false := by
        by_cases c : P n = true
        · have := h2 n (by omega) c; omega
        · simpa using c
      simp [this]
/-- of the points of a linear condition with one root -/
theorem ct_root {p : Nat} (hp : PR p) {A B : Int} (hA : A % p ≠ 0) (R : Nat → Bool) (v : Int) (hv : ∀ z : Nat, (A * z + B) % p = 0 → (R z = true ↔ v % p = 0)) : ((ct (fun z => decide ((A * z + B) % p = 0) && R z) p : Nat) : Int) = if v % p = 0 then 1 else 0 := by
  obtain ⟨z, h1, h2, h3⟩ := lin_root (B := B) hp hA
  rw [ct_one (P := fun z => decide ((A * z + B) % p = 0)) (k := z) h1 (decide_eq_true h2) (fun j hj q => h3 j hj (of_decide_eq_true q))]
  have := hv z h2
  by_cases c : v % p = 0
  · rw [if_pos c, if_pos (this.mpr c)]; rfl
  · rw [if_neg c, if_neg (fun q => c (this.mp q))]; rfl
/-- a line's count by the three numbers of the conic along it -/
theorem meet_w {p : Nat} (hp : PR p) {a b c f g h u v w : Int} (hw : w % p ≠ 0) :
    ((ct (fun n => decide ((u * cX p n + v * cY p n + w * cZ p n) % p = 0) && decide (q6 a b c f g h (cX p n) (cY p n) (cZ p n) % p = 0)) (NP p) : Nat) : Int) = zf p (b * w * w + c * v * v - f * v * w) (2 * c * u * v - f * u * w - g * v * w + h * w * w) (a * w * w + c * u * u - g * u * w) := by
  have hp3 := hp.le.1
  rw [plane_ct hp (fun x y z => decide ((u * x + v * y + w * z) % p = 0) && decide (q6 a b c f g h x y z % p = 0)), ← ct_zf hp]
  have hww := nz_mul hp hw hw
  have s1 : sm (fun y => ((ct (fun z => decide ((u * 1 + v * y + w * z) % p = 0) && decide (q6 a b c f g h 1 y z % p = 0)) p : Nat) : Int)) p = ((ct (fun y => decide (((b * w * w + c * v * v - f * v * w) * (y * y) + (2 * c * u * v - f * u * w - g * v * w + h * w * w) * y + (a * w * w + c * u * u - g * u * w)) % p = 0)) p : Nat) : Int) := by
    rw [ct_sm]
    apply sm_congr
    intro y hy
    have key := ct_root hp (A := w) (B := u + v * y) hw (fun z => decide (q6 a b c f g h 1 y z % p = 0)) ((b * w * w + c * v * v - f * v * w) * (y * y) + (2 * c * u * v - f * u * w - g * v * w + h * w * w) * y + (a * w * w + c * u * u - g * u * w)) ?_
    · have e : (fun z : Nat => decide ((w * (z : Int) + (u + v * y)) % p = 0) && decide (q6 a b c f g h 1 y z % p = 0)) = (fun z : Nat => decide ((u * 1 + v * y + w * (z : Int)) % p = 0) && decide (q6 a b c f g h 1 y z % p = 0)) := by
        funext z
        rw [show w * (z : Int) + (u + v * y) = u * 1 + v * y + w * z by omega]
      rw [e] at key
      rw [key]
      simp only [decide_eq_true_eq]
    · intro z hz
      rw [decide_eq_true_eq]
      have e : w * w * q6 a b c f g h 1 y z - ((b * w * w + c * v * v - f * v * w) * (y * y) + (2 * c * u * v - f * u * w - g * v * w + h * w * w) * y + (a * w * w + c * u * u - g * u * w)) = (w * z + (u + v * y)) * (c * (w * z - (u + v * y)) + f * w * y + g * w) := by unfold q6; grind
      have e2 : (w * w * q6 a b c f g h 1 y z) % p = ((b * w * w + c * v * v - f * v * w) * (y * y) + (2 * c * u * v - f * u * w - g * v * w + h * w * w) * y + (a * w * w + c * u * u - g * u * w)) % p := eqm.mpr (by rw [e]; exact z_mulR _ hz)
      rw [← e2]
      constructor
      · intro q; exact z_mulL _ q
      · intro q; exact (dvd_prime hp q).elim (fun r => absurd r hww) id
  have s2 : ((ct (fun z => decide ((u * 0 + v * 1 + w * z) % p = 0) && decide (q6 a b c f g h 0 1 z % p = 0)) p : Nat) : Int) = if (b * w * w + c * v * v - f * v * w) % p = 0 then 1 else 0 := by
    have key := ct_root hp (A := w) (B := v) hw (fun z => decide (q6 a b c f g h 0 1 z % p = 0)) (b * w * w + c * v * v - f * v * w) ?_
    · have e : (fun z : Nat => decide ((w * (z : Int) + v) % p = 0) && decide (q6 a b c f g h 0 1 z % p = 0)) = (fun z : Nat => decide ((u * 0 + v * 1 + w * (z : Int)) % p = 0) && decide (q6 a b c f g h 0 1 z % p = 0)) := by
        funext z
        rw [show w * (z : Int) + v = u * 0 + v * 1 + w * z by omega]
      rw [e] at key
      rw [key]
    · intro z hz
      rw [decide_eq_true_eq]
      have e : w * w * q6 a b c f g h 0 1 z - (b * w * w + c * v * v - f * v * w) = (w * z + v) * (c * (w * z - v) + f * w) := by unfold q6; grind
      have e2 : (w * w * q6 a b c f g h 0 1 z) % p = (b * w * w + c * v * v - f * v * w) % p := eqm.mpr (by rw [e]; exact z_mulR _ hz)
      rw [← e2]
      constructor
      · intro q; exact z_mulL _ q
      · intro q; exact (dvd_prime hp q).elim (fun r => absurd r hww) id
  have h3 : (decide ((u * 0 + v * 0 + w * 1) % (p : Int) = 0) && decide (q6 a b c f g h 0 0 1 % p = 0)) = false := by
    rw [show u * 0 + v * 0 + w * 1 = w by omega]
    simp [hw]
  rw [s1, s2, h3]
  simp
theorem meet_v {p : Nat} (hp : PR p) {a b c f g h u v : Int} (hv : v % p ≠ 0) :
    ((ct (fun n => decide ((u * cX p n + v * cY p n + 0 * cZ p n) % p = 0) && decide (q6 a b c f g h (cX p n) (cY p n) (cZ p n) % p = 0)) (NP p) : Nat) : Int) = zf p (c * v * v) (g * v * v - f * u * v) (a * v * v + b * u * u - h * u * v) := by
  have hp3 := hp.le.1
  rw [plane_ct hp (fun x y z => decide ((u * x + v * y + 0 * z) % p = 0) && decide (q6 a b c f g h x y z % p = 0)), ← ct_zf hp]
  have hvv := nz_mul hp hv hv
  obtain ⟨y0, h1, h2, h3⟩ := lin_root (B := u) hp hv
  have s1 : sm (fun y => ((ct (fun z => decide ((u * 1 + v * y + 0 * z) % p = 0) && decide (q6 a b c f g h 1 y z % p = 0)) p : Nat) : Int)) p = ((ct (fun z => decide ((c * v * v * (z * z) + (g * v * v - f * u * v) * z + (a * v * v + b * u * u - h * u * v)) % p = 0)) p : Nat) : Int) := by
    rw [sm_one (k := y0) h1]
    · congr 1
      apply ct_congr
      intro z hz
      rw [show u * 1 + v * y0 + 0 * (z : Int) = v * y0 + u by omega, decide_eq_true h2, Bool.true_and]
      have e : v * v * q6 a b c f g h 1 y0 z - (c * v * v * (z * z) + (g * v * v - f * u * v) * z + (a * v * v + b * u * u - h * u * v)) = (v * y0 + u) * (b * (v * y0 - u) + f * v * z + h * v) := by unfold q6; grind
      have e2 : (v * v * q6 a b c f g h 1 y0 z) % p = (c * v * v * (z * z) + (g * v * v - f * u * v) * z + (a * v * v + b * u * u - h * u * v)) % p := eqm.mpr (by rw [e]; exact z_mulR _ h2)
      rw [← e2]
      by_cases q : q6 a b c f g h 1 y0 z % p = 0
      · rw [decide_eq_true q, decide_eq_true (z_mulL _ q)]
      · rw [decide_eq_false q, decide_eq_false (fun r => q ((dvd_prime hp r).elim (fun r => absurd r hvv) id))]
    · intro j hj hne
      rw [ct_non]; rfl
      intro z hz
      rw [show u * 1 + v * j + 0 * (z : Int) = v * j + u by omega, decide_eq_false (fun q => hne (h3 j hj q)), Bool.false_and]
  have s2 : ((ct (fun z => decide ((u * 0 + v * 1 + 0 * z) % p = 0) && decide (q6 a b c f g h 0 1 z % p = 0)) p : Nat) : Int) = 0 := by
    rw [ct_non]; rfl
    intro z hz
    rw [show u * 0 + v * 1 + 0 * (z : Int) = v by omega, decide_eq_false hv, Bool.false_and]
  rw [s1, s2, show u * 0 + v * 0 + 0 * 1 = (0 : Int) by omega, show q6 a b c f g h 0 0 1 = c by unfold q6; grind]
  have h4 : (c * v * v) % p = 0 ↔ c % p = 0 := by
    constructor
    · intro q; rw [Int.mul_assoc] at q; exact (dvd_prime hp q).elim id (fun r => absurd r hvv)
    · intro q; rw [Int.mul_assoc]; exact z_mulR _ q
  by_cases q : c % p = 0
  · rw [if_pos (h4.mpr q), decide_eq_true q]; simp
  · rw [if_neg (fun r => q (h4.mp r)), decide_eq_false q]; simp
theorem meet_u {p : Nat} (hp : PR p) {a b c f g h u : Int} (hu : u % p ≠ 0) :
    ((ct (fun n => decide ((u * cX p n + 0 * cY p n + 0 * cZ p n) % p = 0) && decide (q6 a b c f g h (cX p n) (cY p n) (cZ p n) % p = 0)) (NP p) : Nat) : Int) = zf p c f b := by
  have hp3 := hp.le.1
  rw [plane_ct hp (fun x y z => decide ((u * x + 0 * y + 0 * z) % p = 0) && decide (q6 a b c f g h x y z % p = 0)), ← ct_zf hp]
  have s1 : sm (fun y => ((ct (fun z => decide ((u * 1 + 0 * y + 0 * z) % p = 0) && decide (q6 a b c f g h 1 y z % p = 0)) p : Nat) : Int)) p = 0 := by
    refine Eq.trans (sm_congr ?_) (sm_zero (n := p))
    intro y hy
    rw [ct_non]; rfl
    intro z hz
    rw [show u * 1 + 0 * (y : Int) + 0 * (z : Int) = u by omega, decide_eq_false hu, Bool.false_and]
  have s2 : ct (fun z => decide ((u * 0 + 0 * 1 + 0 * z) % p = 0) && decide (q6 a b c f g h 0 1 z % p = 0)) p = ct (fun z => decide ((c * (z * z) + f * z + b) % p = 0)) p := by
    apply ct_congr
    intro z hz
    rw [show u * 0 + 0 * 1 + 0 * (z : Int) = 0 by omega, show q6 a b c f g h 0 1 z = c * (z * z) + f * z + b by unfold q6; grind]
    simp
  rw [s1, s2, show u * 0 + 0 * 0 + 0 * 1 = (0 : Int) by omega, show q6 a b c f g h 0 0 1 = c by unfold q6; grind]
  by_cases q : c % p = 0
  · rw [if_pos q, decide_eq_true q]; simp
  · rw [if_neg q, decide_eq_false q]; simp
