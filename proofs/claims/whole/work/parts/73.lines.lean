/-! lines of the plane: counts by their first number that is not 0 -/
def nrm (p : Nat) (u v w : Int) : Prop := (u = 1 ∧ 0 ≤ v ∧ v < p ∧ 0 ≤ w ∧ w < p) ∨ (u = 0 ∧ v = 1 ∧ 0 ≤ w ∧ w < p) ∨ (u = 0 ∧ v = 0 ∧ w = 1)
theorem nrm_c {p n : Nat} (hp : 1 < p) (hn : n < NP p) : nrm p (cX p n) (cY p n) (cZ p n) := by
  have h2 := cY_bd (p := p) (n := n) hp
  have h3 := cZ_bd (p := p) (n := n) hp
  unfold NP at hn
  unfold nrm
  by_cases c1 : n < p * p
  · left
    exact ⟨by unfold cX; rw [if_pos c1], h2.1, h2.2, h3.1, h3.2⟩
  · by_cases c2 : n < p * p + p
    · right; left
      exact ⟨by unfold cX; rw [if_neg c1], by unfold cY; rw [if_neg c1, if_pos c2], h3.1, h3.2⟩
    · right; right
      exact ⟨by unfold cX; rw [if_neg c1], by unfold cY; rw [if_neg c1, if_neg c2], by unfold cZ; rw [if_neg c1, if_neg c2]⟩
theorem one_nz {p : Nat} (hp : PR p) : (1 : Int) % p ≠ 0 := by
  have hp3 := hp.le.1
  rw [Int.emod_eq_of_lt (by omega) (by omega)]; decide
theorem sml_nz {p : Nat} {x : Int} (h0 : 0 ≤ x) (h1 : x < p) (hx : x ≠ 0) : x % p ≠ 0 := by
  rw [Int.emod_eq_of_lt h0 h1]; exact hx
theorem zf_eq {p : Nat} (hp : PR p) {A B C A1 B1 C1 k : Int} (hk : k % p ≠ 0) (hd : B1 * B1 - 4 * A1 * C1 = k * k * (B * B - 4 * A * C))
    (h : (A % p = 0 ∧ B % p = 0 ∧ C % p = 0) ↔ (A1 % p = 0 ∧ B1 % p = 0 ∧ C1 % p = 0)) : zf p A1 B1 C1 = zf p A B C := by
  unfold zf
  by_cases c : A % p = 0 ∧ B % p = 0 ∧ C % p = 0
  · rw [if_pos c, if_pos (h.mp c)]
  · rw [if_neg c, if_neg (fun q => c (h.mpr q)), hd, chi_mul hp, chi_sq hp hk, Int.one_mul]
def lA (a b h u v : Int) : Int := if u = 0 then a else a * v * v + b - h * v
def lB (a f g h u v w : Int) : Int := if u = 0 then (if v = 0 then h else g - h * w) else 2 * a * v * w + f - g * v - h * w
def lC (a b c f g u v w : Int) : Int := if u = 0 then (if v = 0 then b else b * w * w + c - f * w) else a * w * w + c - g * w
theorem meet6 {p : Nat} (hp : PR p) {a b c f g h u v w : Int} (hl : nrm p u v w) :
    ((ct (fun n => decide ((u * cX p n + v * cY p n + w * cZ p n) % p = 0) && decide (q6 a b c f g h (cX p n) (cY p n) (cZ p n) % p = 0)) (NP p) : Nat) : Int) = zf p (lA a b h u v) (lB a f g h u v w) (lC a b c f g u v w) := by
  have one := one_nz hp
  have z0 : (0 : Int) % p = 0 := by simp
  rcases hl with ⟨rfl, v0, v1, w0, w1⟩ | ⟨rfl, rfl, w0, w1⟩ | ⟨rfl, rfl, rfl⟩
  · have eA : lA a b h 1 v = a * v * v + b - h * v := by unfold lA; rw [if_neg (by decide)]
    have eB : lB a f g h 1 v w = 2 * a * v * w + f - g * v - h * w := by unfold lB; rw [if_neg (by decide)]
    have eC : lC a b c f g 1 v w = a * w * w + c - g * w := by unfold lC; rw [if_neg (by decide)]
    rw [eA, eB, eC]
    by_cases cw : w = 0
    · subst cw
      by_cases cv : v = 0
      · subst cv
        rw [meet_u hp one]
        refine zf_eq hp one (by grind) ?_
        rw [show a * 0 * 0 + b - h * 0 = b by grind, show 2 * a * 0 * 0 + f - g * 0 - h * 0 = f by grind, show a * 0 * 0 + c - g * 0 = c by grind]
        constructor
        · rintro ⟨q1, q2, q3⟩; exact ⟨q3, q2, q1⟩
        · rintro ⟨q1, q2, q3⟩; exact ⟨q3, q2, q1⟩
      · have hv := sml_nz v0 v1 cv
        rw [meet_v hp hv]
        refine zf_eq hp hv (by grind) ?_
        rw [show c * v * v = v * v * (a * 0 * 0 + c - g * 0) by grind, show g * v * v - f * 1 * v = (- v) * (2 * a * v * 0 + f - g * v - h * 0) by grind, show a * v * v + b * 1 * 1 - h * 1 * v = a * v * v + b - h * v by grind]
        constructor
        · rintro ⟨q1, q2, q3⟩; exact ⟨z_mulL _ q3, z_mulL _ q2, q1⟩
        · rintro ⟨q1, q2, q3⟩
          exact ⟨q3, (dvd_prime hp q2).elim (fun r => absurd (z_neg.mp r) hv) id, (dvd_prime hp q1).elim (fun r => absurd r (nz_mul hp hv hv)) id⟩
    · have hw := sml_nz w0 w1 cw
      rw [meet_w hp hw]
      refine zf_eq hp hw (by grind) ?_
      have e1 : b * w * w + c * v * v - f * v * w = w * w * (a * v * v + b - h * v) + ((2 * a * v * w + f - g * v - h * w) * (- (w * v)) + (a * w * w + c - g * w) * (v * v)) := by grind
      have e2 : 2 * c * 1 * v - f * 1 * w - g * v * w + h * w * w = (- w) * (2 * a * v * w + f - g * v - h * w) + (a * w * w + c - g * w) * (2 * v) := by grind
      have e3 : a * w * w + c * 1 * 1 - g * 1 * w = a * w * w + c - g * w := by grind
      rw [e1, e2, e3]
      constructor
      · rintro ⟨q1, q2, q3⟩; exact ⟨z_add (z_mulL _ q1) (z_add (z_mulR _ q2) (z_mulR _ q3)), z_add (z_mulL _ q2) (z_mulR _ q3), q3⟩
      · rintro ⟨q1, q2, q3⟩
        have k2 : ((- w) * (2 * a * v * w + f - g * v - h * w)) % p = 0 := by
          have := z_sub q2 (z_mulR (2 * v) q3)
          rwa [Int.add_sub_cancel] at this
        have k3 : (2 * a * v * w + f - g * v - h * w) % p = 0 := (dvd_prime hp k2).elim (fun r => absurd (z_neg.mp r) hw) id
        have k4 : (w * w * (a * v * v + b - h * v)) % p = 0 := by
          have := z_sub q1 (z_add (z_mulR (- (w * v)) k3) (z_mulR (v * v) q3))
          rwa [Int.add_sub_cancel] at this
        exact ⟨(dvd_prime hp k4).elim (fun r => absurd r (nz_mul hp hw hw)) id, k3, q3⟩
  · have eA : lA a b h 0 1 = a := by unfold lA; rw [if_pos rfl]
    have eB : lB a f g h 0 1 w = g - h * w := by unfold lB; rw [if_pos rfl, if_neg (by decide)]
    have eC : lC a b c f g 0 1 w = b * w * w + c - f * w := by unfold lC; rw [if_pos rfl, if_neg (by decide)]
    rw [eA, eB, eC]
    by_cases cw : w = 0
    · subst cw
      rw [meet_v hp one]
      refine zf_eq hp one (by grind) ?_
      rw [show c * 1 * 1 = b * 0 * 0 + c - f * 0 by grind, show g * 1 * 1 - f * 0 * 1 = g - h * 0 by grind, show a * 1 * 1 + b * 0 * 0 - h * 0 * 1 = a by grind]
      constructor
      · rintro ⟨q1, q2, q3⟩; exact ⟨q3, q2, q1⟩
      · rintro ⟨q1, q2, q3⟩; exact ⟨q3, q2, q1⟩
    · have hw := sml_nz w0 w1 cw
      rw [meet_w hp hw]
      refine zf_eq hp hw (by grind) ?_
      rw [show b * w * w + c * 1 * 1 - f * 1 * w = b * w * w + c - f * w by grind, show 2 * c * 0 * 1 - f * 0 * w - g * 1 * w + h * w * w = (-w) * (g - h * w) by grind, show a * w * w + c * 0 * 0 - g * 0 * w = w * w * a by grind]
      constructor
      · rintro ⟨q1, q2, q3⟩; exact ⟨q3, z_mulL _ q2, z_mulL _ q1⟩
      · rintro ⟨q1, q2, q3⟩
        exact ⟨(dvd_prime hp q3).elim (fun r => absurd r (nz_mul hp hw hw)) id, (dvd_prime hp q2).elim (fun r => absurd (z_neg.mp r) hw) id, q1⟩
  · have eA : lA a b h 0 0 = a := by unfold lA; rw [if_pos rfl]
    have eB : lB a f g h 0 0 1 = h := by unfold lB; rw [if_pos rfl, if_pos rfl]
    have eC : lC a b c f g 0 0 1 = b := by unfold lC; rw [if_pos rfl, if_pos rfl]
    rw [eA, eB, eC, meet_w hp one]
    refine zf_eq hp one (by grind) ?_
    rw [show b * 1 * 1 + c * 0 * 0 - f * 0 * 1 = b by grind, show 2 * c * 0 * 0 - f * 0 * 1 - g * 0 * 1 + h * 1 * 1 = h by grind, show a * 1 * 1 + c * 0 * 0 - g * 0 * 1 = a by grind]
    constructor
    · rintro ⟨q1, q2, q3⟩; exact ⟨q3, q2, q1⟩
    · rintro ⟨q1, q2, q3⟩; exact ⟨q3, q2, q1⟩
/-- a line's number: the discriminant along it -/
theorem l_disc {a b c f g h u v w : Int} (hl : u = 1 ∨ (u = 0 ∧ v = 1) ∨ (u = 0 ∧ v = 0 ∧ w = 1)) : lB a f g h u v w * lB a f g h u v w - 4 * lA a b h u v * lC a b c f g u v w = - q6 (4 * b * c - f * f) (4 * a * c - g * g) (4 * a * b - h * h) (2 * (g * h - 2 * a * f)) (2 * (f * h - 2 * b * g)) (2 * (f * g - 2 * c * h)) u v w := by
  unfold lA lB lC q6
  rcases hl with rfl | ⟨rfl, rfl⟩ | ⟨rfl, rfl, rfl⟩
  · rw [if_neg (by decide), if_neg (by decide), if_neg (by decide)]; grind
  · rw [if_pos rfl, if_pos rfl, if_pos rfl, if_neg (by decide), if_neg (by decide)]; grind
  · rw [if_pos rfl, if_pos rfl, if_pos rfl, if_pos rfl, if_pos rfl]; grind
