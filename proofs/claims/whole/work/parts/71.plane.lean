/-! how many points of the plane lie on a conic -/
def q6 (a b c f g h x y z : Int) : Int := a * x * x + b * y * y + c * z * z + f * y * z + g * z * x + h * x * y
def e6 (a b c f g h : Int) : Int := 8 * a * b * c + 2 * f * g * h - 2 * a * f * f - 2 * b * g * g - 2 * c * h * h
def dl (p : Nat) (a b c f g h : Int) : Int := if (f * f - 4 * b * c) % p ≠ 0 then chi p (f * f - 4 * b * c) else if (g * g - 4 * a * c) % p ≠ 0 then chi p (g * g - 4 * a * c) else chi p (h * h - 4 * a * b)
theorem chi0 {p : Nat} (hp : PR p) {x : Int} (h : x % p = 0) : chi p x = 0 := (chi_z hp).mpr h
theorem ct_line {p : Nat} (hp : PR p) {B C : Int} : ((ct (fun z => decide ((B * z + C) % p = 0)) p : Nat) : Int) = if B % p = 0 then (if C % p = 0 then (p : Int) else 0) else (1 : Int) := by
  by_cases hB : B % p = 0
  · rw [if_pos hB]
    have key : ∀ z : Nat, (B * z + C) % p = 0 ↔ C % p = 0 := by
      intro z
      have : (B * z + C) % p = C % p := eqm.mpr (by rw [Int.add_sub_cancel]; exact z_mulR _ hB)
      rw [this]
    by_cases hC : C % p = 0
    · rw [if_pos hC, ct_all (fun z _ => decide_eq_true ((key z).mpr hC))]
    · rw [if_neg hC, ct_non (fun z _ => decide_eq_false (fun q => hC ((key z).mp q)))]; rfl
  · rw [if_neg hB, ct_lin hp hB]; rfl
theorem pts6 {p : Nat} (hp : PR p) {a b c f g h : Int} (nz : ¬ (a % p = 0 ∧ b % p = 0 ∧ c % p = 0 ∧ f % p = 0 ∧ g % p = 0 ∧ h % p = 0)) :
    ((ct (fun n => decide (q6 a b c f g h (cX p n) (cY p n) (cZ p n) % p = 0)) (NP p) : Nat) : Int) = p + 1 + p * (if e6 a b c f g h % p = 0 then dl p a b c f g h else 0) := by
  have hp3 := hp.le.1
  rw [plane_ct hp (fun x y z => decide (q6 a b c f g h x y z % p = 0))]
  have r3 : q6 a b c f g h 0 0 1 = c := by unfold q6; grind
  simp only [r3]
  by_cases hc : c % p = 0
  · have s1 : sm (fun y => ((ct (fun z => decide (q6 a b c f g h 1 y z % p = 0)) p : Nat) : Int)) p = sm (fun y => if (f * y + g) % p = 0 then (if (b * (y * y) + h * y + a) % p = 0 then (p : Int) else 0) else 1) p := by
      apply sm_congr
      intro y hy
      rw [← ct_line hp]
      congr 1
      apply ct_congr
      intro z hz
      have : q6 a b c f g h 1 y z % p = ((f * y + g) * z + (b * (y * y) + h * y + a)) % p := eqm.mpr (by
        have e : q6 a b c f g h 1 y z - ((f * y + g) * z + (b * (y * y) + h * y + a)) = c * (z * z) := by unfold q6; grind
        rw [e]; exact z_mulR _ hc)
      rw [this]
    have s2 : ((ct (fun z => decide (q6 a b c f g h 0 1 z % p = 0)) p : Nat) : Int) = if f % p = 0 then (if b % p = 0 then (p : Int) else 0) else 1 := by
      rw [← ct_line hp]
      congr 1
      apply ct_congr
      intro z hz
      have : q6 a b c f g h 0 1 z % p = (f * z + b) % p := eqm.mpr (by
        have e : q6 a b c f g h 0 1 z - (f * z + b) = c * (z * z) := by unfold q6; grind
        rw [e]; exact z_mulR _ hc)
      rw [this]
    rw [s1, s2, if_pos (decide_eq_true hc)]
    by_cases hf : f % p = 0
    · rw [if_pos hf]
      have d1 : (f * f - 4 * b * c) % p = 0 := z_sub (z_mulR _ hf) (z_mulL _ hc)
      have hl : ∀ y : Nat, (f * y + g) % p = g % p := fun y => eqm.mpr (by rw [Int.add_sub_cancel]; exact z_mulR _ hf)
      simp only [hl]
      by_cases hg : g % p = 0
      · simp only [hg, if_true]
        have d2 : (g * g - 4 * a * c) % p = 0 := z_sub (z_mulR _ hg) (z_mulL _ hc)
        have de : e6 a b c f g h % p = 0 := by
          have e : e6 a b c f g h = c * (8 * a * b - 2 * h * h) + (f * (2 * g * h - 2 * a * f) + g * (-2 * b * g)) := by unfold e6; grind
          rw [e]; exact z_add (z_mulR _ hc) (z_add (z_mulR _ hf) (z_mulR _ hg))
        rw [if_pos de]
        have hdl : dl p a b c f g h = chi p (h * h - 4 * a * b) := by
          unfold dl
          rw [if_neg (fun q => q d1), if_neg (fun q => q d2)]
        rw [hdl]
        have s3 : sm (fun y => if (b * ((y : Nat) * (y : Int)) + h * y + a) % p = 0 then (p : Int) else 0) p = p * ((ct (fun y => decide ((b * (y * y) + h * y + a) % p = 0)) p : Nat) : Int) := by
          rw [ct_sm, ← sm_mulL]
          apply sm_congr
          intro y hy
          by_cases q : (b * ((y : Nat) * (y : Int)) + h * y + a) % p = 0
          · rw [if_pos q, if_pos (decide_eq_true q), Int.mul_one]
          · rw [if_neg q, if_neg (by rw [decide_eq_true_eq]; exact q), Int.mul_zero]
        rw [s3]
        by_cases hb : b % p = 0
        · rw [if_pos hb]
          have s4 : ct (fun y => decide ((b * (y * y) + h * y + a) % p = 0)) p = ct (fun y => decide ((h * y + a) % p = 0)) p := by
            apply ct_congr
            intro y hy
            have : (b * ((y : Nat) * (y : Int)) + h * y + a) % p = (h * y + a) % p := eqm.mpr (by
              have e : b * ((y : Nat) * (y : Int)) + h * y + a - (h * y + a) = b * (y * y) := by grind
              rw [e]; exact z_mulR _ hb)
            rw [this]
          rw [s4, ct_line hp]
          by_cases hh : h % p = 0
          · have ha : ¬ a % p = 0 := fun q => nz ⟨q, hb, hc, hf, hg, hh⟩
            rw [if_pos hh, if_neg ha, chi0 hp (z_sub (z_mulR _ hh) (z_mulL _ hb))]
            grind
          · rw [if_neg hh, chi_congr (y := h * h) (eqm.mpr (by
              have e : h * h - 4 * a * b - h * h = b * (-4 * a) := by grind
              rw [e]; exact z_mulR _ hb)), chi_sq hp hh]
            grind
        · rw [if_neg hb, ct_quad hp hb, show h * h - 4 * b * a = h * h - 4 * a * b by grind]
          grind
      · simp only [hg, if_false]
        rw [sm_const]
        have d2 : (g * g - 4 * a * c) % p ≠ 0 := by
          intro q
          have : (g * g) % p = 0 := by
            have e : g * g = (g * g - 4 * a * c) + c * (4 * a) := by grind
            rw [e]; exact z_add q (z_mulR _ hc)
          exact (dvd_prime hp this).elim hg hg
        have c2 : chi p (g * g - 4 * a * c) = 1 := by
          rw [chi_congr (y := g * g) (eqm.mpr (by
              have e : g * g - 4 * a * c - g * g = c * (-4 * a) := by grind
              rw [e]; exact z_mulR _ hc)), chi_sq hp hg]
        have de : e6 a b c f g h % p = 0 ↔ b % p = 0 := by
          have e : e6 a b c f g h - (-2 * (g * g)) * b = c * (8 * a * b - 2 * h * h) + (f * (2 * g * h - 2 * a * f)) := by unfold e6; grind
          have e2 : e6 a b c f g h % p = ((-2 * (g * g)) * b) % p := eqm.mpr (by rw [e]; exact z_add (z_mulR _ hc) (z_mulR _ hf))
          rw [e2]
          constructor
          · intro q
            exact (dvd_prime hp q).elim (fun r => absurd r (nz_mul hp (fun r => hp.two (z_neg.mp r)) (nz_mul hp hg hg))) id
          · intro q; exact z_mulL _ q
        have hdl : dl p a b c f g h = 1 := by
          unfold dl
          rw [if_neg (fun q => q d1), if_pos d2, c2]
        rw [hdl]
        by_cases hb : b % p = 0
        · rw [if_pos hb, if_pos (de.mpr hb)]; grind
        · rw [if_neg hb, if_neg (fun q => hb (de.mp q))]; grind
    · rw [if_neg hf]
      obtain ⟨y0, hy0, hr, hu⟩ := lin_root (B := g) hp hf
      have d1 : (f * f - 4 * b * c) % p ≠ 0 := by
        intro q
        have : (f * f) % p = 0 := by
          have e : f * f = (f * f - 4 * b * c) + c * (4 * b) := by grind
          rw [e]; exact z_add q (z_mulR _ hc)
        exact (dvd_prime hp this).elim hf hf
      have c1 : chi p (f * f - 4 * b * c) = 1 := by
        rw [chi_congr (y := f * f) (eqm.mpr (by
            have e : f * f - 4 * b * c - f * f = c * (-4 * b) := by grind
            rw [e]; exact z_mulR _ hc)), chi_sq hp hf]
      have de : e6 a b c f g h % p = 0 ↔ (b * ((y0 : Nat) * (y0 : Int)) + h * y0 + a) % p = 0 := by
        have e : e6 a b c f g h - (-2 * (f * f)) * (b * ((y0 : Nat) * (y0 : Int)) + h * y0 + a) = c * (8 * a * b - 2 * h * h) + (f * y0 + g) * (2 * b * (f * y0 - g) + 2 * f * h) := by unfold e6; grind
        have e2 : e6 a b c f g h % p = ((-2 * (f * f)) * (b * ((y0 : Nat) * (y0 : Int)) + h * y0 + a)) % p := eqm.mpr (by rw [e]; exact z_add (z_mulR _ hc) (z_mulR _ hr))
        rw [e2]
        constructor
        · intro q
          exact (dvd_prime hp q).elim (fun r => absurd r (nz_mul hp (fun r => hp.two (z_neg.mp r)) (nz_mul hp hf hf))) id
        · intro q; exact z_mulL _ q
      have s3 : sm (fun y => if (f * y + g) % p = 0 then (if (b * ((y : Nat) * (y : Int)) + h * y + a) % p = 0 then (p : Int) else 0) else 1) p = sm (fun y => 1 + (if y = y0 then (if (b * ((y0 : Nat) * (y0 : Int)) + h * y0 + a) % p = 0 then (p : Int) else 0) - 1 else 0)) p := by
        apply sm_congr
        intro y hy
        by_cases q : y = y0
        · subst q
          rw [if_pos hr, if_pos rfl]; omega
        · rw [if_neg q, if_neg (fun r => q (hu y hy r))]; rfl
      rw [s3, sm_add, sm_const, sm_one (k := y0) hy0 (fun j _ hj => if_neg hj), if_pos rfl]
      have hdl : dl p a b c f g h = 1 := by
        unfold dl
        rw [if_pos d1, c1]
      rw [hdl]
      by_cases hb : e6 a b c f g h % p = 0
      · rw [if_pos hb, if_pos (de.mp hb)]; grind
      · rw [if_neg hb, if_neg (fun q => hb (de.mpr q))]; grind
  · have s1 : sm (fun y => ((ct (fun z => decide (q6 a b c f g h 1 y z % p = 0)) p : Nat) : Int)) p = sm (fun y => 1 + chi p ((f * f - 4 * b * c) * (y * y) + (2 * f * g - 4 * c * h) * y + (g * g - 4 * a * c))) p := by
      apply sm_congr
      intro y hy
      rw [show (f * f - 4 * b * c) * ((y : Nat) * (y : Int)) + (2 * f * g - 4 * c * h) * y + (g * g - 4 * a * c) = (f * y + g) * (f * y + g) - 4 * c * (b * (y * y) + h * y + a) by grind, ← ct_quad hp hc]
      congr 1
      apply ct_congr
      intro z hz
      rw [show q6 a b c f g h 1 y z = c * (z * z) + (f * y + g) * z + (b * (y * y) + h * y + a) by unfold q6; grind]
    have s2 : ((ct (fun z => decide (q6 a b c f g h 0 1 z % p = 0)) p : Nat) : Int) = 1 + chi p (f * f - 4 * b * c) := by
      rw [show f * f - 4 * b * c = f * f - 4 * c * b by grind, ← ct_quad hp hc]
      congr 1
      apply ct_congr
      intro z hz
      rw [show q6 a b c f g h 0 1 z = c * (z * z) + f * z + b by unfold q6; grind]
    rw [s1, s2, if_neg (by rw [decide_eq_true_eq]; exact hc), sm_add, sm_const]
    have e1 : (2 * f * g - 4 * c * h) * (2 * f * g - 4 * c * h) - 4 * (f * f - 4 * b * c) * (g * g - 4 * a * c) = (4 * (-2) * c) * e6 a b c f g h := by unfold e6; grind
    have h8 : (4 * (-2) * c) % p ≠ 0 := nz_mul hp (nz_mul hp hp.four (fun r => hp.two (z_neg.mp r))) hc
    have e2 : ((2 * f * g - 4 * c * h) * (2 * f * g - 4 * c * h) - 4 * (f * f - 4 * b * c) * (g * g - 4 * a * c)) % p = 0 ↔ e6 a b c f g h % p = 0 := by
      rw [e1]
      constructor
      · intro q; exact (dvd_prime hp q).elim (fun r => absurd r h8) id
      · intro q; exact z_mulL _ q
    by_cases hd : (f * f - 4 * b * c) % p = 0
    · have s3 : sm (fun y => chi p ((f * f - 4 * b * c) * (y * y) + (2 * f * g - 4 * c * h) * y + (g * g - 4 * a * c))) p = sm (fun y => chi p ((2 * f * g - 4 * c * h) * y + (g * g - 4 * a * c))) p := by
        apply sm_congr
        intro y hy
        apply chi_congr
        refine eqm.mpr ?_
        rw [show (f * f - 4 * b * c) * ((y : Nat) * (y : Int)) + (2 * f * g - 4 * c * h) * y + (g * g - 4 * a * c) - ((2 * f * g - 4 * c * h) * y + (g * g - 4 * a * c)) = (f * f - 4 * b * c) * (y * y) by grind]
        exact z_mulR _ hd
      have e3 : (2 * f * g - 4 * c * h) % p = 0 ↔ e6 a b c f g h % p = 0 := by
        rw [← e2]
        constructor
        · intro q; exact z_sub (z_mulR _ q) (by rw [Int.mul_assoc]; exact z_mulL _ (z_mulR _ hd))
        · intro q
          have : ((2 * f * g - 4 * c * h) * (2 * f * g - 4 * c * h)) % p = 0 := by
            have e : (2 * f * g - 4 * c * h) * (2 * f * g - 4 * c * h) = ((2 * f * g - 4 * c * h) * (2 * f * g - 4 * c * h) - 4 * (f * f - 4 * b * c) * (g * g - 4 * a * c)) + (f * f - 4 * b * c) * (4 * (g * g - 4 * a * c)) := by grind
            rw [e]; exact z_add q (z_mulR _ hd)
          exact (dvd_prime hp this).elim id id
      rw [s3, chi0 hp hd]
      by_cases he : e6 a b c f g h % p = 0
      · have hb := e3.mpr he
        rw [if_pos he]
        have s4 : sm (fun y => chi p ((2 * f * g - 4 * c * h) * y + (g * g - 4 * a * c))) p = p * chi p (g * g - 4 * a * c) := by
          rw [← sm_const]
          apply sm_congr
          intro y hy
          exact chi_congr (eqm.mpr (by rw [Int.add_sub_cancel]; exact z_mulR _ hb))
        rw [s4]
        unfold dl
        rw [if_neg (fun q => q hd)]
        by_cases hg : (g * g - 4 * a * c) % p = 0
        · rw [if_neg (fun q => q hg), chi0 hp hg]
          have h3 : (h * h - 4 * a * b) % p = 0 := by
            have e : (2 * 4 * (c * c)) * (h * h - 4 * a * b) = (2 * f * g - 4 * c * h) * (-(2 * c * h + f * g)) + ((f * f - 4 * b * c) * (2 * g * g) + (g * g - 4 * a * c) * (8 * b * c)) := by grind
            have q : ((2 * 4 * (c * c)) * (h * h - 4 * a * b)) % p = 0 := by rw [e]; exact z_add (z_mulR _ hb) (z_add (z_mulR _ hd) (z_mulR _ hg))
            exact (dvd_prime hp q).elim (fun r => absurd r (nz_mul hp (nz_mul hp hp.two hp.four) (nz_mul hp hc hc))) id
          rw [chi0 hp h3]; grind
        · rw [if_pos hg]; grind
      · rw [if_neg he, sm_lin hp (fun q => he (e3.mp q))]; grind
    · rw [sm_quad hp hd]
      by_cases he : e6 a b c f g h % p = 0
      · rw [if_pos he, if_pos (e2.mpr he)]
        unfold dl
        rw [if_pos hd]; grind
      · rw [if_neg he, if_neg (fun q => he (e2.mp q))]; grind
