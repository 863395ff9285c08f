/-! how many lines lie wholly on a conic -/
theorem dl_one {p : Nat} (hp : PR p) {a b c f g h : Int} (he : e6 a b c f g h % p = 0) :
    ((f * f - 4 * b * c) % p ≠ 0 → dl p a b c f g h = chi p (f * f - 4 * b * c)) ∧ ((g * g - 4 * a * c) % p ≠ 0 → dl p a b c f g h = chi p (g * g - 4 * a * c)) ∧ ((h * h - 4 * a * b) % p ≠ 0 → dl p a b c f g h = chi p (h * h - 4 * a * b)) := by
  have main : ∀ x y z k : Int, x * y = z * z + k * e6 a b c f g h → x % p ≠ 0 → y % p ≠ 0 → chi p x = chi p y := by
    intro x y z k hxy hx hy
    have h1 : (x * y) % p = (z * z) % p := eqm.mpr (by rw [hxy, show z * z + k * e6 a b c f g h - z * z = k * e6 a b c f g h by omega]; exact z_mulL _ he)
    have h2 : z % p ≠ 0 := by
      intro q
      have := z_mulL z q
      rw [← h1] at this
      exact (dvd_prime hp this).elim hx hy
    have h3 := chi_mul hp x y
    rw [chi_congr h1, chi_sq hp h2] at h3
    rcases chi_pm hp hx with q | q <;> rcases chi_pm hp hy with r | r <;> rw [q, r] at h3 ⊢ <;> simp at h3
  have i12 := main (f * f - 4 * b * c) (g * g - 4 * a * c) (f * g - 2 * c * h) (2 * c) (by unfold e6; grind)
  have i13 := main (f * f - 4 * b * c) (h * h - 4 * a * b) (f * h - 2 * b * g) (2 * b) (by unfold e6; grind)
  have i23 := main (g * g - 4 * a * c) (h * h - 4 * a * b) (g * h - 2 * a * f) (2 * a) (by unfold e6; grind)
  unfold dl
  refine ⟨fun q => if_pos q, fun q => ?_, fun q => ?_⟩
  · by_cases r : (f * f - 4 * b * c) % p = 0
    · rw [if_neg (fun s => s r), if_pos q]
    · rw [if_pos r]; exact i12 r q
  · by_cases r : (f * f - 4 * b * c) % p = 0
    · rw [if_neg (fun s => s r)]
      by_cases r2 : (g * g - 4 * a * c) % p = 0
      · rw [if_neg (fun s => s r2)]
      · rw [if_pos r2]; exact i23 r2 q
    · rw [if_pos r]; exact i13 r q
theorem dl_zero {p : Nat} (hp : PR p) {a b c f g h : Int} (h1 : (f * f - 4 * b * c) % p = 0) (h2 : (g * g - 4 * a * c) % p = 0) (h3 : (h * h - 4 * a * b) % p = 0) : dl p a b c f g h = 0 := by
  unfold dl
  rw [if_neg (fun s => s h1), if_neg (fun s => s h2), chi0 hp h3]
def lz (p : Nat) (a b c f g h u v w : Int) : Bool := decide (lA a b h u v % p = 0 ∧ lB a f g h u v w % p = 0 ∧ lC a b c f g u v w % p = 0)
theorem dec_and {P Q : Prop} [Decidable P] [Decidable Q] : decide (P ∧ Q) = (decide P && decide Q) := by by_cases c : P <;> by_cases d : Q <;> simp [c, d]
theorem dec_iff {P Q : Prop} [Decidable P] [Decidable Q] (h : P ↔ Q) : decide P = decide Q := by by_cases c : P <;> simp [c, ← h]
theorem sm_pick {p : Nat} (hp : PR p) {A B K : Int} (hA : A % p ≠ 0) : sm (fun v => if (A * v + B) % p = 0 then K else 0) p = K := by
  obtain ⟨v0, h1, h2, h3⟩ := lin_root (B := B) hp hA
  rw [sm_one (k := v0) h1 (fun j hj hne => if_neg (fun q => hne (h3 j hj q))), if_pos h2]
theorem lines6 {p : Nat} (hp : PR p) {a b c f g h : Int} (nz : ¬ (a % p = 0 ∧ b % p = 0 ∧ c % p = 0 ∧ f % p = 0 ∧ g % p = 0 ∧ h % p = 0)) :
    ((ct (fun n => lz p a b c f g h (cX p n) (cY p n) (cZ p n)) (NP p) : Nat) : Int) = if e6 a b c f g h % p = 0 then 1 + dl p a b c f g h else 0 := by
  have hp3 := hp.le.1
  rw [plane_ct hp (fun x y z => lz p a b c f g h x y z)]
  have r1 : ∀ v w : Nat, lz p a b c f g h 1 v w = decide ((a * v * v + b - h * v) % p = 0 ∧ (2 * a * v * w + f - g * v - h * w) % p = 0 ∧ (a * w * w + c - g * w) % p = 0) := by
    intro v w; unfold lz lA lB lC; rw [if_neg (by decide), if_neg (by decide), if_neg (by decide)]
  have r2 : ∀ w : Nat, lz p a b c f g h 0 1 w = decide (a % p = 0 ∧ (g - h * w) % p = 0 ∧ (b * w * w + c - f * w) % p = 0) := by
    intro w; unfold lz lA lB lC; rw [if_pos rfl, if_pos rfl, if_pos rfl, if_neg (by decide), if_neg (by decide)]
  have r3 : lz p a b c f g h 0 0 1 = decide (a % p = 0 ∧ h % p = 0 ∧ b % p = 0) := by
    unfold lz lA lB lC; rw [if_pos rfl, if_pos rfl, if_pos rfl, if_pos rfl, if_pos rfl]
  simp only [r1, r2, r3]
  by_cases ha : a % p = 0
  · have d2 : (g * g - 4 * a * c) % p = (g * g) % p := eqm.mpr (by rw [show g * g - 4 * a * c - g * g = a * (-4 * c) by grind]; exact z_mulR _ ha)
    have d3 : (h * h - 4 * a * b) % p = (h * h) % p := eqm.mpr (by rw [show h * h - 4 * a * b - h * h = a * (-4 * b) by grind]; exact z_mulR _ ha)
    have l1 : ∀ v : Nat, (a * v * v + b - h * v) % p = (-h * v + b) % p := fun v => eqm.mpr (by rw [show a * v * v + b - h * v - (-h * v + b) = a * (v * v) by grind]; exact z_mulR _ ha)
    have l2 : ∀ v w : Nat, (2 * a * v * w + f - g * v - h * w) % p = (f - g * v - h * w) % p := fun v w => eqm.mpr (by rw [show 2 * a * v * w + f - g * v - h * w - (f - g * v - h * w) = a * (2 * v * w) by grind]; exact z_mulR _ ha)
    have l3 : ∀ w : Nat, (a * w * w + c - g * w) % p = (-g * w + c) % p := fun w => eqm.mpr (by rw [show a * w * w + c - g * w - (-g * w + c) = a * (w * w) by grind]; exact z_mulR _ ha)
    simp only [l1, l2, l3, ha, true_and]
    have em : (e6 a b c f g h) % p = (-2 * (b * g * g - f * g * h + c * h * h)) % p := eqm.mpr (by
      rw [show e6 a b c f g h - (-2 * (b * g * g - f * g * h + c * h * h)) = a * (8 * b * c - 2 * f * f) by unfold e6; grind]; exact z_mulR _ ha)
    have em2 : e6 a b c f g h % p = 0 ↔ (b * g * g - f * g * h + c * h * h) % p = 0 := by
      rw [em]
      constructor
      · intro q; exact (dvd_prime hp q).elim (fun r => absurd (z_neg.mp r) hp.two) id
      · intro q; exact z_mulL _ q
    have nh : ∀ {x : Int}, x % p ≠ 0 → (-x) % p ≠ 0 := fun q r => q (z_neg.mp r)
    by_cases hg : g % p = 0
    · by_cases hh : h % p = 0
      · -- both nought
        have he : e6 a b c f g h % p = 0 := by
          rw [em2, show b * g * g - f * g * h + c * h * h = g * (b * g - f * h) + h * (c * h) by grind]
          exact z_add (z_mulR _ hg) (z_mulR _ hh)
        have s1 : sm (fun v => ((ct (fun w => decide ((-h * v + b) % p = 0 ∧ (f - g * v - h * w) % p = 0 ∧ (-g * w + c) % p = 0)) p : Nat) : Int)) p = 0 := by
          refine Eq.trans (sm_congr ?_) (sm_zero (n := p))
          intro v hv
          rw [ct_non]; rfl
          intro w hw
          refine decide_eq_false ?_
          rintro ⟨q1, q2, q3⟩
          refine nz ⟨ha, ?_, ?_, ?_, hg, hh⟩
          · have := z_add q1 (z_mulR (v : Int) hh); rwa [show -h * (v : Int) + b + h * v = b by grind] at this
          · have := z_add q3 (z_mulR (w : Int) hg); rwa [show -g * (w : Int) + c + g * w = c by grind] at this
          · have := z_add q2 (z_add (z_mulR (v : Int) hg) (z_mulR (w : Int) hh)); rwa [show f - g * (v : Int) - h * w + (g * v + h * w) = f by grind] at this
        have s2 : ct (fun w => decide ((g - h * w) % p = 0 ∧ (b * w * w + c - f * w) % p = 0)) p = ct (fun w => decide ((b * (w * w) + (-f) * w + c) % p = 0)) p := by
          apply ct_congr
          intro w hw
          have : (g - h * (w : Int)) % p = 0 := z_sub hg (z_mulR _ hh)
          rw [show b * (w : Int) * w + c - f * w = b * (w * w) + (-f) * w + c by grind]
          simp [this]
        have s3 : (if decide (h % p = 0 ∧ b % p = 0) = true then (1 : Int) else 0) = if b % p = 0 then 1 else 0 := by simp [hh]
        rw [s1, s2, s3, Int.zero_add, ct_zf hp, if_pos he]
        unfold zf
        have nbf : ¬ (b % p = 0 ∧ (-f) % p = 0 ∧ c % p = 0) := fun q => nz ⟨ha, q.1, q.2.2, z_neg.mp q.2.1, hg, hh⟩
        rw [if_neg nbf, show -f * -f - 4 * b * c = f * f - 4 * b * c by grind]
        by_cases d1 : (f * f - 4 * b * c) % p = 0
        · rw [chi0 hp d1, dl_zero hp d1 (by rw [d2]; exact z_mulR _ hg) (by rw [d3]; exact z_mulR _ hh)]
        · rw [(dl_one hp he).1 d1]
      · -- g nought, h not
        have c3 : (h * h - 4 * a * b) % p ≠ 0 := by rw [d3]; exact nz_mul hp hh hh
        have he : e6 a b c f g h % p = 0 ↔ c % p = 0 := by
          rw [em2]
          have : (b * g * g - f * g * h + c * h * h) % p = ((h * h) * c) % p := eqm.mpr (by
            rw [show b * g * g - f * g * h + c * h * h - h * h * c = g * (b * g - f * h) by grind]; exact z_mulR _ hg)
          rw [this]
          constructor
          · intro q; exact (dvd_prime hp q).elim (fun r => absurd r (nz_mul hp hh hh)) id
          · intro q; exact z_mulL _ q
        have s1 : sm (fun v => ((ct (fun w => decide ((-h * v + b) % p = 0 ∧ (f - g * v - h * w) % p = 0 ∧ (-g * w + c) % p = 0)) p : Nat) : Int)) p = if c % p = 0 then 1 else 0 := by
          refine Eq.trans (sm_congr ?_) (sm_pick hp (A := -h) (B := b) (nh hh))
          intro v hv
          by_cases q1 : (-h * v + b) % p = 0
          · rw [if_pos q1]
            have key := ct_root hp (A := -h) (B := f - g * v) (nh hh) (fun w => decide ((-g * w + c) % p = 0)) c (by
              intro w _
              rw [decide_eq_true_eq]
              have : (-g * (w : Int) + c) % p = c % p := eqm.mpr (by rw [Int.add_sub_cancel, Int.neg_mul]; exact z_neg.mpr (z_mulR _ hg))
              rw [this])
            rw [← key]
            congr 1
            apply ct_congr
            intro w hw
            rw [show -h * (w : Int) + (f - g * v) = f - g * v - h * w by grind, ← dec_and]
            exact dec_iff ⟨fun r => r.2, fun r => ⟨q1, r⟩⟩
          · rw [if_neg q1, ct_non]; rfl
            intro w hw
            exact decide_eq_false (fun r => q1 r.1)
        have s2 : ((ct (fun w => decide ((g - h * w) % p = 0 ∧ (b * w * w + c - f * w) % p = 0)) p : Nat) : Int) = if c % p = 0 then 1 else 0 := by
          have key := ct_root hp (A := -h) (B := g) (nh hh) (fun w => decide ((b * w * w + c - f * w) % p = 0)) c (by
            intro w hw
            rw [decide_eq_true_eq]
            have hw0 : (w : Int) % p = 0 := by
              have : (-h * (w : Int)) % p = 0 := by
                have := z_sub hw hg
                rwa [Int.add_sub_cancel] at this
              exact (dvd_prime hp this).elim (fun r => absurd r (nh hh)) id
            have : (b * (w : Int) * w + c - f * w) % p = c % p := eqm.mpr (by rw [show b * (w : Int) * w + c - f * w - c = w * (b * w - f) by grind]; exact z_mulR _ hw0)
            rw [this])
          rw [← key]
          congr 1
          apply ct_congr
          intro w hw
          rw [show -h * (w : Int) + g = g - h * w by grind, ← dec_and]
        have s3 : (if decide (h % p = 0 ∧ b % p = 0) = true then (1 : Int) else 0) = 0 := by simp [hh]
        rw [s1, s2, s3]
        by_cases hc : c % p = 0
        · rw [if_pos hc, if_pos (he.mpr hc), (dl_one hp (he.mpr hc)).2.2 c3, chi_congr d3, chi_sq hp hh]; rfl
        · rw [if_neg hc, if_neg (fun q => hc (he.mp q))]; rfl
    · -- g not nought
      have c2 : (g * g - 4 * a * c) % p ≠ 0 := by rw [d2]; exact nz_mul hp hg hg
      obtain ⟨w0, hw0, hr, hu⟩ := lin_root (B := c) hp (nh hg)
      have s1 : sm (fun v => ((ct (fun w => decide ((-h * v + b) % p = 0 ∧ (f - g * v - h * w) % p = 0 ∧ (-g * w + c) % p = 0)) p : Nat) : Int)) p = if e6 a b c f g h % p = 0 then 1 else 0 := by
        refine Eq.trans (sm_congr ?_) (sm_pick hp (A := -g) (B := f - h * w0) (nh hg))
        intro v hv
        have key := ct_root hp (A := -g) (B := c) (nh hg) (fun w => decide ((-h * v + b) % p = 0 ∧ (f - g * v - h * w) % p = 0)) (if (-g * (v : Int) + (f - h * w0)) % p = 0 ∧ e6 a b c f g h % p = 0 then 0 else 1) (by
          intro w hw
          rw [decide_eq_true_eq]
          have hww : (h * (w : Int)) % p = (h * w0) % p := by
            refine eqm.mpr ?_
            have q := z_sub hw hr
            have : ((-g) * ((w : Int) - w0)) % p = 0 := by rw [show (-g) * ((w : Int) - w0) = -g * w + c - (-g * w0 + c) by grind]; exact q
            rw [show h * (w : Int) - h * w0 = h * (w - w0) by grind]
            exact z_mulL _ ((dvd_prime hp this).elim (fun r => absurd r (nh hg)) id)
          have e1 : (f - g * (v : Int) - h * w) % p = (-g * (v : Int) + (f - h * w0)) % p := eqm.mpr (by
            rw [show f - g * (v : Int) - h * w - (-g * v + (f - h * w0)) = -(h * w - h * w0) by grind]; exact z_neg.mpr (eqm.mp hww))
          rw [e1]
          by_cases q : (-g * (v : Int) + (f - h * w0)) % p = 0
          · have e2 : (b * g * g - f * g * h + c * h * h) % p = ((g * g) * (-h * v + b)) % p := eqm.mpr (by
              rw [show b * g * g - f * g * h + c * h * h - (g * g) * (-h * v + b) = (-g * (v : Int) + (f - h * w0)) * (-(g * h)) + (-g * w0 + c) * (h * h) by grind]
              exact z_add (z_mulR _ q) (z_mulR _ hr))
            have e3 : e6 a b c f g h % p = 0 ↔ (-h * (v : Int) + b) % p = 0 := by
              rw [em2, e2]
              constructor
              · intro r; exact (dvd_prime hp r).elim (fun r => absurd r (nz_mul hp hg hg)) id
              · intro r; exact z_mulL _ r
            by_cases r : (-h * (v : Int) + b) % p = 0
            · rw [if_pos ⟨q, e3.mpr r⟩]
              exact ⟨fun _ => by simp, fun _ => ⟨r, q⟩⟩
            · rw [if_neg (fun s => r (e3.mp s.2))]
              exact ⟨fun s => absurd s.1 r, fun s => absurd s (one_nz hp)⟩
          · rw [if_neg (fun s => q s.1)]
            exact ⟨fun s => absurd s.2 q, fun s => absurd s (one_nz hp)⟩)
        have e4 : ct (fun w => decide ((-h * v + b) % p = 0 ∧ (f - g * v - h * w) % p = 0 ∧ (-g * w + c) % p = 0)) p = ct (fun w => decide ((-g * w + c) % p = 0) && decide ((-h * v + b) % p = 0 ∧ (f - g * v - h * w) % p = 0)) p := by
          apply ct_congr
          intro w hw
          rw [← dec_and]
          exact dec_iff ⟨fun r => ⟨r.2.2, r.1, r.2.1⟩, fun r => ⟨r.2.1, r.2.2, r.1⟩⟩
        have kv : (if (-g * (v : Int) + (f - h * w0)) % p = 0 ∧ e6 a b c f g h % p = 0 then (0 : Int) else 1) % p = 0 ↔ ((-g * (v : Int) + (f - h * w0)) % p = 0 ∧ e6 a b c f g h % p = 0) := by
          by_cases s : (-g * (v : Int) + (f - h * w0)) % p = 0 ∧ e6 a b c f g h % p = 0
          · rw [if_pos s]; simp [s]
          · rw [if_neg s]; exact ⟨fun t => absurd t (one_nz hp), fun t => absurd t s⟩
        rw [e4, key]
        by_cases q : (-g * (v : Int) + (f - h * w0)) % p = 0
        · by_cases r : e6 a b c f g h % p = 0
          · rw [if_pos (kv.mpr ⟨q, r⟩), if_pos q, if_pos r]
          · rw [if_neg (fun s => r (kv.mp s).2), if_pos q, if_neg r]
        · rw [if_neg (fun s => q (kv.mp s).1), if_neg q]
      rw [s1]
      by_cases hh : h % p = 0
      · have s2 : ct (fun w => decide ((g - h * w) % p = 0 ∧ (b * w * w + c - f * w) % p = 0)) p = 0 := by
          rw [ct_non]
          intro w hw
          refine decide_eq_false (fun r => hg ?_)
          have := z_add r.1 (z_mulR (w : Int) hh)
          rwa [show g - h * (w : Int) + h * w = g by grind] at this
        have he : e6 a b c f g h % p = 0 ↔ b % p = 0 := by
          rw [em2]
          have : (b * g * g - f * g * h + c * h * h) % p = ((g * g) * b) % p := eqm.mpr (by
            rw [show b * g * g - f * g * h + c * h * h - g * g * b = h * (c * h - f * g) by grind]; exact z_mulR _ hh)
          rw [this]
          constructor
          · intro q; exact (dvd_prime hp q).elim (fun r => absurd r (nz_mul hp hg hg)) id
          · intro q; exact z_mulL _ q
        rw [s2]
        by_cases hb : b % p = 0
        · rw [if_pos (he.mpr hb), if_pos (he.mpr hb), if_pos (by simp [hh, hb]), (dl_one hp (he.mpr hb)).2.1 c2, chi_congr d2, chi_sq hp hg]; rfl
        · rw [if_neg (fun q => hb (he.mp q)), if_neg (fun q => hb (he.mp q)), if_neg (by simp [hb])]; rfl
      · have s2 : ((ct (fun w => decide ((g - h * w) % p = 0 ∧ (b * w * w + c - f * w) % p = 0)) p : Nat) : Int) = if (b * g * g - f * g * h + c * h * h) % p = 0 then 1 else 0 := by
          have key := ct_root hp (A := -h) (B := g) (nh hh) (fun w => decide ((b * w * w + c - f * w) % p = 0)) (b * g * g - f * g * h + c * h * h) (by
            intro w hw
            rw [decide_eq_true_eq]
            have : (b * g * g - f * g * h + c * h * h) % p = ((h * h) * (b * (w : Int) * w + c - f * w)) % p := eqm.mpr (by
              rw [show b * g * g - f * g * h + c * h * h - (h * h) * (b * (w : Int) * w + c - f * w) = (-h * (w : Int) + g) * (b * (g + h * w) - f * h) by grind]
              exact z_mulR _ hw)
            rw [this]
            constructor
            · intro q; exact z_mulL _ q
            · intro q; exact (dvd_prime hp q).elim (fun r => absurd r (nz_mul hp hh hh)) id)
          rw [← key]
          congr 1
          apply ct_congr
          intro w hw
          rw [show -h * (w : Int) + g = g - h * w by grind, ← dec_and]
        have s3 : (if decide (h % p = 0 ∧ b % p = 0) = true then (1 : Int) else 0) = 0 := by simp [hh]
        rw [s2, s3]
        by_cases he : e6 a b c f g h % p = 0
        · rw [if_pos he, if_pos (em2.mp he), if_pos he, (dl_one hp he).2.1 c2, chi_congr d2, chi_sq hp hg]; rfl
        · rw [if_neg he, if_neg (fun q => he (em2.mpr q)), if_neg he]; rfl
  · -- a not nought
    have ha4 := nz_mul hp hp.four ha
    have ha2 := nz_mul hp hp.two ha
    have s2 : ct (fun w => decide (a % p = 0 ∧ (g - h * w) % p = 0 ∧ (b * w * w + c - f * w) % p = 0)) p = 0 := ct_non (fun w _ => decide_eq_false (fun r => ha r.1))
    have s3 : (if decide (a % p = 0 ∧ h % p = 0 ∧ b % p = 0) = true then (1 : Int) else 0) = 0 := by simp [ha]
    have ee : ∀ v w : Int, e6 a b c f g h = (2 * a * v * w + f - g * v - h * w) * (2 * (2 * a * v - h) * (2 * a * w - g) - 2 * a * (2 * a * v * w + f - g * v - h * w)) + ((a * v * v + b - h * v) * (-2 * (2 * a * w - g) * (2 * a * w - g) + 8 * a * (a * w * w + c - g * w)) + (a * w * w + c - g * w) * (-2 * ((2 * a * v - h) * (2 * a * v - h)))) := by
      intro v w; unfold e6; grind
    rw [s2, s3]
    by_cases he : e6 a b c f g h % p = 0
    · rw [if_pos he]
      by_cases d3 : (h * h - 4 * a * b) % p = 0
      · have hs : ∀ v : Int, (a * v * v + b - h * v) % p = 0 ↔ (2 * a * v + -h) % p = 0 := by
          intro v
          have e : 4 * a * (a * v * v + b - h * v) = (2 * a * v + -h) * (2 * a * v + -h) - (h * h - 4 * a * b) := by grind
          constructor
          · intro q
            have q2 := z_mulL (4 * a) q
            rw [e] at q2
            have q3 := z_add q2 d3
            rw [Int.sub_add_cancel] at q3
            exact (dvd_prime hp q3).elim id id
          · intro q
            have q2 : (4 * a * (a * v * v + b - h * v)) % p = 0 := by rw [e]; exact z_sub (z_mulR _ q) d3
            exact (dvd_prime hp q2).elim (fun r => absurd r ha4) id
        have s1 : sm (fun v => ((ct (fun w => decide ((a * v * v + b - h * v) % p = 0 ∧ (2 * a * v * w + f - g * v - h * w) % p = 0 ∧ (a * w * w + c - g * w) % p = 0)) p : Nat) : Int)) p = 1 + chi p (g * g - 4 * a * c) := by
          refine Eq.trans (sm_congr ?_) (sm_pick hp (A := 2 * a) (B := -h) ha2)
          intro v hv
          by_cases q : (2 * a * (v : Int) + -h) % p = 0
          · rw [if_pos q, show g * g - 4 * a * c = -g * -g - 4 * a * c by grind, ← ct_quad hp ha]
            congr 1
            apply ct_congr
            intro w hw
            have qB : (2 * a * (v : Int) * w + f - g * v - h * w) % p = 0 := by
              have q2 : ((2 * a) * ((2 * a * (v : Int) * w + f - g * v - h * w) * (2 * a * (v : Int) * w + f - g * v - h * w))) % p = 0 := by
                have e : (2 * a) * ((2 * a * (v : Int) * w + f - g * v - h * w) * (2 * a * (v : Int) * w + f - g * v - h * w)) = (2 * a * (v : Int) + -h) * (2 * (2 * a * w - g) * (2 * a * (v : Int) * w + f - g * v - h * w) + (a * w * w + c - g * w) * (-2 * (2 * a * v - h))) + (a * v * v + b - h * v) * (-2 * (2 * a * w - g) * (2 * a * w - g) + 8 * a * (a * w * w + c - g * w)) - e6 a b c f g h := by
                  rw [ee v w]; grind
                rw [e]
                exact z_sub (z_add (z_mulR _ q) (z_mulR _ ((hs v).mpr q))) he
              exact (dvd_prime hp q2).elim (fun r => absurd r ha2) (fun r => (dvd_prime hp r).elim id id)
            rw [show a * ((w : Nat) * (w : Int)) + -g * w + c = a * w * w + c - g * w by grind]
            exact dec_iff ⟨fun r => r.2.2, fun r => ⟨(hs v).mpr q, qB, r⟩⟩
          · rw [if_neg q, ct_non]; rfl
            intro w hw
            exact decide_eq_false (fun r => q ((hs v).mp r.1))
        rw [s1]
        have hdl : dl p a b c f g h = chi p (g * g - 4 * a * c) := by
          by_cases d2 : (g * g - 4 * a * c) % p = 0
          · rw [chi0 hp d2]
            refine dl_zero hp ?_ d2 d3
            have q1 : ((g * h - 2 * a * f) * (g * h - 2 * a * f)) % p = 0 := by
              rw [show (g * h - 2 * a * f) * (g * h - 2 * a * f) = (h * h - 4 * a * b) * (g * g - 4 * a * c) - (2 * a) * e6 a b c f g h by unfold e6; grind]
              exact z_sub (z_mulR _ d3) (z_mulL _ he)
            have q2 : (g * h - 2 * a * f) % p = 0 := (dvd_prime hp q1).elim id id
            have q3 : ((2 * 4 * (a * a)) * (f * f - 4 * b * c)) % p = 0 := by
              rw [show (2 * 4 * (a * a)) * (f * f - 4 * b * c) = (g * h - 2 * a * f) * (-2 * (2 * a * f + g * h)) + ((g * g - 4 * a * c) * (2 * h * h) + (h * h - 4 * a * b) * (8 * a * c)) by grind]
              exact z_add (z_mulR _ q2) (z_add (z_mulR _ d2) (z_mulR _ d3))
            exact (dvd_prime hp q3).elim (fun r => absurd r (nz_mul hp (nz_mul hp hp.two hp.four) (nz_mul hp ha ha))) id
          · exact (dl_one hp he).2.1 d2
        rw [hdl]; omega
      · have s1 : sm (fun v => ((ct (fun w => decide ((a * v * v + b - h * v) % p = 0 ∧ (2 * a * v * w + f - g * v - h * w) % p = 0 ∧ (a * w * w + c - g * w) % p = 0)) p : Nat) : Int)) p = 1 + chi p (h * h - 4 * a * b) := by
          rw [show h * h - 4 * a * b = -h * -h - 4 * a * b by grind, ← ct_quad hp ha, ct_sm]
          apply sm_congr
          intro v hv
          rw [show a * ((v : Nat) * (v : Int)) + -h * v + b = a * v * v + b - h * v by grind]
          by_cases q : (a * (v : Int) * v + b - h * v) % p = 0
          · rw [if_pos (decide_eq_true q)]
            have hs : (2 * a * (v : Int) - h) % p ≠ 0 := by
              intro r
              apply d3
              rw [show h * h - 4 * a * b = (2 * a * (v : Int) - h) * (2 * a * (v : Int) - h) - (4 * a) * (a * (v : Int) * v + b - h * v) by grind]
              exact z_sub (z_mulR _ r) (z_mulL _ q)
            have key := ct_root hp (A := 2 * a * v - h) (B := f - g * v) hs (fun w => decide ((a * w * w + c - g * w) % p = 0)) 0 (by
              intro w hw
              rw [decide_eq_true_eq]
              refine ⟨fun _ => by simp, fun _ => ?_⟩
              have q2 : ((2 * ((2 * a * (v : Int) - h) * (2 * a * v - h))) * (a * w * w + c - g * w)) % p = 0 := by
                have e : (2 * ((2 * a * (v : Int) - h) * (2 * a * v - h))) * (a * w * w + c - g * w) = ((2 * a * v - h) * (w : Int) + (f - g * v)) * (2 * (2 * a * v - h) * (2 * a * w - g) - 2 * a * (2 * a * v * w + f - g * v - h * w)) + (a * v * v + b - h * v) * (-2 * (2 * a * w - g) * (2 * a * w - g) + 8 * a * (a * w * w + c - g * w)) - e6 a b c f g h := by
                  rw [ee v w]; grind
                rw [e]
                exact z_sub (z_add (z_mulR _ hw) (z_mulR _ q)) he
              exact (dvd_prime hp q2).elim (fun r => absurd r (nz_mul hp hp.two (nz_mul hp hs hs))) id)
            rw [if_pos (by simp)] at key
            rw [← key]
            congr 1
            apply ct_congr
            intro w hw
            rw [← dec_and, show (2 * a * (v : Int) - h) * (w : Int) + (f - g * v) = 2 * a * v * w + f - g * v - h * w by grind]
            exact dec_iff ⟨fun r => r.2, fun r => ⟨q, r⟩⟩
          · rw [if_neg (by rw [decide_eq_true_eq]; exact q), ct_non]; rfl
            intro w hw
            exact decide_eq_false (fun r => q r.1)
        rw [s1, (dl_one hp he).2.2 d3]; omega
    · rw [if_neg he]
      have s1 : sm (fun v => ((ct (fun w => decide ((a * v * v + b - h * v) % p = 0 ∧ (2 * a * v * w + f - g * v - h * w) % p = 0 ∧ (a * w * w + c - g * w) % p = 0)) p : Nat) : Int)) p = 0 := by
        refine Eq.trans (sm_congr ?_) (sm_zero (n := p))
        intro v hv
        rw [ct_non]; rfl
        intro w hw
        refine decide_eq_false (fun r => he ?_)
        rw [ee v w]
        exact z_add (z_mulR _ r.2.1) (z_add (z_mulR _ r.1) (z_mulR _ r.2.2))
      rw [s1]; rfl
