/-! the conic's rank and kind -/
theorem su_k {σ : Sto} {k i k' i' : Nat} {v : Int32} (h : k' ≠ k) : su σ k i v k' i' = σ k' i' := su_n (Or.inl h)
theorem su_i {σ : Sto} {k i k' i' : Nat} {v : Int32} (h : i' ≠ i) : su σ k i v k' i' = σ k' i' := su_n (Or.inr h)
theorem oap97_0 {β : Type} {σ : Sto} {x : Int32} {f : Sto → Option β} : Option.bind (ap σ 97 (0 : Int32) x) f = f (su σ 97 0 x) := by rw [ap97 0 (by decide)]; rfl
theorem oap97_1 {β : Type} {σ : Sto} {x : Int32} {f : Sto → Option β} : Option.bind (ap σ 97 (1 : Int32) x) f = f (su σ 97 1 x) := by rw [ap97 1 (by decide)]; rfl
theorem oap97_2 {β : Type} {σ : Sto} {x : Int32} {f : Sto → Option β} : Option.bind (ap σ 97 (2 : Int32) x) f = f (su σ 97 2 x) := by rw [ap97 2 (by decide)]; rfl
theorem oap97_6 {β : Type} {σ : Sto} {x : Int32} {f : Sto → Option β} : Option.bind (ap σ 97 (6 : Int32) x) f = f (su σ 97 6 x) := by rw [ap97 6 (by decide)]; rfl
theorem oap97_7 {β : Type} {σ : Sto} {x : Int32} {f : Sto → Option β} : Option.bind (ap σ 97 (7 : Int32) x) f = f (su σ 97 7 x) := by rw [ap97 7 (by decide)]; rfl
theorem oap97_8 {β : Type} {σ : Sto} {x : Int32} {f : Sto → Option β} : Option.bind (ap σ 97 (8 : Int32) x) f = f (su σ 97 8 x) := by rw [ap97 8 (by decide)]; rfl
theorem oap97_12 {β : Type} {σ : Sto} {x : Int32} {f : Sto → Option β} : Option.bind (ap σ 97 (12 : Int32) x) f = f (su σ 97 12 x) := by rw [ap97 12 (by decide)]; rfl
theorem oap97_13 {β : Type} {σ : Sto} {x : Int32} {f : Sto → Option β} : Option.bind (ap σ 97 (13 : Int32) x) f = f (su σ 97 13 x) := by rw [ap97 13 (by decide)]; rfl
theorem oap97_14 {β : Type} {σ : Sto} {x : Int32} {f : Sto → Option β} : Option.bind (ap σ 97 (14 : Int32) x) f = f (su σ 97 14 x) := by rw [ap97 14 (by decide)]; rfl
def M3 (p : Nat) (m : Nat → Int) (r i : Nat) : Int := if r = 0 then (if i = 0 then 2 * m 0 % p else if i = 1 then m 5 else m 4) else if r = 1 then (if i = 0 then m 5 else if i = 1 then 2 * m 1 % p else m 3) else (if i = 0 then m 4 else if i = 1 then m 3 else 2 * m 2 % p)
def sdm (p : Nat) (m : Nat → Int) : Int := if (4 * m 1 * m 2 - m 3 * m 3) % p ≠ 0 then (4 * m 1 * m 2 - m 3 * m 3) % p else if (4 * m 0 * m 2 - m 4 * m 4) % p ≠ 0 then (4 * m 0 * m 2 - m 4 * m 4) % p else (4 * m 0 * m 1 - m 5 * m 5) % p
def rkm (p : Nat) (m : Nat → Int) : Nat := if m 0 % p = 0 ∧ m 1 % p = 0 ∧ m 2 % p = 0 ∧ m 3 % p = 0 ∧ m 4 % p = 0 ∧ m 5 % p = 0 then 0 else if e6m m % p ≠ 0 then 3 else if sdm p m ≠ 0 then 2 else 1
def kdm (p : Nat) (m : Nat → Int) : Nat := if rkm p m = 0 then 0 else if rkm p m = 1 then 1 else if rkm p m = 3 then 4 else if dlm p m = 1 then 2 else 3
theorem sm3 {F : Nat → Int} : sm F 3 = F 0 + F 1 + F 2 := by
  show 0 + F 0 + F 1 + F 2 = _
  omega
theorem nul3 {p : Nat} {m x : Nat → Int} : nul p 3 3 (M3 p m) x ↔ (2 * m 0 * x 0 + m 5 * x 1 + m 4 * x 2) % p = 0 ∧ (m 5 * x 0 + 2 * m 1 * x 1 + m 3 * x 2) % p = 0 ∧ (m 4 * x 0 + m 3 * x 1 + 2 * m 2 * x 2) % p = 0 := by
  have h0 : (2 * m 0 % p - 2 * m 0) % (p : Int) = 0 := em_sub
  have h1 : (2 * m 1 % p - 2 * m 1) % (p : Int) = 0 := em_sub
  have h2 : (2 * m 2 % p - 2 * m 2) % (p : Int) = 0 := em_sub
  have k0 : rv 3 (M3 p m) x 0 % p = (2 * m 0 * x 0 + m 5 * x 1 + m 4 * x 2) % p := by
    rw [eqm]; unfold rv; rw [sm3]
    have e2 : 2 * m 0 % p * x 0 + m 5 * x 1 + m 4 * x 2 - (2 * m 0 * x 0 + m 5 * x 1 + m 4 * x 2) = (2 * m 0 % p - 2 * m 0) * x 0 := by grind
    simp only [M3, show ¬ ((1 : Nat) = 0) by omega, show ¬ ((2 : Nat) = 0) by omega, show ¬ ((2 : Nat) = 1) by omega, if_false, if_true, e2]; exact z_mulR _ h0
  have k1 : rv 3 (M3 p m) x 1 % p = (m 5 * x 0 + 2 * m 1 * x 1 + m 3 * x 2) % p := by
    rw [eqm]; unfold rv; rw [sm3]
    have e2 : m 5 * x 0 + 2 * m 1 % p * x 1 + m 3 * x 2 - (m 5 * x 0 + 2 * m 1 * x 1 + m 3 * x 2) = (2 * m 1 % p - 2 * m 1) * x 1 := by grind
    simp only [M3, show ¬ ((1 : Nat) = 0) by omega, show ¬ ((2 : Nat) = 0) by omega, show ¬ ((2 : Nat) = 1) by omega, if_false, if_true, e2]; exact z_mulR _ h1
  have k2 : rv 3 (M3 p m) x 2 % p = (m 4 * x 0 + m 3 * x 1 + 2 * m 2 * x 2) % p := by
    rw [eqm]; unfold rv; rw [sm3]
    have e2 : m 4 * x 0 + m 3 * x 1 + 2 * m 2 % p * x 2 - (m 4 * x 0 + m 3 * x 1 + 2 * m 2 * x 2) = (2 * m 2 % p - 2 * m 2) * x 2 := by grind
    simp only [M3, show ¬ ((1 : Nat) = 0) by omega, show ¬ ((2 : Nat) = 0) by omega, show ¬ ((2 : Nat) = 1) by omega, if_false, if_true, e2]; exact z_mulR _ h2
  rw [← k0, ← k1, ← k2]
  constructor
  · intro h; exact ⟨h 0 (by omega), h 1 (by omega), h 2 (by omega)⟩
  · rintro ⟨a, b, c⟩ r hr
    have : r = 0 ∨ r = 1 ∨ r = 2 := by omega
    rcases this with rfl | rfl | rfl
    · exact a
    · exact b
    · exact c
/-- a pivot's own vector isn't nought there -/
theorem RI_piv {p R W n : Nat} {M M' : Nat → Nat → Int} (hp : PR p) (h : RI p R W n W M M') : ∃ pc : Nat → Nat, (∀ j, j < n → pc j < W) ∧ (∀ j k, j < k → k < n → pc j < pc k) ∧ (∀ x, nul p R W M x → ∀ r, r < n → dot W (M' r) x % p = 0) ∧ (∀ x, (∀ r, r < n → dot W (M' r) x % p = 0) → nul p R W M x) ∧ (∀ r, r < n → ∀ j, j < n → M' r (pc j) = if r = j then 1 else 0) ∧ (∀ j, j < n → ¬ nul p R W M (fun i => if i = pc j then 1 else 0)) := by
  obtain ⟨g1, -, g3, ⟨pc, g4, g5, g6, -⟩, g8⟩ := h
  have z : ∀ r, n ≤ r → r < R → ∀ z : Nat → Int, dot W (M' r) z % p = 0 := fun r h1 h2 z => sm_z (fun i hi => by rw [g8 r h1 h2 i hi]; simp)
  have a1 : ∀ x, nul p R W M x → ∀ r, r < n → dot W (M' r) x % p = 0 := fun x hx r hr => (g3 x).mp hx r (by omega)
  refine ⟨pc, g4, g5, a1, fun x hx => (g3 x).mpr (fun r hr => ?_), fun r hr j hj => g6 r (by omega) j hj, fun j hj hn => ?_⟩
  · by_cases q : r < n
    · exact hx r q
    · exact z r (by omega) hr x
  · have := a1 _ hn j hj
    rw [dot_one (g4 j hj), g6 j (by omega) j hj, if_pos rfl] at this
    exact one_nz hp this
theorem mul_eqm {p x x' y y' : Int} (h : (x - x') % p = 0) (k : (y - y') % p = 0) : (x * y - x' * y') % p = 0 := by
  have e : x * y - x' * y' = (x - x') * y + x' * (y - y') := by grind
  rw [e]; exact z_add (z_mulR _ h) (z_mulL _ k)
theorem z_of {p : Nat} {x y : Int} (hy : y % p = 0) (h : x = y) : x % p = 0 := h ▸ hy
theorem two_z {p : Nat} (hp : PR p) {x : Int} (h : (2 * x) % p = 0) : x % p = 0 := (dvd_prime hp h).resolve_left hp.two
def vec3 (a b c : Int) (i : Nat) : Int := if i = 0 then a else if i = 1 then b else c
theorem vec3_0 {a b c} : vec3 a b c 0 = a := rfl
theorem vec3_1 {a b c} : vec3 a b c 1 = b := rfl
theorem vec3_2 {a b c} : vec3 a b c 2 = c := rfl
theorem dot3 {u x : Nat → Int} : dot 3 u x = u 0 * x 0 + u 1 * x 1 + u 2 * x 2 := sm3
set_option maxHeartbeats 1000000 in
theorem rk3 {p n : Nat} {m : Nat → Int} {M' : Nat → Nat → Int} (hp : PR p) (h : RI p 3 3 n 3 (M3 p m) M') : n = rkm p m := by
  obtain ⟨pc, q1, q2, q3, q4, q5, q6⟩ := RI_piv hp h
  have hn3 : n ≤ 3 := h.1
  have one : ¬ ((1 : Int) % p = 0) := one_nz hp
  have N : ∀ a b c : Int, (2 * m 0 * a + m 5 * b + m 4 * c) % p = 0 → (m 5 * a + 2 * m 1 * b + m 3 * c) % p = 0 → (m 4 * a + m 3 * b + 2 * m 2 * c) % p = 0 → nul p 3 3 (M3 p m) (vec3 a b c) := fun a b c h0 h1 h2 => nul3.mpr ⟨h0, h1, h2⟩
  generalize hc : m 2 = c at *
  generalize ha : m 0 = a at *
  generalize hb : m 1 = b at *
  generalize hf : m 3 = f at *
  generalize hg : m 4 = g at *
  generalize hh : m 5 = hq at *
  have hE : e6m m = 8 * a * b * c + 2 * f * g * hq - 2 * a * f * f - 2 * b * g * g - 2 * c * hq * hq := by unfold e6m e6; rw [ha, hb, hc, hf, hg, hh]
  unfold rkm
  rw [ha, hb, hc, hf, hg, hh]
  by_cases z0 : a % p = 0 ∧ b % p = 0 ∧ c % p = 0 ∧ f % p = 0 ∧ g % p = 0 ∧ hq % p = 0
  · rw [if_pos z0]
    obtain ⟨za, zb, zc, zf', zg, zh⟩ := z0
    refine Classical.byContradiction fun hn => q6 0 (by omega) (nul3.mpr ?_)
    rw [ha, hb, hc, hf, hg, hh]
    exact ⟨z_add (z_add (z_mulR _ (z_mulL _ za)) (z_mulR _ zh)) (z_mulR _ zg), z_add (z_add (z_mulR _ zh) (z_mulR _ (z_mulL _ zb))) (z_mulR _ zf'), z_add (z_add (z_mulR _ zg) (z_mulR _ zf')) (z_mulR _ (z_mulL _ zc))⟩
  · rw [if_neg z0]
    have n0 : n ≠ 0 := by
      intro hn
      subst hn
      have al : ∀ x, nul p 3 3 (M3 p m) x := fun x => q4 x (fun r hr => by omega)
      have t0 := nul3.mp (al (vec3 1 0 0))
      have t1 := nul3.mp (al (vec3 0 1 0))
      have t2 := nul3.mp (al (vec3 0 0 1))
      simp only [vec3_0, vec3_1, vec3_2, Int.mul_one, Int.mul_zero, Int.add_zero, Int.zero_add, ha, hb, hc, hf, hg, hh] at t0 t1 t2
      exact z0 ⟨two_z hp t0.1, two_z hp t1.2.1, two_z hp t2.2.2, t1.2.2, t0.2.2, t0.2.1⟩
    by_cases hz : e6m m % p = 0
    · rw [if_neg (fun z => z hz)]
      rw [hE] at hz
      -- not 3
      have n3 : n ≠ 3 := by
        intro hn
        subst hn
        have p0 := q2 0 1 (by omega) (by omega)
        have p1 := q2 1 2 (by omega) (by omega)
        have p2 := q1 2 (by omega)
        have i0 : pc 0 = 0 := by omega
        have i1 : pc 1 = 1 := by omega
        have i2 : pc 2 = 2 := by omega
        have triv : ∀ x, nul p 3 3 (M3 p m) x → x 0 % p = 0 ∧ x 1 % p = 0 ∧ x 2 % p = 0 := by
          intro x hx
          have s0 := q3 x hx 0 (by omega)
          have s1 := q3 x hx 1 (by omega)
          have s2 := q3 x hx 2 (by omega)
          have g00 := q5 0 (by omega) 0 (by omega); have g01 := q5 0 (by omega) 1 (by omega); have g02 := q5 0 (by omega) 2 (by omega)
          have g10 := q5 1 (by omega) 0 (by omega); have g11 := q5 1 (by omega) 1 (by omega); have g12 := q5 1 (by omega) 2 (by omega)
          have g20 := q5 2 (by omega) 0 (by omega); have g21 := q5 2 (by omega) 1 (by omega); have g22 := q5 2 (by omega) 2 (by omega)
          rw [i0] at g00 g10 g20
          rw [i1] at g01 g11 g21
          rw [i2] at g02 g12 g22
          rw [dot3, g00, g01, g02] at s0
          rw [dot3, g10, g11, g12] at s1
          rw [dot3, g20, g21, g22] at s2
          exact ⟨z_of s0 (by simp), z_of s1 (by simp), z_of s2 (by simp)⟩
        have zz : (0 : Int) % p = 0 := by simp
        have A1 := triv _ (N (4 * b * c - f * f) (f * g - 2 * c * hq) (hq * f - 2 * b * g) (z_of hz (by grind)) (z_of zz (by grind)) (z_of zz (by grind)))
        have A2 := triv _ (N (f * g - 2 * c * hq) (4 * a * c - g * g) (g * hq - 2 * a * f) (z_of zz (by grind)) (z_of hz (by grind)) (z_of zz (by grind)))
        have A3 := triv _ (N (hq * f - 2 * b * g) (g * hq - 2 * a * f) (4 * a * b - hq * hq) (z_of zz (by grind)) (z_of zz (by grind)) (z_of hz (by grind)))
        simp only [vec3_0, vec3_1, vec3_2] at A1 A2 A3
        have B1 := triv _ (N hq (-(2 * a)) 0 (z_of zz (by grind)) (z_of (z_neg.mpr A3.2.2) (by grind)) (z_of A2.2.2 (by grind)))
        have B2 := triv _ (N (2 * b) (-hq) 0 (z_of A3.2.2 (by grind)) (z_of zz (by grind)) (z_of (z_neg.mpr A1.2.2) (by grind)))
        have B3 := triv _ (N f (-g) 0 (z_of (z_neg.mpr A2.2.2) (by grind)) (z_of A1.2.2 (by grind)) (z_of zz (by grind)))
        simp only [vec3_0, vec3_1, vec3_2] at B1 B2 B3
        have C1 := triv _ (N 1 0 0 (z_of (z_neg.mpr B1.2.1) (by grind)) (z_of B1.1 (by grind)) (z_of (z_neg.mpr B3.2.1) (by grind)))
        exact one C1.1
      by_cases hs : sdm p m = 0
      · rw [if_neg (fun z => z hs)]
        -- the principal minors are nought
        have P : (4 * b * c - f * f) % p = 0 ∧ (4 * a * c - g * g) % p = 0 ∧ (4 * a * b - hq * hq) % p = 0 := by
          unfold sdm at hs
          rw [ha, hb, hc, hf, hg, hh] at hs
          by_cases c1 : (4 * b * c - f * f) % p = 0
          · rw [if_neg (fun z => z c1)] at hs
            by_cases c2 : (4 * a * c - g * g) % p = 0
            · rw [if_neg (fun z => z c2)] at hs
              exact ⟨c1, c2, hs⟩
            · rw [if_pos c2] at hs; exact absurd hs c2
          · rw [if_pos c1] at hs; exact absurd hs c1
        obtain ⟨P1, P2, P3⟩ := P
        have sq : ∀ x : Int, (x * x) % p = 0 → x % p = 0 := fun x hx => (dvd_prime hp hx).elim id id
        have A12 : (f * g - 2 * c * hq) % p = 0 := sq _ (z_of (z_sub (z_mulR (4 * a * c - g * g) P1) (z_mulR (2 * c) hz)) (by grind))
        have A13 : (hq * f - 2 * b * g) % p = 0 := sq _ (z_of (z_sub (z_mulR (4 * a * b - hq * hq) P1) (z_mulR (2 * b) hz)) (by grind))
        have A23 : (g * hq - 2 * a * f) % p = 0 := sq _ (z_of (z_sub (z_mulR (4 * a * b - hq * hq) P2) (z_mulR (2 * a) hz)) (by grind))
        -- one row tells all
        have W : ∃ w : Nat → Int, ∀ x : Nat → Int, dot 3 w x % p = 0 → nul p 3 3 (M3 p m) x := by
          have K : ∀ d L S T : Int, d % p ≠ 0 → L % p = 0 → (d * S - T * L) % p = 0 → S % p = 0 := fun d L S T hd hL hE => by
            have h1 := z_add hE (z_mulL T hL)
            rw [Int.sub_add_cancel] at h1
            exact (dvd_prime hp h1).resolve_left hd
          by_cases ca : a % p = 0
          · by_cases cb : b % p = 0
            · by_cases cc : c % p = 0
              · have f0 : f % p = 0 := sq f (z_of (z_sub (z_mulR (4 * b) cc) P1) (by grind))
                have g0 : g % p = 0 := sq g (z_of (z_sub (z_mulR (4 * a) cc) P2) (by grind))
                have h0 : hq % p = 0 := sq hq (z_of (z_sub (z_mulR (4 * a) cb) P3) (by grind))
                exact absurd ⟨ca, cb, cc, f0, g0, h0⟩ z0
              · refine ⟨vec3 g f (2 * c), fun x hx => nul3.mpr ?_⟩
                rw [dot3] at hx
                simp only [vec3_0, vec3_1, vec3_2] at hx
                rw [ha, hb, hc, hf, hg, hh]
                have d2 : (2 * c) % p ≠ 0 := nz_mul hp hp.two cc
                refine ⟨K (2 * c) _ _ g d2 hx ?_, K (2 * c) _ _ f d2 hx ?_, hx⟩
                · exact z_of (z_sub (z_mulR (x 0) P2) (z_mulR (x 1) A12)) (by grind)
                · exact z_of (z_sub (z_mulR (x 1) P1) (z_mulR (x 0) A12)) (by grind)
            · refine ⟨vec3 hq (2 * b) f, fun x hx => nul3.mpr ?_⟩
              rw [dot3] at hx
              simp only [vec3_0, vec3_1, vec3_2] at hx
              rw [ha, hb, hc, hf, hg, hh]
              have d2 : (2 * b) % p ≠ 0 := nz_mul hp hp.two cb
              refine ⟨K (2 * b) _ _ hq d2 hx ?_, hx, K (2 * b) _ _ f d2 hx ?_⟩
              · exact z_of (z_sub (z_mulR (x 0) P3) (z_mulR (x 2) A13)) (by grind)
              · exact z_of (z_sub (z_mulR (x 2) P1) (z_mulR (x 0) A13)) (by grind)
          · refine ⟨vec3 (2 * a) hq g, fun x hx => nul3.mpr ?_⟩
            rw [dot3] at hx
            simp only [vec3_0, vec3_1, vec3_2] at hx
            rw [ha, hb, hc, hf, hg, hh]
            have d2 : (2 * a) % p ≠ 0 := nz_mul hp hp.two ca
            refine ⟨hx, K (2 * a) _ _ hq d2 hx ?_, K (2 * a) _ _ g d2 hx ?_⟩
            · exact z_of (z_sub (z_mulR (x 1) P3) (z_mulR (x 2) A23)) (by grind)
            · exact z_of (z_sub (z_mulR (x 2) P2) (z_mulR (x 1) A23)) (by grind)
        obtain ⟨w, hw⟩ := W
        refine Classical.byContradiction fun hn => ?_
        have n2 : n = 2 := by omega
        subst n2
        have l0 := q1 0 (by omega)
        have l1 := q1 1 (by omega)
        have ne := q2 0 1 (by omega) (by omega)
        have dd : ∀ (u : Nat → Int) (s t : Int), dot 3 u (fun i => s * (if i = pc 0 then 1 else 0) - t * (if i = pc 1 then 1 else 0)) = s * u (pc 0) - t * u (pc 1) := by
          intro u s t
          rw [dot_sub]
          have k1 : dot 3 u (fun i => s * (if i = pc 0 then 1 else 0)) = s * u (pc 0) := by
            unfold dot
            rw [sm_one (k := pc 0) l0 (fun j _ hj => by simp [hj])]; simp [Int.mul_comm]
          have k2 : dot 3 u (fun i => t * (if i = pc 1 then 1 else 0)) = t * u (pc 1) := by
            unfold dot
            rw [sm_one (k := pc 1) l1 (fun j _ hj => by simp [hj])]; simp [Int.mul_comm]
          rw [k1, k2]
        have v := hw _ (by rw [dd w (w (pc 1)) (w (pc 0)), Int.mul_comm, Int.sub_self]; simp)
        have v0 := q3 _ v 0 (by omega)
        have v1 := q3 _ v 1 (by omega)
        rw [dd, q5 0 (by omega) 0 (by omega), q5 0 (by omega) 1 (by omega)] at v0
        rw [dd, q5 1 (by omega) 0 (by omega), q5 1 (by omega) 1 (by omega)] at v1
        refine q6 0 (by omega) (hw _ ?_)
        rw [dot_one l0]
        exact z_of (z_neg.mpr v1) (by simp)
      · rw [if_pos hs]
        have n1 : n ≠ 1 := by
          intro hn
          subst hn
          apply hs
          have l0 := q1 0 (by omega)
          have w1 := q5 0 (by omega) 0 (by omega)
          rw [if_pos rfl] at w1
          have nv : ∀ x, dot 3 (M' 0) x % p = 0 → nul p 3 3 (M3 p m) x := fun x hx => q4 x (fun r hr => by rw [show r = 0 by omega]; exact hx)
          have zz : (0 : Int) % p = 0 := by simp
          have r01 := nul3.mp (nv (vec3 (M' 0 1) (-(M' 0 0)) 0) (z_of zz (by rw [dot3, vec3_0, vec3_1, vec3_2]; grind)))
          have r02 := nul3.mp (nv (vec3 (M' 0 2) 0 (-(M' 0 0))) (z_of zz (by rw [dot3, vec3_0, vec3_1, vec3_2]; grind)))
          have r12 := nul3.mp (nv (vec3 0 (M' 0 2) (-(M' 0 1))) (z_of zz (by rw [dot3, vec3_0, vec3_1, vec3_2]; grind)))
          simp only [vec3_0, vec3_1, vec3_2, ha, hb, hc, hf, hg, hh] at r01 r02 r12
          generalize hw0 : M' 0 0 = w0 at *
          generalize hw1 : M' 0 1 = wb at *
          generalize hw2 : M' 0 2 = wc at *
          have cs : ∃ s t u : Int, ((2 * a - s * w0) % p = 0 ∧ (hq - s * wb) % p = 0 ∧ (g - s * wc) % p = 0) ∧ ((hq - t * w0) % p = 0 ∧ (2 * b - t * wb) % p = 0 ∧ (f - t * wc) % p = 0) ∧ ((g - u * w0) % p = 0 ∧ (f - u * wb) % p = 0 ∧ (2 * c - u * wc) % p = 0) := by
            have : pc 0 = 0 ∨ pc 0 = 1 ∨ pc 0 = 2 := by omega
            rcases this with e | e | e <;> rw [e] at w1
            · have e1 : w0 = 1 := hw0.symm.trans w1
              subst e1
              refine ⟨2 * a, hq, g, ⟨z_of zz (by grind), z_of (z_neg.mpr r01.1) (by grind), z_of (z_neg.mpr r02.1) (by grind)⟩, ⟨z_of zz (by grind), z_of (z_neg.mpr r01.2.1) (by grind), z_of (z_neg.mpr r02.2.1) (by grind)⟩, z_of zz (by grind), z_of (z_neg.mpr r01.2.2) (by grind), z_of (z_neg.mpr r02.2.2) (by grind)⟩
            · have e1 : wb = 1 := hw1.symm.trans w1
              subst e1
              refine ⟨hq, 2 * b, f, ⟨z_of r01.1 (by grind), z_of zz (by grind), z_of (z_neg.mpr r12.1) (by grind)⟩, ⟨z_of r01.2.1 (by grind), z_of zz (by grind), z_of (z_neg.mpr r12.2.1) (by grind)⟩, z_of r01.2.2 (by grind), z_of zz (by grind), z_of (z_neg.mpr r12.2.2) (by grind)⟩
            · have e1 : wc = 1 := hw2.symm.trans w1
              subst e1
              refine ⟨g, f, 2 * c, ⟨z_of r02.1 (by grind), z_of r12.1 (by grind), z_of zz (by grind)⟩, ⟨z_of r02.2.1 (by grind), z_of r12.2.1 (by grind), z_of zz (by grind)⟩, z_of r02.2.2 (by grind), z_of r12.2.2 (by grind), z_of zz (by grind)⟩
          obtain ⟨s, t, u, ⟨s0, s1, s2⟩, ⟨t0, t1, t2⟩, u0, u1, u2⟩ := cs
          have P1 : (4 * b * c - f * f) % p = 0 := z_of (z_sub (mul_eqm t1 u2) (mul_eqm t2 u1)) (by grind)
          have P2 : (4 * a * c - g * g) % p = 0 := z_of (z_sub (mul_eqm s0 u2) (mul_eqm s2 u0)) (by grind)
          have P3 : (4 * a * b - hq * hq) % p = 0 := z_of (z_sub (mul_eqm s0 t1) (mul_eqm s1 t0)) (by grind)
          unfold sdm
          rw [ha, hb, hc, hf, hg, hh, if_neg (fun z => z P1), if_neg (fun z => z P2)]
          exact P3
        omega
    · rw [if_pos hz]
      rw [hE] at hz
      have hB : Bs p 3 0 (fun _ _ => 0) (nul p 3 3 (M3 p m)) := by
        refine ⟨fun j hj => by omega, fun t _ j hj => by omega, fun x hx => ⟨fun _ => 0, fun i hi => ?_⟩⟩
        obtain ⟨L1, L2, L3⟩ := nul3.mp hx
        simp only [ha, hb, hc, hf, hg, hh] at L1 L2 L3
        have x0 : x 0 % p = 0 := (dvd_prime hp (z_of (z_add (z_add (z_mulL (4 * b * c - f * f) L1) (z_mulL (f * g - 2 * c * hq) L2)) (z_mulL (hq * f - 2 * b * g) L3)) (by grind))).resolve_left hz
        have x1 : x 1 % p = 0 := (dvd_prime hp (z_of (z_add (z_add (z_mulL (f * g - 2 * c * hq) L1) (z_mulL (4 * a * c - g * g) L2)) (z_mulL (g * hq - 2 * a * f) L3)) (by grind))).resolve_left hz
        have x2 : x 2 % p = 0 := (dvd_prime hp (z_of (z_add (z_add (z_mulL (hq * f - 2 * b * g) L1) (z_mulL (g * hq - 2 * a * f) L2)) (z_mulL (4 * a * b - hq * hq) L3)) (by grind))).resolve_left hz
        have e0 : cmb 0 (fun _ => 0) (fun _ _ => (0 : Int)) i = 0 := rfl
        rw [e0, Int.sub_zero]
        have : i = 0 ∨ i = 1 ∨ i = 2 := by omega
        rcases this with rfl | rfl | rfl
        · exact x0
        · exact x1
        · exact x2
      have := RI_dim hp h hB
      omega
