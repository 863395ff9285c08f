/-! points, lines, polars: numbers and what they stand for -/
theorem inv_u {p : Nat} (hp : PR p) {x : Int} (hx : x % p ≠ 0) : ((iv p (x % p).toNat : Int) * x - 1) % p = 0 ∧ (iv p (x % p).toNat : Int) % p ≠ 0 := by
  have hp3 := hp.le
  have e := emod_nn (x := x) (p := p) (by omega)
  obtain ⟨k1, k2, k3, -⟩ := iv_ok (v := (x % p).toNat) hp (by omega) (by omega)
  constructor
  · have h3 : (((x % p).toNat * iv p (x % p).toNat % p : Nat) : Int) = 1 := by rw [k3]; rfl
    rw [Int.natCast_emod, Int.natCast_mul, show (((x % p).toNat : Nat) : Int) = x % p by omega] at h3
    have h4 : (1 : Int) % p = 1 := Int.emod_eq_of_lt (by omega) (by omega)
    have h5 := eqm.mp (h3.trans h4.symm)
    exact z_of (z_sub h5 (z_mulL (iv p (x % p).toNat : Int) (em_sub (p := (p : Int)) (x := x)))) (by grind)
  · rw [Int.emod_eq_of_lt (by omega) (by omega)]; omega
theorem unit_inv {p : Nat} (hp : PR p) {x : Int} (hx : x % p ≠ 0) : ∃ t : Int, t % p ≠ 0 ∧ (t * x - 1) % p = 0 := ⟨_, (inv_u hp hx).2, (inv_u hp hx).1⟩
theorem c_of1 {p Y Z : Nat} (hY : Y < p) (hZ : Z < p) : cX p (p * Y + Z) = 1 ∧ cY p (p * Y + Z) = Y ∧ cZ p (p * Y + Z) = Z ∧ p * Y + Z < p * p := by
  have h : p * Y + Z < p * p := by
    have h1 : p * (Y + 1) ≤ p * p := Nat.mul_le_mul_left p hY
    rw [Nat.mul_add] at h1; omega
  refine ⟨by unfold cX; rw [if_pos h], ?_, ?_, h⟩
  · unfold cY; rw [if_pos h, Nat.mul_add_div (by omega), Nat.div_eq_of_lt hZ, Nat.add_zero]
  · unfold cZ; rw [if_pos h, Nat.mul_add_mod, Nat.mod_eq_of_lt hZ]
theorem c_of2 {p Z : Nat} (hZ : Z < p) : cX p (p * p + Z) = 0 ∧ cY p (p * p + Z) = 1 ∧ cZ p (p * p + Z) = Z := by
  have h1 : ¬ (p * p + Z < p * p) := by omega
  have h2 : p * p + Z < p * p + p := by omega
  refine ⟨by unfold cX; rw [if_neg h1], by unfold cY; rw [if_neg h1, if_pos h2], ?_⟩
  unfold cZ; rw [if_neg h1, if_pos h2, Nat.add_sub_cancel_left]
theorem c_of3 {p : Nat} : cX p (p * p + p) = 0 ∧ cY p (p * p + p) = 0 ∧ cZ p (p * p + p) = 1 := by
  have h1 : ¬ (p * p + p < p * p) := by omega
  have h2 : ¬ (p * p + p < p * p + p) := by omega
  exact ⟨by unfold cX; rw [if_neg h1], by unfold cY; rw [if_neg h1, if_neg h2], by unfold cZ; rw [if_neg h1, if_neg h2]⟩
theorem nb_ok {p : Nat} {x y z : Int} (hp : PR p) (h : ¬ (x % p = 0 ∧ y % p = 0 ∧ z % p = 0)) : ∃ (n : Nat) (s : Int), nb p x y z = (n : Int) ∧ n < NP p ∧ s % p ≠ 0 ∧ (cX p n - s * x) % p = 0 ∧ (cY p n - s * y) % p = 0 ∧ (cZ p n - s * z) % p = 0 := by
  have hp3 := hp.le
  have hN : NP p = p * p + p + 1 := rfl
  have md : ∀ t : Int, ∃ T : Nat, T < p ∧ t % p = (T : Int) := fun t => by
    have e := emod_nn (x := t) (p := p) (by omega)
    exact ⟨(t % p).toNat, by omega, by omega⟩
  have mm : ∀ (t s : Int), (t % p * s % p - s * t) % (p : Int) = 0 := fun t s => by
    have h1 := em_sub (p := (p : Int)) (x := t % p * s)
    have h2 := em_sub (p := (p : Int)) (x := t)
    exact z_of (z_add h1 (z_mulR s h2)) (by grind)
  unfold nb
  by_cases c1 : x % p = 0
  · rw [if_pos c1]
    by_cases c2 : y % p = 0
    · rw [if_pos c2]
      have c3 : ¬ z % p = 0 := fun z' => h ⟨c1, c2, z'⟩
      rw [if_neg c3]
      obtain ⟨i1, i2⟩ := inv_u hp c3
      refine ⟨p * p + p, _, by push_cast; rfl, by omega, i2, ?_, ?_, ?_⟩
      · rw [c_of3.1]; rw [Int.zero_sub]; exact z_neg.mpr (z_mulL _ c1)
      · rw [c_of3.2.1]; rw [Int.zero_sub]; exact z_neg.mpr (z_mulL _ c2)
      · rw [c_of3.2.2]; exact z_of (z_neg.mpr i1) (by grind)
    · rw [if_neg c2]
      obtain ⟨i1, i2⟩ := inv_u hp c2
      obtain ⟨Z, z1, z2⟩ := md (z % p * iv p (y % p).toNat)
      have hz := mm z (iv p (y % p).toNat)
      rw [z2] at hz ⊢
      obtain ⟨d1, d2, d3⟩ := c_of2 z1
      refine ⟨p * p + Z, _, by push_cast; rfl, by omega, i2, ?_, ?_, ?_⟩
      · rw [d1]; rw [Int.zero_sub]; exact z_neg.mpr (z_mulL _ c1)
      · rw [d2]; exact z_of (z_neg.mpr i1) (by grind)
      · rw [d3]; exact hz
  · rw [if_neg c1]
    obtain ⟨i1, i2⟩ := inv_u hp c1
    obtain ⟨Y, y1, y2⟩ := md (y % p * iv p (x % p).toNat)
    obtain ⟨Z, z1, z2⟩ := md (z % p * iv p (x % p).toNat)
    have hy := mm y (iv p (x % p).toNat)
    have hz := mm z (iv p (x % p).toNat)
    rw [y2] at hy
    rw [z2] at hz
    rw [y2, z2]
    obtain ⟨d1, d2, d3, d4⟩ := c_of1 y1 z1
    refine ⟨p * Y + Z, _, by push_cast; rfl, by omega, i2, ?_, ?_, ?_⟩
    · rw [d1]; exact z_of (z_neg.mpr i1) (by grind)
    · rw [d2]; exact hy
    · rw [d3]; exact hz
theorem eq_small {p : Nat} {v w : Int} (hv : 0 ≤ v ∧ v < p) (hw : 0 ≤ w ∧ w < p) (h : (v - w) % p = 0) : v = w := by
  have := eqm.mpr h
  rwa [Int.emod_eq_of_lt hv.1 hv.2, Int.emod_eq_of_lt hw.1 hw.2] at this
theorem c_inj {p n n' : Nat} (hp : 1 < p) (hn : n < NP p) (hn' : n' < NP p) (hx : cX p n = cX p n') (hy : cY p n = cY p n') (hz : cZ p n = cZ p n') : n = n' := by
  have hN : NP p = p * p + p + 1 := rfl
  unfold cX at hx
  unfold cY at hy
  unfold cZ at hz
  by_cases c1 : n < p * p
  · by_cases c2 : n' < p * p
    · rw [if_pos c1, if_pos c2] at hy hz
      have h1 : n / p = n' / p := by omega
      have h2 : n % p = n' % p := by omega
      rw [← Nat.div_add_mod n p, ← Nat.div_add_mod n' p, h1, h2]
    · rw [if_pos c1, if_neg c2] at hx; omega
  · by_cases c2 : n' < p * p
    · rw [if_neg c1, if_pos c2] at hx; omega
    · rw [if_neg c1, if_neg c2] at hy hz
      by_cases c3 : n < p * p + p
      · by_cases c4 : n' < p * p + p
        · rw [if_pos c3, if_pos c4] at hz; omega
        · rw [if_pos c3, if_neg c4] at hy; omega
      · by_cases c4 : n' < p * p + p
        · rw [if_neg c3, if_pos c4] at hy; omega
        · omega
theorem cc_nz {p n : Nat} (hp : PR p) (hn : n < NP p) : ¬ (cX p n % p = 0 ∧ cY p n % p = 0 ∧ cZ p n % p = 0) := by
  rintro ⟨a, b, c⟩
  have one := one_nz hp
  rcases nrm_c (p := p) (by have := hp.le; omega) hn with h | h | h
  · rw [h.1] at a; exact one a
  · rw [h.2.1] at b; exact one b
  · rw [h.2.2] at c; exact one c
theorem nb_uniq {p n : Nat} {x y z s : Int} (hp : PR p) (hn : n < NP p) (hs : s % p ≠ 0) (h0 : (cX p n - s * x) % p = 0) (h1 : (cY p n - s * y) % p = 0) (h2 : (cZ p n - s * z) % p = 0) : nb p x y z = (n : Int) := by
  have hp3 := hp.le
  have nz : ¬ (x % p = 0 ∧ y % p = 0 ∧ z % p = 0) := by
    rintro ⟨a, b, c⟩
    refine cc_nz hp hn ⟨?_, ?_, ?_⟩
    · exact z_of (z_add h0 (z_mulL s a)) (by grind)
    · exact z_of (z_add h1 (z_mulL s b)) (by grind)
    · exact z_of (z_add h2 (z_mulL s c)) (by grind)
  obtain ⟨n', s', e, hn', hs', g0, g1, g2⟩ := nb_ok hp nz
  rw [e]
  have k0 : (s' * cX p n - s * cX p n') % p = 0 := z_of (z_sub (z_mulL s' h0) (z_mulL s g0)) (by grind)
  have k1 : (s' * cY p n - s * cY p n') % p = 0 := z_of (z_sub (z_mulL s' h1) (z_mulL s g1)) (by grind)
  have k2 : (s' * cZ p n - s * cZ p n') % p = 0 := z_of (z_sub (z_mulL s' h2) (z_mulL s g2)) (by grind)
  have fin : ∀ v w : Int, 0 ≤ v ∧ v < p → 0 ≤ w ∧ w < p → (s' - s) % p = 0 → (s' * v - s * w) % p = 0 → v = w := by
    intro v w hv hw hss hvw
    refine eq_small hv hw ?_
    have h3 : (s * (v - w)) % p = 0 := z_of (z_sub hvw (z_mulR v hss)) (by grind)
    exact (dvd_prime hp h3).resolve_left hs
  congr 1
  have a := nrm_c (p := p) (by omega) hn
  have b := nrm_c (p := p) (by omega) hn'
  symm
  rcases a with ⟨a1, a2, a3, a4, a5⟩ | ⟨a1, a2, a3, a4⟩ | ⟨a1, a2, a3⟩ <;> rcases b with ⟨b1, b2, b3, b4, b5⟩ | ⟨b1, b2, b3, b4⟩ | ⟨b1, b2, b3⟩
  · rw [a1, b1] at k0
    have hss : (s' - s) % p = 0 := z_of k0 (by grind)
    exact c_inj (by omega) hn hn' (by rw [a1, b1]) (fin _ _ ⟨a2, a3⟩ ⟨b2, b3⟩ hss k1) (fin _ _ ⟨a4, a5⟩ ⟨b4, b5⟩ hss k2)
  · rw [a1, b1] at k0; exact absurd (z_of k0 (by grind)) hs'
  · rw [a1, b1] at k0; exact absurd (z_of k0 (by grind)) hs'
  · rw [a1, b1] at k0; exact absurd (z_of (z_neg.mpr k0) (by grind)) hs
  · rw [a2, b2] at k1
    have hss : (s' - s) % p = 0 := z_of k1 (by grind)
    exact c_inj (by omega) hn hn' (by rw [a1, b1]) (by rw [a2, b2]) (fin _ _ ⟨a3, a4⟩ ⟨b3, b4⟩ hss k2)
  · rw [a2, b2] at k1; exact absurd (z_of k1 (by grind)) hs'
  · rw [a1, b1] at k0; exact absurd (z_of (z_neg.mpr k0) (by grind)) hs
  · rw [a2, b2] at k1; exact absurd (z_of (z_neg.mpr k1) (by grind)) hs
  · exact c_inj (by omega) hn hn' (by rw [a1, b1]) (by rw [a2, b2]) (by rw [a3, b3])
theorem li_nb {p q : Nat} {x y z : Int} (hp : PR p) (h : ¬ (x % p = 0 ∧ y % p = 0 ∧ z % p = 0)) : liB p q (nb p x y z).toNat = decide ((x * cX p q + y * cY p q + z * cZ p q) % p = 0) := by
  obtain ⟨n, s, e, hn, hs, g0, g1, g2⟩ := nb_ok hp h
  rw [e, Int.toNat_natCast, liB_eq]
  have key : ((cX p n * cX p q + cY p n * cY p q + cZ p n * cZ p q) - s * (x * cX p q + y * cY p q + z * cZ p q)) % p = 0 := z_of (z_add (z_add (z_mulR (cX p q) g0) (z_mulR (cY p q) g1)) (z_mulR (cZ p q) g2)) (by grind)
  refine dec_iff ?_
  rw [eqm.mpr key]
  exact ⟨fun h => (dvd_prime hp h).resolve_left hs, fun h => z_mulL _ h⟩
/-- polars -/
theorem plv_plr {m : Nat → Int} {p n : Nat} : plv m p n = nb p (plr m (cX p n) (cY p n) (cZ p n)).1 (plr m (cX p n) (cY p n) (cZ p n)).2.1 (plr m (cX p n) (cY p n) (cZ p n)).2.2 := rfl
theorem pol_nz {p : Nat} {m : Nat → Int} {x y z : Int} (hp : PR p) (he : e6m m % p ≠ 0) (h : ¬ (x % p = 0 ∧ y % p = 0 ∧ z % p = 0)) : ¬ ((plr m x y z).1 % p = 0 ∧ (plr m x y z).2.1 % p = 0 ∧ (plr m x y z).2.2 % p = 0) := by
  rintro ⟨a, b, c⟩
  unfold plr at a b c
  unfold e6m e6 at he
  dsimp only at a b c
  refine h ⟨?_, ?_, ?_⟩
  · exact (dvd_prime hp (z_of (z_add (z_add (z_mulL (4 * m 1 * m 2 - m 3 * m 3) a) (z_mulL (m 3 * m 4 - 2 * m 2 * m 5) b)) (z_mulL (m 5 * m 3 - 2 * m 1 * m 4) c)) (by grind))).resolve_left he
  · exact (dvd_prime hp (z_of (z_add (z_add (z_mulL (m 3 * m 4 - 2 * m 2 * m 5) a) (z_mulL (4 * m 0 * m 2 - m 4 * m 4) b)) (z_mulL (m 4 * m 5 - 2 * m 0 * m 3) c)) (by grind))).resolve_left he
  · exact (dvd_prime hp (z_of (z_add (z_add (z_mulL (m 5 * m 3 - 2 * m 1 * m 4) a) (z_mulL (m 4 * m 5 - 2 * m 0 * m 3) b)) (z_mulL (4 * m 0 * m 1 - m 5 * m 5) c)) (by grind))).resolve_left he
theorem plv_ok {p n : Nat} {m : Nat → Int} (hp : PR p) (he : e6m m % p ≠ 0) (hn : n < NP p) : ∃ (l : Nat) (s : Int), plv m p n = (l : Int) ∧ l < NP p ∧ s % p ≠ 0 ∧ (cX p l - s * (plr m (cX p n) (cY p n) (cZ p n)).1) % p = 0 ∧ (cY p l - s * (plr m (cX p n) (cY p n) (cZ p n)).2.1) % p = 0 ∧ (cZ p l - s * (plr m (cX p n) (cY p n) (cZ p n)).2.2) % p = 0 := nb_ok hp (pol_nz hp he (cc_nz hp hn))
theorem tn_li {p pt k : Nat} {m : Nat → Int} (hp : PR p) (he : e6m m % p ≠ 0) (hpt : pt < NP p) (hk : k < NP p) : liB p pt (plv m p k).toNat = liB p k (plv m p pt).toNat := by
  rw [plv_plr, plv_plr, li_nb hp (pol_nz hp he (cc_nz hp hk)), li_nb hp (pol_nz hp he (cc_nz hp hpt))]
  unfold plr
  dsimp only
  congr 2
  congr 1
  grind
/-- the tangents through a point are the meets of its polar -/
theorem tn_meet {p pt l : Nat} {m : Nat → Int} (hp : PR p) (he : e6m m % p ≠ 0) (hpt : pt < NP p) (hl : plv m p pt = (l : Int)) (hl2 : l < NP p) : ((ct (tnB m p pt) (NP p) : Nat) : Int) = meetN p m (cX p l) (cY p l) (cZ p l) := by
  rw [← meet_on hp hl2]
  congr 1
  refine ct_congr (fun k hk => ?_)
  unfold tnB
  rw [tn_li hp he hpt hk, hl, Int.toNat_natCast, Bool.and_comm]
theorem du_plr {m : Nat → Int} {x y z : Int} : qv (du m) (plr m x y z).1 (plr m x y z).2.1 (plr m x y z).2.2 = 2 * e6m m * qv m x y z := by
  unfold qv plr e6m e6
  simp only [du, v6_0, v6_1, v6_2, v6_3, v6_4, v6_5]
  generalize m 0 = a; generalize m 1 = b; generalize m 2 = c; generalize m 3 = f; generalize m 4 = g; generalize m 5 = h
  grind
theorem qv_scale {p : Nat} {m : Nat → Int} {x y z u v w s : Int} (h0 : (u - s * x) % p = 0) (h1 : (v - s * y) % p = 0) (h2 : (w - s * z) % p = 0) : (qv m u v w - s * s * qv m x y z) % p = 0 := by
  unfold qv
  have a := mul_eqm h0 h0; have b := mul_eqm h1 h1; have c := mul_eqm h2 h2; have d := mul_eqm h1 h2; have e := mul_eqm h2 h0; have f := mul_eqm h0 h1
  exact z_of (z_add (z_add (z_add (z_add (z_add (z_mulL (m 0) a) (z_mulL (m 1) b)) (z_mulL (m 2) c)) (z_mulL (m 3) d)) (z_mulL (m 4) e)) (z_mulL (m 5) f)) (by grind)
theorem l_du {p l : Nat} {m : Nat → Int} (hp : PR p) (hl : l < NP p) : lB (m 0) (m 3) (m 4) (m 5) (cX p l) (cY p l) (cZ p l) * lB (m 0) (m 3) (m 4) (m 5) (cX p l) (cY p l) (cZ p l) - 4 * lA (m 0) (m 1) (m 5) (cX p l) (cY p l) * lC (m 0) (m 1) (m 2) (m 3) (m 4) (cX p l) (cY p l) (cZ p l) = - qv (du m) (cX p l) (cY p l) (cZ p l) := by
  have hp3 := hp.le
  have hn := nrm_c (p := p) (by omega) hl
  have h : cX p l = 1 ∨ (cX p l = 0 ∧ cY p l = 1) ∨ (cX p l = 0 ∧ cY p l = 0 ∧ cZ p l = 1) := by
    rcases hn with h | h | h
    · exact Or.inl h.1
    · exact Or.inr (Or.inl ⟨h.1, h.2.1⟩)
    · exact Or.inr (Or.inr h)
  rw [l_disc h]
  rfl
/-- a line meets a proper conic in at most two points -/
theorem meet_4 {p l : Nat} {m : Nat → Int} (hp : PR p) (he : e6m m % p ≠ 0) (hl : l < NP p) : meetN p m (cX p l) (cY p l) (cZ p l) = 1 + chi p (- qv (du m) (cX p l) (cY p l) (cZ p l)) := by
  have nz : ¬ zm p m := fun z => he (e6_zm z)
  have h0 : ct (allB m p) (NP p) = 0 := by
    have := lines_on hp nz
    rw [if_neg he] at this; omega
  have h1 := ct_z h0 l hl
  rw [all_lz hp hl] at h1
  unfold lzm lz at h1
  have h2 := of_decide_eq_false h1
  rw [← l_du hp hl]
  exact (zf_lt hp h2).1
theorem tn_012 {p pt : Nat} {m : Nat → Int} (hp : PR p) (he : e6m m % p ≠ 0) (hpt : pt < NP p) : (onB m p pt = true ∧ ct (tnB m p pt) (NP p) = 1) ∨ (onB m p pt = false ∧ (ct (tnB m p pt) (NP p) = 0 ∨ ct (tnB m p pt) (NP p) = 2)) := by
  obtain ⟨l, s, e, hl, hs, g0, g1, g2⟩ := plv_ok hp he hpt
  have h1 := tn_meet hp he hpt e hl
  rw [meet_4 hp he hl] at h1
  have h2 := qv_scale (m := du m) g0 g1 g2
  rw [du_plr] at h2
  have key : (- qv (du m) (cX p l) (cY p l) (cZ p l)) % p = 0 ↔ qv m (cX p pt) (cY p pt) (cZ p pt) % p = 0 := by
    rw [z_neg, eqm.mpr h2]
    constructor
    · intro h
      have h3 := (dvd_prime hp h).resolve_left (nz_mul hp hs hs)
      exact (dvd_prime hp h3).resolve_left (nz_mul hp hp.two he)
    · intro h; exact z_mulL _ (z_mulL _ h)
  unfold onB
  by_cases c : qv m (cX p pt) (cY p pt) (cZ p pt) % p = 0
  · refine Or.inl ⟨decide_eq_true c, ?_⟩
    rw [chi0 hp (key.mpr c)] at h1; omega
  · refine Or.inr ⟨decide_eq_false c, ?_⟩
    rcases chi_pm hp (fun z => c (key.mp z)) with r | r <;> rw [r] at h1
    · right; omega
    · left; omega
/-- points outside and inside -/
theorem sided_ct {p : Nat} {m : Nat → Int} (hp : PR p) (he : e6m m % p ≠ 0) : 2 * ct (fun k => lieV m p k 4 == 1) (NP p) = p * (p + 1) ∧ ct (fun k => lieV m p k 4 == 1) (NP p) + ct (fun k => lieV m p k 4 == 2) (NP p) = p * p := by
  have hp3 := hp.le
  have nz : ¬ zm p m := fun z => he (e6_zm z)
  have hon : ct (onB m p) (NP p) = p + 1 := by
    have := pts_on hp nz
    rw [if_neg he] at this; omega
  -- all pairs
  have S1 : sm (fun pt => ((ct (tnB m p pt) (NP p) : Nat) : Int)) (NP p) = (p + 1) * (p + 1) := by
    have e1 : sm (fun pt => ((ct (tnB m p pt) (NP p) : Nat) : Int)) (NP p) = sm (fun pt => sm (fun k => if tnB m p pt k = true then (1 : Int) else 0) (NP p)) (NP p) := sm_congr (fun pt _ => ct_sm)
    have e2 : sm (fun k => sm (fun pt => if tnB m p pt k = true then (1 : Int) else 0) (NP p)) (NP p) = sm (fun k => (p + 1 : Int) * (if onB m p k = true then 1 else 0)) (NP p) := sm_congr (fun k hk => by
      by_cases c : onB m p k = true
      · rw [if_pos c, Int.mul_one]
        obtain ⟨l, s, e, hl, -⟩ := plv_ok hp he hk
        have hl2 := line_pts hp hl
        rw [← hl2, ct_sm]
        refine sm_congr (fun pt _ => ?_)
        unfold tnB
        rw [c, e, Int.toNat_natCast, Bool.true_and]
      · rw [if_neg c, Int.mul_zero]
        have z : ∀ pt, tnB m p pt k = false := fun pt => by
          unfold tnB
          have c' : onB m p k = false := by simpa using c
          rw [c', Bool.false_and]
        rw [sm_congr (G := fun _ => (0 : Int)) (fun pt _ => by rw [z pt]; rfl)]
        exact sm_zero)
    rw [e1, sm_swap, e2, sm_mulL, ← ct_sm, hon]
    push_cast; rfl
  have S2 : sm (fun pt => ((ct (tnB m p pt) (NP p) : Nat) : Int)) (NP p) = sm (fun pt => (if onB m p pt = true then (1 : Int) else 0) + 2 * (if (lieV m p pt 4 == 1) = true then 1 else 0)) (NP p) := sm_congr (fun pt hpt => by
    unfold lieV
    rcases tn_012 hp he hpt with ⟨a, b⟩ | ⟨a, b⟩
    · rw [a, b]; simp
    · rcases b with b | b <;> rw [a, b] <;> simp)
  rw [S1, sm_add, sm_mulL, ← ct_sm, ← ct_sm, hon] at S2
  have hN : NP p = p * p + p + 1 := rfl
  have T : ct (onB m p) (NP p) + ct (fun k => lieV m p k 4 == 1) (NP p) + ct (fun k => lieV m p k 4 == 2) (NP p) = NP p := by
    have e3 : (((ct (onB m p) (NP p) + ct (fun k => lieV m p k 4 == 1) (NP p) + ct (fun k => lieV m p k 4 == 2) (NP p) : Nat)) : Int) = sm (fun _ => (1 : Int)) (NP p) := by
      push_cast
      rw [ct_sm, ct_sm, ct_sm, ← sm_add, ← sm_add]
      refine sm_congr (fun pt hpt => ?_)
      unfold lieV
      rcases tn_012 hp he hpt with ⟨a, b⟩ | ⟨a, b⟩
      · rw [a]; simp
      · rcases b with b | b <;> rw [a, b] <;> simp
    rw [sm_const] at e3; omega
  have e4 : ((p : Int) + 1) * ((p : Int) + 1) = ((p * p + p + p + 1 : Nat) : Int) := by push_cast; grind
  have e5 : p * (p + 1) = p * p + p := by rw [Nat.mul_add, Nat.mul_one]
  rw [e4] at S2
  constructor
  · rw [e5]; omega
  · omega
/-- a line is a tangent where the dual is nought -/
def tgB (m : Nat → Int) (p l : Nat) : Bool := (fs (fun k => onB m p k && decide (plv m p k = (l : Int))) (NP p)).isSome
theorem adj_plr {m : Nat → Int} {x y z : Int} : plr m (plr (du m) x y z).1 (plr (du m) x y z).2.1 (plr (du m) x y z).2.2 = (2 * e6m m * x, 2 * e6m m * y, 2 * e6m m * z) := by
  unfold plr e6m e6
  simp only [du, v6_0, v6_1, v6_2, v6_3, v6_4, v6_5]
  generalize m 0 = a; generalize m 1 = b; generalize m 2 = c; generalize m 3 = f; generalize m 4 = g; generalize m 5 = h
  refine Prod.ext ?_ (Prod.ext ?_ ?_) <;> dsimp only <;> grind
theorem plr_adj {m : Nat → Int} {x y z : Int} : plr (du m) (plr m x y z).1 (plr m x y z).2.1 (plr m x y z).2.2 = (2 * e6m m * x, 2 * e6m m * y, 2 * e6m m * z) := by
  unfold plr e6m e6
  simp only [du, v6_0, v6_1, v6_2, v6_3, v6_4, v6_5]
  generalize m 0 = a; generalize m 1 = b; generalize m 2 = c; generalize m 3 = f; generalize m 4 = g; generalize m 5 = h
  refine Prod.ext ?_ (Prod.ext ?_ ?_) <;> dsimp only <;> grind
theorem plr_scale {p : Nat} {m : Nat → Int} {x y z u v w s : Int} (h0 : (u - s * x) % p = 0) (h1 : (v - s * y) % p = 0) (h2 : (w - s * z) % p = 0) : ((plr m u v w).1 - s * (plr m x y z).1) % p = 0 ∧ ((plr m u v w).2.1 - s * (plr m x y z).2.1) % p = 0 ∧ ((plr m u v w).2.2 - s * (plr m x y z).2.2) % p = 0 := by
  unfold plr
  dsimp only
  refine ⟨?_, ?_, ?_⟩
  · exact z_of (z_add (z_add (z_mulL (2 * m 0) h0) (z_mulL (m 5) h1)) (z_mulL (m 4) h2)) (by grind)
  · exact z_of (z_add (z_add (z_mulL (m 5) h0) (z_mulL (2 * m 1) h1)) (z_mulL (m 3) h2)) (by grind)
  · exact z_of (z_add (z_add (z_mulL (m 4) h0) (z_mulL (m 3) h1)) (z_mulL (2 * m 2) h2)) (by grind)
/-- the pole: the one point of which a line is the polar -/
theorem pole_ok {p l : Nat} {m : Nat → Int} (hp : PR p) (he : e6m m % p ≠ 0) (hl : l < NP p) : ∃ k : Nat, k < NP p ∧ nb p (plr (du m) (cX p l) (cY p l) (cZ p l)).1 (plr (du m) (cX p l) (cY p l) (cZ p l)).2.1 (plr (du m) (cX p l) (cY p l) (cZ p l)).2.2 = (k : Int) ∧ plv m p k = (l : Int) ∧ ∀ k', k' < NP p → plv m p k' = (l : Int) → k' = k := by
  have d2 : (2 * e6m m) % p ≠ 0 := nz_mul hp hp.two he
  have nz : ¬ ((plr (du m) (cX p l) (cY p l) (cZ p l)).1 % p = 0 ∧ (plr (du m) (cX p l) (cY p l) (cZ p l)).2.1 % p = 0 ∧ (plr (du m) (cX p l) (cY p l) (cZ p l)).2.2 % p = 0) := by
    rintro ⟨a, b, c⟩
    have e := adj_plr (m := m) (x := cX p l) (y := cY p l) (z := cZ p l)
    generalize (plr (du m) (cX p l) (cY p l) (cZ p l)).1 = X at *
    generalize (plr (du m) (cX p l) (cY p l) (cZ p l)).2.1 = Y at *
    generalize (plr (du m) (cX p l) (cY p l) (cZ p l)).2.2 = Z at *
    have e0 := congrArg (fun t => t.1) e
    have e1 := congrArg (fun t => t.2.1) e
    have e2 := congrArg (fun t => t.2.2) e
    dsimp only at e0 e1 e2
    unfold plr at e0 e1 e2
    dsimp only at e0 e1 e2
    refine cc_nz hp hl ⟨?_, ?_, ?_⟩
    · refine (dvd_prime hp (x := 2 * e6m m) ?_).resolve_left d2
      rw [← e0]; exact z_add (z_add (z_mulL _ a) (z_mulL _ b)) (z_mulL _ c)
    · refine (dvd_prime hp (x := 2 * e6m m) ?_).resolve_left d2
      rw [← e1]; exact z_add (z_add (z_mulL _ a) (z_mulL _ b)) (z_mulL _ c)
    · refine (dvd_prime hp (x := 2 * e6m m) ?_).resolve_left d2
      rw [← e2]; exact z_add (z_add (z_mulL _ a) (z_mulL _ b)) (z_mulL _ c)
  obtain ⟨k, s, e, hk, hs, g0, g1, g2⟩ := nb_ok hp nz
  refine ⟨k, hk, e, ?_, ?_⟩
  · obtain ⟨f0, f1, f2⟩ := plr_scale (m := m) g0 g1 g2
    rw [adj_plr] at f0 f1 f2
    dsimp only at f0 f1 f2
    obtain ⟨t, ht, ht1⟩ := unit_inv hp (nz_mul hp hs d2)
    rw [plv_plr]
    refine nb_uniq hp hl ht ?_ ?_ ?_
    · exact z_of (z_neg.mpr (z_add (z_mulL t f0) (z_mulR (cX p l) ht1))) (by grind)
    · exact z_of (z_neg.mpr (z_add (z_mulL t f1) (z_mulR (cY p l) ht1))) (by grind)
    · exact z_of (z_neg.mpr (z_add (z_mulL t f2) (z_mulR (cZ p l) ht1))) (by grind)
  · intro k' hk' hkl
    obtain ⟨l', s', e', hl', hs', q0, q1, q2⟩ := plv_ok hp he hk'
    have : l' = l := by rw [hkl] at e'; omega
    subst this
    obtain ⟨f0, f1, f2⟩ := plr_scale (m := du m) q0 q1 q2
    rw [plr_adj] at f0 f1 f2
    dsimp only at f0 f1 f2
    obtain ⟨t, ht, ht1⟩ := unit_inv hp (nz_mul hp hs' d2)
    have := nb_uniq (x := (plr (du m) (cX p l') (cY p l') (cZ p l')).1) (y := (plr (du m) (cX p l') (cY p l') (cZ p l')).2.1) (z := (plr (du m) (cX p l') (cY p l') (cZ p l')).2.2) hp hk' ht
      (z_of (z_neg.mpr (z_add (z_mulL t f0) (z_mulR (cX p k') ht1))) (by grind)) (z_of (z_neg.mpr (z_add (z_mulL t f1) (z_mulR (cY p k') ht1))) (by grind)) (z_of (z_neg.mpr (z_add (z_mulL t f2) (z_mulR (cZ p k') ht1))) (by grind))
    rw [e] at this; omega
theorem tg_du {p l : Nat} {m : Nat → Int} (hp : PR p) (he : e6m m % p ≠ 0) (hl : l < NP p) : tgB m p l = decide (qv (du m) (cX p l) (cY p l) (cZ p l) % p = 0) := by
  obtain ⟨k, hk, e, hpl, hu⟩ := pole_ok hp he hl
  have key : onB m p k = decide (qv (du m) (cX p l) (cY p l) (cZ p l) % p = 0) := by
    obtain ⟨l', s, e', hl', hs, g0, g1, g2⟩ := plv_ok hp he hk
    have : l' = l := by rw [hpl] at e'; omega
    subst this
    have h2 := qv_scale (m := du m) g0 g1 g2
    rw [du_plr] at h2
    unfold onB
    refine dec_iff ?_
    rw [eqm.mpr h2]
    constructor
    · intro h; exact z_mulL _ (z_mulL _ h)
    · intro h
      have h3 := (dvd_prime hp h).resolve_left (nz_mul hp hs hs)
      exact (dvd_prime hp h3).resolve_left (nz_mul hp hp.two he)
  unfold tgB
  rw [← key]
  cases c : onB m p k with
  | true =>
    cases hfs : fs (fun k => onB m p k && decide (plv m p k = (l : Int))) (NP p) with
    | some j => rfl
    | none =>
      have := fs_none.mp hfs k hk
      rw [c, decide_eq_true hpl] at this; cases this
  | false =>
    cases hfs : fs (fun k => onB m p k && decide (plv m p k = (l : Int))) (NP p) with
    | none => rfl
    | some j =>
      obtain ⟨j1, j2, -⟩ := fs_some hfs
      rw [Bool.and_eq_true] at j2
      have := hu j j1 (of_decide_eq_true j2.2)
      rw [this, c] at j2; cases j2.1
