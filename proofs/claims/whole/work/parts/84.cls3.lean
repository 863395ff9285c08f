/-! THE CLASS's leaves: lines, forms, sorts -/
theorem c_zeros {σ : Sto} {k p : Nat} {A B C : Int} (hp : PR p) (h1 : σ k 1 = iI p) (ha : rg32 A) (hb : rg32 B) (hc : rg32 C) : MX0_zeros σ k (iI A) (iI B) (iI C) = some (iI (zf p A B C)) := by
  have hp3 := hp.le
  have ea := emod_nn (x := A) (p := p) (by omega)
  have eb := emod_nn (x := B) (p := p) (by omega)
  have ec := emod_nn (x := C) (p := p) (by omega)
  have z0 : ∀ u : Int, (iI (u % p) = 0 ↔ u % p = 0) := fun u => iI_z (emod_nn (by omega)).1 (by have := (emod_nn (x := u) (p := p) (by omega)).2; omega)
  have T : ¬ (A % p = 0 ∧ B % p = 0 ∧ C % p = 0) → BX0_zeros_52 σ k (iI A) (iI B) (iI C) (iI (A % p)) (iI (B % p)) (iI (C % p)) = some (iI (zf p A B C)) := by
    intro hn
    have e : ((B % p * (B % p) - 4 * (A % p) * (C % p)) - (B * B - 4 * A * C)) % (p : Int) = 0 := by
      have h2 := mul_eqm (em_sub (p := (p : Int)) (x := B)) (em_sub (p := (p : Int)) (x := B))
      have h3 := mul_eqm (em_sub (p := (p : Int)) (x := A)) (em_sub (p := (p : Int)) (x := C))
      exact z_of (z_sub h2 (z_mulL 4 h3)) (by grind)
    have e' := eqm.mpr e
    have hB := b23 hp eb; have hA := b23 hp ea; have hC := b23 hp ec
    unfold BX0_zeros_52
    rw [h1, i4, iI_mul, iI_mul, iI_mul, iI_sub, c_rest hp (bd_rg (bd_sub (bd_mul hB hB) (bd_mul (bd_mul (bd_lit 4) hA) hC)) (by decide)), ob_some, bn_eq, e']
    unfold zf
    rw [if_neg hn]
    have hd := emod_nn (x := B * B - 4 * A * C) (p := p) (by omega)
    by_cases q : (B * B - 4 * A * C) % p = 0
    · rw [if_pos ((z0 _).mpr q), chi0 hp q]; rfl
    · rw [if_neg (fun z => q ((z0 _).mp z)), c_square hp ⟨by omega, by omega⟩, ob_some, chi_mod]
      rcases chi_pm hp q with r | r <;> rw [r] <;> rfl
  unfold MX0_zeros
  rw [h1, c_rest hp ha, ob_some, bn_eq, c_rest hp hb, ob_some, bn_eq, c_rest hp hc, ob_some, bn_eq]
  by_cases c1 : A % p = 0
  · rw [if_pos ((z0 _).mpr c1)]
    by_cases c2 : B % p = 0
    · rw [if_pos ((z0 _).mpr c2)]
      by_cases c3 : C % p = 0
      · rw [if_pos ((z0 _).mpr c3)]
        unfold zf
        rw [if_pos ⟨c1, c2, c3⟩, show (1 : Int32) = iI 1 from rfl, iI_add]
      · rw [if_neg (fun z => c3 ((z0 _).mp z))]; exact T (fun z => c3 z.2.2)
    · rw [if_neg (fun z => c2 ((z0 _).mp z))]; exact T (fun z => c2 z.2.1)
  · rw [if_neg (fun z => c1 ((z0 _).mp z))]; exact T (fun z => c1 z.1)
theorem c_cross {σ : Sto} {ρ : Rho} {k t p : Nat} {m : Nat → Int} {u v w : Int} (hk : ρ k 0 = some (k + 1)) (hp : PR p) (h : Cv σ k p m) (ht : Tr σ t u v w) (hb : bd3 u v w 23) : MX0_crossings σ ρ k t = some (iI (meetN p m u v w)) := by
  obtain ⟨h1, h2, h3⟩ := h
  obtain ⟨t0, t1, t2⟩ := ht
  obtain ⟨hu, hv, hw⟩ := hb
  have h0 := b23 hp (h3 0 (by omega)); have hm1 := b23 hp (h3 1 (by omega)); have hm2 := b23 hp (h3 2 (by omega)); have hm3 := b23 hp (h3 3 (by omega)); have h4 := b23 hp (h3 4 (by omega)); have h5 := b23 hp (h3 5 (by omega))
  have zu : iI u = 0 ↔ u = 0 := by rw [show (0 : Int32) = iI 0 from rfl, iI_eq (bd_rg hu (by decide)) ⟨by omega, by omega⟩]
  have zv : iI v = 0 ↔ v = 0 := by rw [show (0 : Int32) = iI 0 from rfl, iI_eq (bd_rg hv (by decide)) ⟨by omega, by omega⟩]
  unfold MX0_crossings
  simp only [hk, t0, t1, t2, bn_eq, ↓ob_some, h2 0 (by omega), h2 1 (by omega), h2 2 (by omega), h2 3 (by omega), h2 4 (by omega), h2 5 (by omega), i2, iI_mul, iI_add, iI_sub]
  unfold meetN lA lB lC
  by_cases c1 : u = 0
  · rw [if_pos (zu.mpr c1), if_pos c1, if_pos c1, if_pos c1]
    by_cases c2 : v = 0
    · rw [if_pos (zv.mpr c2), if_pos c2, if_pos c2, c_zeros hp h1 (bd_rg h0 (by decide)) (bd_rg h5 (by decide)) (bd_rg hm1 (by decide)), ob_some]
    · rw [if_neg (fun z => c2 (zv.mp z)), if_neg c2, if_neg c2, c_zeros hp h1 (bd_rg h0 (by decide)) (bd_rg (bd_sub h4 (bd_mul h5 hw)) (by decide)) (bd_rg (bd_sub (bd_add (bd_mul (bd_mul hm1 hw) hw) hm2) (bd_mul hm3 hw)) (by decide)), ob_some]
  · rw [if_neg (fun z => c1 (zu.mp z)), if_neg c1, if_neg c1, if_neg c1, c_zeros hp h1 (bd_rg (bd_sub (bd_add (bd_mul (bd_mul h0 hv) hv) hm1) (bd_mul h5 hv)) (by decide)) (bd_rg (bd_sub (bd_sub (bd_add (bd_mul (bd_mul (bd_mul (bd_lit 2) h0) hv) hw) hm3) (bd_mul h4 hv)) (bd_mul h5 hw)) (by decide)) (bd_rg (bd_sub (bd_add (bd_mul (bd_mul h0 hw) hw) hm2) (bd_mul h4 hw)) (by decide)), ob_some]
theorem c_nth {σ : Sto} {k i : Nat} {v : Nat → Int} (h : FI σ k v) (hi : i < 6) : MX3_nth σ k (iI i) = some (iI (v i)) := by
  rw [← h i hi]
  rcases c6 hi with rfl | rfl | rfl | rfl | rfl | rfl <;> rfl
theorem c_change {σ : Sto} {k i : Nat} {x : Int32} (hi : i < 6) : MX3_change σ k (iI i) x = some (su σ k i x) := by
  rcases c6 hi with rfl | rfl | rfl | rfl | rfl | rfl <;> rfl
def vset (v : Nat → Int) (i : Nat) (x : Int) (j : Nat) : Int := if j = i then x else v j
theorem FI_set {σ : Sto} {k i : Nat} {v : Nat → Int} {x : Int} (h : FI σ k v) : FI (su σ k i (iI x)) k (vset v i x) := by
  intro j hj
  unfold vset
  by_cases q : j = i
  · rw [if_pos q, q, su_s]
  · rw [if_neg q, su_i q]; exact h j hj
/-- not one the other times a number, by pairs -/
def mnr (p : Nat) (m m' : Nat → Int) (i j : Nat) : Int := (m i * m' j - m j * m' i) % p
def unl (p : Nat) (m m' : Nat → Int) : Prop := ∃ i j, i < j ∧ j < 6 ∧ mnr p m m' i j ≠ 0
theorem c_unlike {σ : Sto} {ρ : Rho} {k o p : Nat} {m m' : Nat → Int} (hk : ρ k 0 = some (k + 1)) (ho : ρ o 0 = some (o + 1)) (hp : PR p) (h : Cv σ k p m) (h' : Cv σ o p m') : (unl p m m' ∧ MX0_isUnlike σ ρ k o = some 1) ∨ (¬ unl p m m' ∧ MX0_isUnlike σ ρ k o = some 0) := by
  have hp3 := hp.le
  unfold MX0_isUnlike
  rw [bn_eq]
  refine run_g (S := Unit) (call := fun (g : Int32 → Option Int32) _ (i : Nat) => g (iI i)) (N := 6) (I := fun i _ => ∀ i' j, i' < i → i' < j → j < 6 → mnr p m m' i' j = 0) (Post := fun o => (unl p m m' ∧ o = some 1) ∨ (¬ unl p m m' ∧ o = some 0)) ?_ ?_ (by unfold FU; omega) (k0 := 0) (by omega) (s := ()) (fun i j hi => by omega)
  · intro g _ h
    refine Or.inr ⟨fun ⟨i, j, h1, h2, h3⟩ => h3 (h i j (by omega) h1 h2), ?_⟩
    unfold FX0_isUnlike_2
    rw [if_pos (by decide)]; exact zr0 _
  · intro g _ i hI hi ih
    show (unl p m m' ∧ FX0_isUnlike_2 σ ρ k o g (iI i) = some 1) ∨ (¬ unl p m m' ∧ FX0_isUnlike_2 σ ρ k o g (iI i) = some 0)
    unfold FX0_isUnlike_2
    rw [if_neg (by rw [w6, iI_leN (by omega) (by omega)]; omega), bn_eq, iI_succ]
    refine run_g (S := Unit) (call := fun (g : Int32 → Int32 → Option Int32) _ (j : Nat) => g (iI i) (iI j)) (N := 6) (I := fun j _ => ∀ j', i < j' → j' < j → mnr p m m' i j' = 0) (Post := fun o => (unl p m m' ∧ o = some 1) ∨ (¬ unl p m m' ∧ o = some 0)) ?_ ?_ (by unfold FU; omega) (k0 := i + 1) (by omega) (s := ()) (fun j h1 h2 => by omega)
    · intro g2 _ hJ
      show (unl p m m' ∧ FX0_isUnlike_12 σ ρ k o (BX0_isUnlike_75 σ ρ k o g) g2 (iI i) (iI (6 : Nat)) = some 1) ∨ (¬ unl p m m' ∧ FX0_isUnlike_12 σ ρ k o (BX0_isUnlike_75 σ ρ k o g) g2 (iI i) (iI (6 : Nat)) = some 0)
      unfold FX0_isUnlike_12 BX0_isUnlike_75
      rw [if_pos (by decide), bn_eq, iI_succ]
      refine ih () (fun i' j h1 h2 h3 => ?_)
      by_cases q : i' = i
      · rw [q]; exact hJ j (by omega) h3
      · exact hI i' j (by omega) h2 h3
    · intro g2 _ j hJ hj ih2
      by_cases hij : i < j
      · have a := b23 hp (h.2.2 i hi); have b := b23 hp (h'.2.2 j hj); have c := b23 hp (h.2.2 j hj); have d := b23 hp (h'.2.2 i hi)
        have em := emod_nn (x := m i * m' j - m j * m' i) (p := p) (by omega)
        show (unl p m m' ∧ FX0_isUnlike_12 σ ρ k o (BX0_isUnlike_75 σ ρ k o g) g2 (iI i) (iI j) = some 1) ∨ (¬ unl p m m' ∧ FX0_isUnlike_12 σ ρ k o (BX0_isUnlike_75 σ ρ k o g) g2 (iI i) (iI j) = some 0)
        unfold FX0_isUnlike_12
        rw [if_neg (by rw [w6, iI_leN (by omega) (by omega)]; omega), hk, ob_some, c_nth h.2.1 hi, ob_some, ho, ob_some, c_nth h'.2.1 hj, ob_some, ob_some, c_nth h.2.1 hj, ob_some, ob_some, c_nth h'.2.1 hi, ob_some, bn_eq, h.1, iI_mul, iI_mul, iI_sub, c_rest hp (bd_rg (bd_sub (bd_mul a b) (bd_mul c d)) (by decide)), ob_some]
        by_cases q : (m i * m' j - m j * m' i) % p = 0
        · rw [if_pos ((iI_z em.1 (by omega)).mpr q), bn_eq, iI_succ]
          refine ih2 () (fun j' h1 h2 => ?_)
          by_cases q2 : j' = j
          · rw [q2]; exact q
          · exact hJ j' h1 (by omega)
        · rw [if_neg (fun z => q ((iI_z em.1 (by omega)).mp z))]
          exact Or.inl ⟨⟨i, j, hij, hj, q⟩, zr1 _⟩
      · have a := b23 hp (h.2.2 i hi); have b := b23 hp (h'.2.2 j hj); have c := b23 hp (h.2.2 j hj); have d := b23 hp (h'.2.2 i hi)
        have em := emod_nn (x := m i * m' j - m j * m' i) (p := p) (by omega)
        show (unl p m m' ∧ FX0_isUnlike_12 σ ρ k o (BX0_isUnlike_75 σ ρ k o g) g2 (iI i) (iI j) = some 1) ∨ (¬ unl p m m' ∧ FX0_isUnlike_12 σ ρ k o (BX0_isUnlike_75 σ ρ k o g) g2 (iI i) (iI j) = some 0)
        unfold FX0_isUnlike_12
        rw [if_neg (by rw [w6, iI_leN (by omega) (by omega)]; omega), hk, ob_some, c_nth h.2.1 hi, ob_some, ho, ob_some, c_nth h'.2.1 hj, ob_some, ob_some, c_nth h.2.1 hj, ob_some, ob_some, c_nth h'.2.1 hi, ob_some, bn_eq, h.1, iI_mul, iI_mul, iI_sub, c_rest hp (bd_rg (bd_sub (bd_mul a b) (bd_mul c d)) (by decide)), ob_some]
        by_cases q : (m i * m' j - m j * m' i) % p = 0
        · rw [if_pos ((iI_z em.1 (by omega)).mpr q), bn_eq, iI_succ]
          exact ih2 () (fun j' h1 h2 => by omega)
        · have q3 : i ≠ j := fun z => q (by rw [z, Int.sub_self]; simp)
          rw [if_neg (fun z => q ((iI_z em.1 (by omega)).mp z))]
          refine Or.inl ⟨⟨j, i, by omega, hi, fun z => q ?_⟩, zr1 _⟩
          unfold mnr at z
          exact z_of (z_neg.mpr z) (by grind)
/-- the sort of six whole numbers -/
def srt (v : Nat → Int) : Nat :=
  if fe v = 0 then
    if 4 * v 0 * v 1 - v 5 * v 5 = 0 then
      if v 0 = 0 ∧ v 1 = 0 ∧ v 5 = 0 then (if v 3 = 0 ∧ v 4 = 0 then 10 else 9)
      else if 4 * v 1 * v 2 - v 3 * v 3 + 4 * v 0 * v 2 - v 4 * v 4 < 0 then 6 else if 0 < 4 * v 1 * v 2 - v 3 * v 3 + 4 * v 0 * v 2 - v 4 * v 4 then 7 else 8
    else if 0 < 4 * v 0 * v 1 - v 5 * v 5 then 4 else 5
  else if 0 < 4 * v 0 * v 1 - v 5 * v 5 then (if fe v * (v 0 + v 1) < 0 then 0 else 1) else if 4 * v 0 * v 1 - v 5 * v 5 = 0 then 2 else 3
theorem lg_iI {a b : Int} (ha : rg32 a) (hb : rg32 b) (hm : -9000000000000000000 ≤ a * b ∧ a * b ≤ 9000000000000000000) : (0 ≤ lg_cmp ((iI a).toInt64 * (iI b).toInt64) 0) ↔ ¬ (a * b < 0) := by
  have e : ((iI a).toInt64 * (iI b).toInt64).toInt = a * b := by
    rw [Int64.toInt_mul, Int32.toInt_toInt64, Int32.toInt_toInt64, iI_toInt ha, iI_toInt hb]
    exact Int.bmod_eq_of_le (by omega) (by omega)
  have h0 : (0 : Int64).toInt = 0 := rfl
  unfold lg_cmp
  by_cases c1 : 0 < a * b
  · rw [if_pos (Int64.lt_iff_toInt_lt.mpr (by rw [e, h0]; exact c1))]
    exact ⟨fun _ => by omega, fun _ => by decide⟩
  · rw [if_neg (fun z => c1 (by have := Int64.lt_iff_toInt_lt.mp z; rw [e, h0] at this; exact this))]
    by_cases c2 : a * b = 0
    · rw [if_pos (Int64.toInt_inj.mp (by rw [e, h0]; exact c2))]
      exact ⟨fun _ => by omega, fun _ => by decide⟩
    · rw [if_neg (fun z => c2 (by rw [← e, z]; rfl))]
      exact ⟨fun z => absurd z (by decide), fun z => by omega⟩
theorem c_sort {σ : Sto} {k : Nat} {v : Nat → Int} (h : FI σ k v) (hb : ∀ i, i < 6 → bd (v i) 99) : MX3_sort σ k = some (iI (srt v : Nat)) := by
  have h0 := hb 0 (by omega); have hm1 := hb 1 (by omega); have hm2 := hb 2 (by omega); have hm3 := hb 3 (by omega); have h4 := hb 4 (by omega); have h5 := hb 5 (by omega)
  have r0 : rg32 0 := ⟨by omega, by omega⟩
  have re := bd_rg (fe_bd h0 hm1 hm2 hm3 h4 h5) (by decide)
  have rd : rg32 (4 * v 0 * v 1 - v 5 * v 5) := bd_rg (bd_sub (bd_mul (bd_mul (bd_lit 4) h0) hm1) (bd_mul h5 h5)) (by decide)
  have ri : rg32 (4 * v 1 * v 2 - v 3 * v 3 + 4 * v 0 * v 2 - v 4 * v 4) := bd_rg (bd_sub (bd_add (bd_sub (bd_mul (bd_mul (bd_lit 4) hm1) hm2) (bd_mul hm3 hm3)) (bd_mul (bd_mul (bd_lit 4) h0) hm2)) (bd_mul h4 h4)) (by decide)
  have rs : rg32 (v 0 + v 1) := bd_rg (bd_add h0 hm1) (by decide)
  have lm : -9000000000000000000 ≤ fe v * (v 0 + v 1) ∧ fe v * (v 0 + v 1) ≤ 9000000000000000000 := by
    have := bd_mul (fe_bd h0 hm1 hm2 hm3 h4 h5) (bd_add h0 hm1)
    exact ⟨Int.le_trans (by decide) this.1, Int.le_trans this.2 (by decide)⟩
  have zi : ∀ i, i < 6 → (σ k i = 0 ↔ v i = 0) := fun i hi => by rw [h i hi, show (0 : Int32) = iI 0 from rfl, iI_eq (bd_rg (hb i hi) (by decide)) r0]
  have ze : iI (fe v) = 0 ↔ fe v = 0 := by rw [show (0 : Int32) = iI 0 from rfl, iI_eq re r0]
  have zd : iI (4 * v 0 * v 1 - v 5 * v 5) = 0 ↔ 4 * v 0 * v 1 - v 5 * v 5 = 0 := by rw [show (0 : Int32) = iI 0 from rfl, iI_eq rd r0]
  have ld : iI (4 * v 0 * v 1 - v 5 * v 5) ≤ 0 ↔ ¬ 0 < 4 * v 0 * v 1 - v 5 * v 5 := by rw [show (0 : Int32) = iI 0 from rfl, iI_le rd r0]; omega
  have li : iI (4 * v 1 * v 2 - v 3 * v 3 + 4 * v 0 * v 2 - v 4 * v 4) ≤ 0 ↔ ¬ 0 < 4 * v 1 * v 2 - v 3 * v 3 + 4 * v 0 * v 2 - v 4 * v 4 := by rw [show (0 : Int32) = iI 0 from rfl, iI_le ri r0]; omega
  have gi : 0 ≤ iI (4 * v 1 * v 2 - v 3 * v 3 + 4 * v 0 * v 2 - v 4 * v 4) ↔ ¬ 4 * v 1 * v 2 - v 3 * v 3 + 4 * v 0 * v 2 - v 4 * v 4 < 0 := by rw [show (0 : Int32) = iI 0 from rfl, iI_le r0 ri]; omega
  have es : σ k 0 + σ k 1 = iI (v 0 + v 1) := by rw [h 0 (by omega), h 1 (by omega), iI_add]
  have lg := lg_iI re rs lm
  unfold MX3_sort MX3_sortOfFallen MX3_sortOfWhole BX3_sortOfFallen_41 srt
  simp only [c_e h, c_d h, c_i h, ob_some, ze, zd, ld, li, gi, zi 0 (by omega), zi 1 (by omega), zi 5 (by omega), zi 3 (by omega), zi 4 (by omega), es, lg]
  clear lg gi li ld zd ze zi lm rs ri rd re h0 hm1 hm2 hm3 h4 h5 hb es
  generalize 4 * v 1 * v 2 - v 3 * v 3 + 4 * v 0 * v 2 - v 4 * v 4 = I
  generalize 4 * v 0 * v 1 - v 5 * v 5 = D
  generalize fe v * (v 0 + v 1) = T
  by_cases a1 : fe v = 0
  · rw [if_pos a1, if_pos a1]
    by_cases a2 : D = 0
    · rw [if_pos a2, if_pos a2]
      by_cases b0 : v 0 = 0 <;> by_cases b1 : v 1 = 0 <;> by_cases b5 : v 5 = 0 <;> by_cases b3 : v 3 = 0 <;> by_cases b4 : v 4 = 0 <;> by_cases i1 : I < 0 <;> by_cases i2' : 0 < I <;> simp only [b0, b1, b5, b3, b4, i1, i2', not_true, not_false_eq_true, and_self, and_true, and_false, false_and, true_and, if_true, if_false, ob_some] <;> first | rfl | omega
    · rw [if_neg a2, if_neg a2]
      by_cases a3 : 0 < D <;> simp only [a3, not_true, not_false_eq_true, if_true, if_false, ob_some] <;> rfl
  · rw [if_neg a1, if_neg a1]
    by_cases a3 : 0 < D
    · by_cases a4 : T < 0 <;> simp only [a3, a4, not_true, not_false_eq_true, if_true, if_false, ob_some] <;> rfl
    · by_cases a4 : D = 0
      · simp only [a4, Int.lt_irrefl, not_false_eq_true, if_true, if_false, ob_some]; rfl
      · simp only [a3, a4, not_false_eq_true, if_true, if_false, ob_some]; rfl
theorem c_beyond {v : Int} (hv : rg32 v) : MX11_isBeyond (iI v) = some (if -99 ≤ v ∧ v ≤ 99 then 0 else 1) := by
  have r1 : rg32 (-99) := ⟨by omega, by omega⟩
  have r2 : rg32 99 := ⟨by omega, by omega⟩
  unfold MX11_isBeyond
  rw [show (-99 : Int32) = iI (-99) from rfl, show (99 : Int32) = iI 99 from rfl]
  by_cases c1 : v < -99
  · rw [if_pos (by rw [iI_lt hv r1]; exact c1), if_neg (by omega)]; exact zr1 _
  · rw [if_neg (by rw [iI_lt hv r1]; exact c1)]
    by_cases c2 : v ≤ 99
    · rw [if_pos (by rw [iI_le hv r2]; exact c2), if_pos (by omega)]; exact zr0 _
    · rw [if_neg (by rw [iI_le hv r2]; exact c2), if_neg (by omega)]; exact zr1 _
def limB (v : Nat → Int) : Bool := (decide (-99 ≤ v 0 ∧ v 0 ≤ 99)) && (decide (-99 ≤ v 1 ∧ v 1 ≤ 99)) && (decide (-99 ≤ v 2 ∧ v 2 ≤ 99)) && (decide (-99 ≤ v 3 ∧ v 3 ≤ 99)) && (decide (-99 ≤ v 4 ∧ v 4 ≤ 99)) && (decide (-99 ≤ v 5 ∧ v 5 ≤ 99))
def zerB (v : Nat → Int) : Bool := decide (v 0 = 0 ∧ v 1 = 0 ∧ v 2 = 0 ∧ v 3 = 0 ∧ v 4 = 0 ∧ v 5 = 0)
theorem c_limit {σ : Sto} {k : Nat} {v : Nat → Int} (h : FI σ k v) (hr : ∀ i, i < 6 → rg32 (v i)) : MX3_isWithinLimit σ k = some (if limB v then 1 else 0) := by
  have B := fun i (hi : i < 6) => c_beyond (hr i hi)
  unfold MX3_isWithinLimit limB
  rw [h 0 (by omega), h 1 (by omega), h 2 (by omega), h 3 (by omega), h 4 (by omega), h 5 (by omega)]
  simp only [B 0 (by omega), B 1 (by omega), B 2 (by omega), B 3 (by omega), B 4 (by omega), B 5 (by omega), ob_some, zr0, zr1]
  by_cases c0 : -99 ≤ v 0 ∧ v 0 ≤ 99 <;> by_cases c1 : -99 ≤ v 1 ∧ v 1 ≤ 99 <;> by_cases c2 : -99 ≤ v 2 ∧ v 2 ≤ 99 <;> by_cases c3 : -99 ≤ v 3 ∧ v 3 ≤ 99 <;> by_cases c4 : -99 ≤ v 4 ∧ v 4 ≤ 99 <;> by_cases c5 : -99 ≤ v 5 ∧ v 5 ≤ 99 <;> simp only [c0, c1, c2, c3, c4, c5, and_self, decide_true, decide_false, Bool.and_true, Bool.and_false, Bool.false_and, Bool.true_and, if_true, if_false, ne10, Bool.false_eq_true]
