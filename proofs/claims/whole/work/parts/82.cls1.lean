/-! THE CLASS's leaves -/
theorem c_rest {p : Nat} {v : Int} (hp : PR p) (hv : rg32 v) : MX2_rest (iI v) (iI p) = some (iI (v % p)) := by
  obtain ⟨hp3, hp23⟩ := hp.le
  have hrp : rg32 (p : Int) := ⟨by omega, by omega⟩
  have h1 : -(p : Int) < v.tmod p := Int.lt_tmod_of_pos v (by omega)
  have h2 : v.tmod p < (p : Int) := Int.tmod_lt_of_pos v (by omega)
  have r0 : rg32 0 := ⟨by omega, by omega⟩
  unfold MX2_rest MJ9_floorMod_7cf53
  rw [if_neg (by rw [show (0 : Int32) = iI 0 from rfl, iI_le hrp r0]; omega), rmi_iI hv hrp (by omega), ob_some, bn_eq]
  have hx := xor_neg (x := iI v) (p := (p : Int)) (by omega) hrp
  have hv0 : iI v < 0 ↔ v < 0 := by rw [show (0 : Int32) = iI 0 from rfl, iI_lt hv r0]
  by_cases c : 0 ≤ v
  · have hn : ¬ (iI v ^^^ iI p < 0) := by rw [hx, hv0]; omega
    rw [if_pos (Int32.not_lt.mp hn), ob_some, Int.tmod_eq_emod_of_nonneg c]
  · have hn : (iI v ^^^ iI p < 0) := by rw [hx, hv0]; omega
    rw [if_neg (fun h => absurd hn (Int32.not_lt.mpr h))]
    have h3 := Int.mul_tdiv_add_tmod v p
    have h4 : v.tmod p = v - p * v.tdiv p := by omega
    have h5 : v.tmod p % p = v % p := by rw [h4, Int.sub_mul_emod_self_left]
    have h6 := emod_nn (x := v) (p := p) (by omega)
    have hneg : v.tmod p ≤ 0 := by
      have := Int.tmod_nonneg (a := -v) p (by omega)
      rw [Int.neg_tmod] at this; omega
    by_cases q : v.tmod p = 0
    · rw [if_pos (by rw [q]; rfl), ob_some]
      congr 2; rw [← h5, q]; simp
    · rw [if_neg (by rw [show (0 : Int32) = iI 0 from rfl, iI_eq ⟨by omega, by omega⟩ r0]; exact q), ob_some, iI_add]
      congr 2
      rw [← h5, ← Int.add_emod_right, Int.emod_eq_of_lt (by omega) (by omega)]
def FI (σ : Sto) (k : Nat) (v : Nat → Int) : Prop := ∀ i, i < 6 → σ k i = iI (v i)
def F6 (σ : Sto) (k : Nat) (v : Nat → Int) : Sto := su (su (su (su (su (su σ k 0 (iI (v 0))) k 1 (iI (v 1))) k 2 (iI (v 2))) k 3 (iI (v 3))) k 4 (iI (v 4))) k 5 (iI (v 5))
def v6 (a b c f g h : Int) (i : Nat) : Int := if i = 0 then a else if i = 1 then b else if i = 2 then c else if i = 3 then f else if i = 4 then g else h
theorem v6_0 {a b c f g h} : v6 a b c f g h 0 = a := rfl
theorem v6_1 {a b c f g h} : v6 a b c f g h 1 = b := rfl
theorem v6_2 {a b c f g h} : v6 a b c f g h 2 = c := rfl
theorem v6_3 {a b c f g h} : v6 a b c f g h 3 = f := rfl
theorem v6_4 {a b c f g h} : v6 a b c f g h 4 = g := rfl
theorem v6_5 {a b c f g h} : v6 a b c f g h 5 = h := rfl
theorem fill6 {σ : Sto} {k : Nat} {a b c f g h : Int} : MX3_fill σ k (iI a) (iI b) (iI c) (iI f) (iI g) (iI h) = some (F6 σ k (v6 a b c f g h)) := by
  unfold MX3_fill F6
  simp only [bn_eq, v6_0, v6_1, v6_2, v6_3, v6_4, v6_5]
theorem c6 {i : Nat} (h : i < 6) : i = 0 ∨ i = 1 ∨ i = 2 ∨ i = 3 ∨ i = 4 ∨ i = 5 := by omega
theorem F6_FI {σ : Sto} {k : Nat} {v : Nat → Int} : FI (F6 σ k v) k v := by
  intro i hi
  rcases c6 hi with rfl | rfl | rfl | rfl | rfl | rfl <;> simp [F6, su]
theorem F6_k {σ : Sto} {k k' i : Nat} {v : Nat → Int} (h : k' ≠ k) : F6 σ k v k' i = σ k' i := by
  unfold F6; rw [su_k h, su_k h, su_k h, su_k h, su_k h, su_k h]
theorem F6_fr {σ : Sto} {k : Nat} {v : Nat → Int} : Fr (fun k' _ => k' = k) σ (F6 σ k v) := fun k' i h => F6_k h
theorem FI_k {σ σ' : Sto} {k : Nat} {v : Nat → Int} (h : FI σ k v) (e : ∀ i, σ' k i = σ k i) : FI σ' k v := fun i hi => (e i).trans (h i hi)
theorem F6_congr {σ : Sto} {k : Nat} {v w : Nat → Int} (h : ∀ i, i < 6 → v i = w i) : F6 σ k v = F6 σ k w := by
  unfold F6; rw [h 0 (by omega), h 1 (by omega), h 2 (by omega), h 3 (by omega), h 4 (by omega), h 5 (by omega)]
theorem c_reduce {σ : Sto} {k p : Nat} {v : Nat → Int} (hp : PR p) (h : FI σ k v) (hr : ∀ i, i < 6 → rg32 (v i)) : MX3_reduce σ k (iI p) = some (F6 σ k (fun i => v i % p)) := by
  unfold MX3_reduce
  rw [h 0 (by omega), h 1 (by omega), h 2 (by omega), h 3 (by omega), h 4 (by omega), h 5 (by omega), c_rest hp (hr 0 (by omega)), ob_some, c_rest hp (hr 1 (by omega)), ob_some, c_rest hp (hr 2 (by omega)), ob_some, c_rest hp (hr 3 (by omega)), ob_some, c_rest hp (hr 4 (by omega)), ob_some, c_rest hp (hr 5 (by omega)), ob_some, fill6, ob_some]
  congr 1
/-- the class's sheet at s: its marks at s + 1, its numbers at s + 2 -/
def CS (σ : Sto) (s : Nat) (S : Sheet) : Prop := σ s 0 = iI S.1 ∧ σ s 1 = iI S.2.1.length ∧ (∀ i, i < 36 → σ (s + 2) i = iI (S.2.2 i)) ∧ ∀ k, k < S.2.1.length → σ (s + 1) k = iI (S.2.1.getD k 0 : Nat)
def Sr (ρ : Rho) (s : Nat) : Prop := ρ s 2 = some (s + 1) ∧ ρ s 3 = some (s + 2) ∧ ln (s + 1) = 8 ∧ ln (s + 2) = 36
theorem CS_k {σ σ' : Sto} {s : Nat} {S : Sheet} (h : CS σ s S) (e0 : ∀ i, σ' s i = σ s i) (e1 : ∀ i, σ' (s + 1) i = σ (s + 1) i) (e2 : ∀ i, σ' (s + 2) i = σ (s + 2) i) : CS σ' s S := by
  unfold CS; simp only [e0, e1, e2]; exact h
theorem iI_isC {c : Int} (hr : rg32 c) : MX11_isConic (iI c) = some (if 0 ≤ c ∧ c < 6 then 1 else 0) := by
  have r0 : rg32 0 := ⟨by omega, by omega⟩
  have r6 : rg32 6 := ⟨by omega, by omega⟩
  unfold MX11_isConic
  rw [show (0 : Int32) = iI 0 from rfl, show (6 : Int32) = iI 6 from rfl, show (1 : Int32) = iI 1 from rfl]
  by_cases h1 : c < 0
  · rw [if_pos (by rw [iI_lt hr r0]; exact h1), if_neg (by omega)]; exact zr0 _
  · rw [if_neg (by rw [iI_lt hr r0]; exact h1)]
    by_cases h2 : 6 ≤ c
    · rw [if_pos (by rw [iI_le r6 hr]; exact h2), if_neg (by omega)]; exact zr0 _
    · rw [if_neg (by rw [iI_le r6 hr]; exact h2), if_pos (by omega)]; exact zr1 _
theorem c_read {σ : Sto} {ρ : Rho} {s k c : Nat} {S : Sheet} (hr : Sr ρ s) (h : CS σ s S) (hc : c < 6) : MX8_read σ ρ s (iI c) k = some (F6 σ k (fun i => S.2.2 (6 * c + i))) := by
  obtain ⟨-, r3, -, l36⟩ := hr
  obtain ⟨-, -, hn, -⟩ := h
  have g : ∀ i : Nat, i < 6 → ag σ (s + 2) (iI c * 6 + iI i) = some (iI (S.2.2 (6 * c + i))) := by
    intro i hi
    rw [show (6 : Int32) = iI 6 from rfl, iI_mul, iI_add, ag_ok (by omega) (by rw [l36]; omega) (by rw [l36]; omega), show ((c : Int) * 6 + i).toNat = 6 * c + i by omega, hn _ (by omega)]
  have g0 : ag σ (s + 2) (iI c * 6) = some (iI (S.2.2 (6 * c + 0))) := by
    rw [show (6 : Int32) = iI 6 from rfl, iI_mul, ag_ok (by omega) (by rw [l36]; omega) (by rw [l36]; omega), show ((c : Int) * 6).toNat = 6 * c + 0 by omega, hn _ (by omega)]
  have g1 := g 1 (by omega); have g2 := g 2 (by omega); have g3 := g 3 (by omega); have g4 := g 4 (by omega); have g5 := g 5 (by omega)
  unfold MX8_read
  rw [iI_isC ⟨by omega, by omega⟩, if_pos (by omega), ob_some, if_neg ne10, bn_eq, r3, ob_some, g0, ob_some, ob_some, show (1 : Int32) = iI ((1 : Nat) : Int) from rfl, g1, ob_some, ob_some, show (2 : Int32) = iI ((2 : Nat) : Int) from rfl, g2, ob_some, ob_some, show (3 : Int32) = iI ((3 : Nat) : Int) from rfl, g3, ob_some, ob_some, show (4 : Int32) = iI ((4 : Nat) : Int) from rfl, g4, ob_some, ob_some, show (5 : Int32) = iI ((5 : Nat) : Int) from rfl, g5, ob_some, fill6, ob_some]
  congr 1
/-- a curve over the field, its form at k + 1 -/
def Cv (σ : Sto) (k p : Nat) (m : Nat → Int) : Prop := σ k 1 = iI p ∧ FI σ (k + 1) m ∧ ∀ i, i < 6 → 0 ≤ m i ∧ m i < p
def C2 (k k' _i : Nat) : Prop := k' = k ∨ k' = k + 1
theorem Cv_k {σ σ' : Sto} {k p : Nat} {m : Nat → Int} (h : Cv σ k p m) (e0 : ∀ i, σ' k i = σ k i) (e1 : ∀ i, σ' (k + 1) i = σ (k + 1) i) : Cv σ' k p m := ⟨(e0 1).trans h.1, FI_k h.2.1 e1, h.2.2⟩
theorem c_take {σ : Sto} {ρ : Rho} {s k c : Nat} {S : Sheet} (hk : ρ k 0 = some (k + 1)) (hd : s + 2 < k) (hr : Sr ρ s) (hS : SOK S) (h : CS σ s S) (hc : c < 6) : OK (MX0_take σ ρ k s (iI c)) (fun s' => Cv s' k S.1 (cm S c) ∧ Fr (C2 k) σ s') := by
  obtain ⟨hp, -, -, -, hb, -⟩ := hS
  have hp3 := hp.le.1
  unfold MX0_take
  have h1 : CS (su σ k 1 (σ s 0)) s S := CS_k h (fun i => su_k (by omega)) (fun i => su_k (by omega)) (fun i => su_k (by omega))
  rw [bn_eq, hk, ob_some, c_read hr h1 hc, ob_some, ob_some, F6_k (by omega), su_s, h.1, c_reduce hp F6_FI (fun i hi => bd_rg (hb _ (by omega)) (by decide)), ob_some]
  refine OK.so ⟨⟨?_, F6_FI, fun i hi => emod_nn (by omega)⟩, fun k' i hn => ?_⟩
  · rw [F6_k (by omega), F6_k (by omega), su_s]
  · have n1 : k' ≠ k := fun z => hn (Or.inl z)
    have n2 : k' ≠ k + 1 := fun z => hn (Or.inr z)
    rw [F6_k n2, F6_k n2, su_k n1]
def du (m : Nat → Int) : Nat → Int := v6 (4 * m 1 * m 2 - m 3 * m 3) (4 * m 0 * m 2 - m 4 * m 4) (4 * m 0 * m 1 - m 5 * m 5) (2 * (m 4 * m 5 - 2 * m 0 * m 3)) (2 * (m 3 * m 5 - 2 * m 1 * m 4)) (2 * (m 3 * m 4 - 2 * m 2 * m 5))
theorem i2 : (2 : Int32) = iI 2 := rfl
theorem i4 : (4 : Int32) = iI 4 := rfl
theorem i8 : (8 : Int32) = iI 8 := rfl
theorem b23 {p : Nat} (hp : PR p) {x : Int} (h : 0 ≤ x ∧ x < p) : bd x 23 := ⟨by omega, by have := hp.le.2; omega⟩
theorem du_rg {p : Nat} {m : Nat → Int} (hp : PR p) (hb : ∀ i, i < 6 → 0 ≤ m i ∧ m i < p) : ∀ i, i < 6 → rg32 (du m i) := by
  have h0 := b23 hp (hb 0 (by omega)); have h1 := b23 hp (hb 1 (by omega)); have h2 := b23 hp (hb 2 (by omega)); have h3 := b23 hp (hb 3 (by omega)); have h4 := b23 hp (hb 4 (by omega)); have h5 := b23 hp (hb 5 (by omega))
  intro i hi
  rcases c6 hi with rfl | rfl | rfl | rfl | rfl | rfl
  · exact bd_rg (bd_sub (bd_mul (bd_mul (bd_lit 4) h1) h2) (bd_mul h3 h3)) (by decide)
  · exact bd_rg (bd_sub (bd_mul (bd_mul (bd_lit 4) h0) h2) (bd_mul h4 h4)) (by decide)
  · exact bd_rg (bd_sub (bd_mul (bd_mul (bd_lit 4) h0) h1) (bd_mul h5 h5)) (by decide)
  · exact bd_rg (bd_mul (bd_lit 2) (bd_sub (bd_mul h4 h5) (bd_mul (bd_mul (bd_lit 2) h0) h3))) (by decide)
  · exact bd_rg (bd_mul (bd_lit 2) (bd_sub (bd_mul h3 h5) (bd_mul (bd_mul (bd_lit 2) h1) h4))) (by decide)
  · exact bd_rg (bd_mul (bd_lit 2) (bd_sub (bd_mul h3 h4) (bd_mul (bd_mul (bd_lit 2) h2) h5))) (by decide)
theorem c_dual {σ : Sto} {ρ : Rho} {k o p : Nat} {m : Nat → Int} (hk : ρ k 0 = some (k + 1)) (ho : ρ o 0 = some (o + 1)) (hd : o + 1 < k) (hp : PR p) (h : Cv σ o p m) : OK (MX0_becomeDual σ ρ k o) (fun s' => Cv s' k p (fun i => du m i % p) ∧ Fr (C2 k) σ s') := by
  have hp3 := hp.le.1
  obtain ⟨h1, h2, h3⟩ := h
  have e : ∀ i, i < 6 → su σ k 1 (iI p) (o + 1) i = iI (m i) := fun i hi => by rw [su_k (by omega)]; exact h2 i hi
  unfold MX0_becomeDual
  rw [ho, ob_some, h1, bn_eq, hk, ob_some]
  simp only [e 0 (by omega), e 1 (by omega), e 2 (by omega), e 3 (by omega), e 4 (by omega), e 5 (by omega), i2, i4, iI_mul, iI_sub]
  rw [fill6, show v6 (4 * m 1 * m 2 - m 3 * m 3) (4 * m 0 * m 2 - m 4 * m 4) (4 * m 0 * m 1 - m 5 * m 5) (2 * (m 4 * m 5 - 2 * m 0 * m 3)) (2 * (m 3 * m 5 - 2 * m 1 * m 4)) (2 * (m 3 * m 4 - 2 * m 2 * m 5)) = du m from rfl, ob_some, ob_some, F6_k (by omega), su_s, c_reduce hp (v := du m) F6_FI (du_rg hp h3), ob_some]
  refine OK.so ⟨⟨?_, F6_FI, fun i hi => emod_nn (by omega)⟩, fun k' i hn => ?_⟩
  · rw [F6_k (by omega), F6_k (by omega), su_s]
  · have n1 : k' ≠ k := fun z => hn (Or.inl z)
    have n2 : k' ≠ k + 1 := fun z => hn (Or.inr z)
    rw [F6_k n2, F6_k n2, su_k n1]
theorem c_copy {σ : Sto} {k o : Nat} {v : Nat → Int} (h : FI σ o v) : MX3_copy σ k o = some (F6 σ k v) := by
  unfold MX3_copy
  rw [h 0 (by omega), h 1 (by omega), h 2 (by omega), h 3 (by omega), h 4 (by omega), h 5 (by omega), fill6, ob_some]
  congr 1
theorem c_blend {σ : Sto} {k o : Nat} {x y : Int} {v w : Nat → Int} (h : FI σ k v) (h' : FI σ o w) : MX3_blend σ k (iI x) (iI y) o = some (F6 σ k (fun i => x * v i + y * w i)) := by
  unfold MX3_blend
  rw [h 0 (by omega), h 1 (by omega), h 2 (by omega), h 3 (by omega), h 4 (by omega), h 5 (by omega), h' 0 (by omega), h' 1 (by omega), h' 2 (by omega), h' 3 (by omega), h' 4 (by omega), h' 5 (by omega)]
  simp only [iI_mul, iI_add]
  rw [fill6, ob_some]
  congr 1
theorem c_mix {σ : Sto} {ρ : Rho} {k o q p : Nat} {t : Int} {m m' : Nat → Int} (hk : ρ k 0 = some (k + 1)) (ho : ρ o 0 = some (o + 1)) (hq : ρ q 0 = some (q + 1)) (hd : o + 1 < k) (hd' : q + 1 < k) (hp : PR p) (h : Cv σ o p m) (h' : Cv σ q p m') (t0 : 0 ≤ t) (t1 : t ≤ p) : OK (MX0_mix σ ρ k o (iI t) q) (fun s' => Cv s' k p (fun i => (t * m i + m' i) % p) ∧ Fr (C2 k) σ s') := by
  have hp3 := hp.le.1
  have hp23 := hp.le.2
  obtain ⟨h1, h2, h3⟩ := h
  obtain ⟨g1, g2, g3⟩ := h'
  unfold MX0_mix
  have f2 : FI (su σ k 1 (σ o 1)) (o + 1) m := FI_k h2 (fun i => su_k (by omega))
  rw [bn_eq, hk, ob_some, ho, ob_some, c_copy f2, ob_some, ob_some, hq, ob_some, show (1 : Int32) = iI 1 from rfl]
  have f3 : FI (F6 (su σ k 1 (σ o 1)) (k + 1) m) (q + 1) m' := FI_k g2 (fun i => by rw [F6_k (by omega), su_k (by omega)])
  rw [c_blend F6_FI f3, ob_some, ob_some, F6_k (by omega), F6_k (by omega), su_s, h1, c_reduce hp F6_FI (fun i hi => ?_), ob_some]
  · refine OK.so ⟨⟨?_, ?_, fun i hi => emod_nn (by omega)⟩, fun k' i hn => ?_⟩
    · rw [F6_k (by omega), F6_k (by omega), F6_k (by omega), su_s]
    · intro i hi; rw [F6_FI i hi, Int.one_mul]
    · have n1 : k' ≠ k := fun z => hn (Or.inl z)
      have n2 : k' ≠ k + 1 := fun z => hn (Or.inr z)
      rw [F6_k n2, F6_k n2, F6_k n2, su_k n1]
  · have a := b23 hp (h3 i hi); have b := b23 hp (g3 i hi)
    have tb : bd t 23 := ⟨by omega, by omega⟩
    exact bd_rg (bd_add (bd_mul tb a) (bd_mul (bd_lit 1) b)) (by decide)
/-- three numbers -/
def Tr (σ : Sto) (k : Nat) (x y z : Int) : Prop := σ k 0 = iI x ∧ σ k 1 = iI y ∧ σ k 2 = iI z
def T3 (σ : Sto) (k : Nat) (x y z : Int) : Sto := su (su (su σ k 0 (iI x)) k 1 (iI y)) k 2 (iI z)
theorem fill3 {σ : Sto} {k : Nat} {x y z : Int} : MX10_fill σ k (iI x) (iI y) (iI z) = some (T3 σ k x y z) := by
  unfold MX10_fill T3; simp only [bn_eq]
theorem T3_Tr {σ : Sto} {k : Nat} {x y z : Int} : Tr (T3 σ k x y z) k x y z := by
  unfold Tr T3; simp [su]
theorem T3_k {σ : Sto} {k k' i : Nat} {x y z : Int} (h : k' ≠ k) : T3 σ k x y z k' i = σ k' i := by
  unfold T3; rw [su_k h, su_k h, su_k h]
theorem Tr_k {σ σ' : Sto} {k : Nat} {x y z : Int} (h : Tr σ k x y z) (e : ∀ i, σ' k i = σ k i) : Tr σ' k x y z := ⟨(e 0).trans h.1, (e 1).trans h.2.1, (e 2).trans h.2.2⟩
def bd3 (x y z : Int) (B : Nat) : Prop := bd x B ∧ bd y B ∧ bd z B
theorem c_value {σ : Sto} {ρ : Rho} {k t p : Nat} {m : Nat → Int} {x y z : Int} (hk : ρ k 0 = some (k + 1)) (hp : PR p) (h : Cv σ k p m) (ht : Tr σ t x y z) (hb : bd3 x y z 23) : MX0_valueAt σ ρ k t = some (iI (qv m x y z % p)) := by
  obtain ⟨h1, h2, h3⟩ := h
  obtain ⟨t0, t1, t2⟩ := ht
  obtain ⟨hx, hy, hz⟩ := hb
  have h0 := b23 hp (h3 0 (by omega)); have hm1 := b23 hp (h3 1 (by omega)); have hm2 := b23 hp (h3 2 (by omega)); have hm3 := b23 hp (h3 3 (by omega)); have h4 := b23 hp (h3 4 (by omega)); have h5 := b23 hp (h3 5 (by omega))
  unfold MX0_valueAt
  simp only [hk, t0, t1, t2, bn_eq, ↓ob_some, h1, h2 0 (by omega), h2 1 (by omega), h2 2 (by omega), h2 3 (by omega), h2 4 (by omega), h2 5 (by omega), iI_mul, iI_add]
  rw [c_rest hp (bd_rg (bd_add (bd_add (bd_add (bd_add (bd_add (bd_mul (bd_mul h0 hx) hx) (bd_mul (bd_mul hm1 hy) hy)) (bd_mul (bd_mul hm2 hz) hz)) (bd_mul (bd_mul hm3 hy) hz)) (bd_mul (bd_mul h4 hz) hx)) (bd_mul (bd_mul h5 hx) hy)) (by decide)), ob_some]
  rfl
def plr (m : Nat → Int) (x y z : Int) : Int × Int × Int := (2 * m 0 * x + m 5 * y + m 4 * z, m 5 * x + 2 * m 1 * y + m 3 * z, m 4 * x + m 3 * y + 2 * m 2 * z)
theorem c_polar {σ : Sto} {ρ : Rho} {k t l p : Nat} {m : Nat → Int} {x y z : Int} (hk : ρ k 0 = some (k + 1)) (h : Cv σ k p m) (ht : Tr σ t x y z) : MX0_polarOf σ ρ k t l = some (T3 σ l (plr m x y z).1 (plr m x y z).2.1 (plr m x y z).2.2) := by
  obtain ⟨h1, h2, h3⟩ := h
  obtain ⟨t0, t1, t2⟩ := ht
  unfold MX0_polarOf
  simp only [hk, t0, t1, t2, bn_eq, ↓ob_some, h1, h2 0 (by omega), h2 1 (by omega), h2 2 (by omega), h2 3 (by omega), h2 4 (by omega), h2 5 (by omega), i2, iI_mul, iI_add]
  rw [fill3, ob_some]
  rfl
theorem plr_bd {p : Nat} {m : Nat → Int} {x y z : Int} (hp : PR p) (h3 : ∀ i, i < 6 → 0 ≤ m i ∧ m i < p) (hb : bd3 x y z 23) : bd3 (plr m x y z).1 (plr m x y z).2.1 (plr m x y z).2.2 2116 := by
  obtain ⟨hx, hy, hz⟩ := hb
  have h0 := b23 hp (h3 0 (by omega)); have hm1 := b23 hp (h3 1 (by omega)); have hm2 := b23 hp (h3 2 (by omega)); have hm3 := b23 hp (h3 3 (by omega)); have h4 := b23 hp (h3 4 (by omega)); have h5 := b23 hp (h3 5 (by omega))
  exact ⟨bd_mono (bd_add (bd_add (bd_mul (bd_mul (bd_lit 2) h0) hx) (bd_mul h5 hy)) (bd_mul h4 hz)) (by decide), bd_mono (bd_add (bd_add (bd_mul h5 hx) (bd_mul (bd_mul (bd_lit 2) hm1) hy)) (bd_mul hm3 hz)) (by decide), bd_mono (bd_add (bd_add (bd_mul h4 hx) (bd_mul hm3 hy)) (bd_mul (bd_mul (bd_lit 2) hm2) hz)) (by decide)⟩
theorem c_points {p : Nat} : MX2_points (iI p) = some (iI (NP p : Nat)) := by
  unfold MX2_points NP
  rw [iI_mul, iI_add, show (1 : Int32) = iI 1 from rfl, iI_add]
  congr 2
theorem c_place {σ : Sto} {t p : Nat} {n : Int} (hp : PR p) (hn : rg32 n) : MX10_take σ t (iI n) (iI p) = some (if 0 ≤ n ∧ n < NP p then (1, T3 σ t (cX p n.toNat) (cY p n.toNat) (cZ p n.toNat)) else (0, σ)) := by
  obtain ⟨hp3, hp23⟩ := hp.le
  obtain ⟨hq, hq9⟩ := hp.sq
  have hN := NP_le hp
  have hrp : rg32 (p : Int) := ⟨by omega, by omega⟩
  have r0 : rg32 0 := ⟨by omega, by omega⟩
  have r1 : rg32 1 := ⟨by omega, by omega⟩
  have e1 : ((p : Int) * (p : Int)) = ((p * p : Nat) : Int) := by push_cast; rfl
  have hNP : NP p = p * p + p + 1 := rfl
  unfold MX10_take
  rw [if_neg (by rw [show (1 : Int32) = iI 1 from rfl, iI_lt hrp r1]; omega)]
  by_cases c0 : n < 0
  · rw [if_pos (by rw [show (0 : Int32) = iI 0 from rfl, iI_lt hn r0]; exact c0), if_neg (by omega)]; exact zr0 _
  · rw [if_neg (by rw [show (0 : Int32) = iI 0 from rfl, iI_lt hn r0]; exact c0), c_points, ob_some]
    obtain ⟨N, rfl⟩ := Int.eq_ofNat_of_zero_le (show 0 ≤ n by omega)
    rw [show ((N : Int)).toNat = N from rfl]
    by_cases c1 : N < NP p
    · rw [if_pos (show iI N < iI (NP p : Nat) by rw [iI_lt hn (rgN (by omega))]; omega), if_pos (show 0 ≤ (N : Int) ∧ (N : Int) < (NP p : Nat) from ⟨by omega, by omega⟩)]
      have hd : dvi (iI N) (iI p) = some (iI ((N / p : Nat) : Int)) := by
        rw [dvi_iI hn hrp (by omega), Int.tdiv_eq_ediv_of_nonneg (by omega)]; rfl
      have hm : rmi (iI N) (iI p) = some (iI ((N % p : Nat) : Int)) := by
        rw [rmi_iI hn hrp (by omega), Int.tmod_eq_emod_of_nonneg (by omega)]; rfl
      have hrq : rg32 ((p : Int) * (p : Int)) := by rw [e1]; exact ⟨by omega, by omega⟩
      have hrq2 : rg32 ((p : Int) * (p : Int) + p) := by rw [e1]; exact ⟨by omega, by omega⟩
      unfold cX cY cZ
      rw [iI_mul, iI_add]
      by_cases c2 : N < p * p
      · rw [if_neg (by rw [iI_le hrq hn, e1]; omega), hd, ob_some, hm, ob_some, show (1 : Int32) = iI 1 from rfl, fill3, ob_some, if_pos c2, if_pos c2, if_pos c2]; exact zr1 _
      · rw [if_pos (by rw [iI_le hrq hn, e1]; omega)]
        by_cases c3 : N < p * p + p
        · have c5 : ((N - p * p : Nat) : Int) = (N : Int) - p * p := by rw [e1]; omega
          rw [if_neg (by rw [iI_le hrq2 hn, e1]; omega), iI_sub, show (1 : Int32) = iI 1 from rfl, show (0 : Int32) = iI 0 from rfl, fill3, ob_some, if_neg c2, if_neg c2, if_pos c3, if_neg c2, if_pos c3, c5]; exact zr1 _
        · rw [if_pos (by rw [iI_le hrq2 hn, e1]; omega), show (1 : Int32) = iI 1 from rfl, show (0 : Int32) = iI 0 from rfl, fill3, ob_some, if_neg c2, if_neg c2, if_neg c3, if_neg c2, if_neg c3]; exact zr1 _
    · rw [if_neg (show ¬ iI N < iI (NP p : Nat) by rw [iI_lt hn (rgN (by omega))]; omega), if_neg (show ¬ (0 ≤ (N : Int) ∧ (N : Int) < (NP p : Nat)) by omega)]; exact zr0 _
theorem cXYZ_bd {p n : Nat} (hp : PR p) : bd3 (cX p n) (cY p n) (cZ p n) 23 := by
  obtain ⟨hp3, hp23⟩ := hp.le
  have b1 := cX_bd (p := p) (n := n)
  have b2 := cY_bd (p := p) (n := n) (by omega)
  have b3 := cZ_bd (p := p) (n := n) (by omega)
  exact ⟨⟨by omega, by omega⟩, ⟨by omega, by omega⟩, by omega, by omega⟩
