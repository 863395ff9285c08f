/-! NUMBERS: an Int32 as the image of an Int -/
def iI (z : Int) : Int32 := Int32.ofInt z
theorem iI_add (a b : Int) : iI a + iI b = iI (a + b) := (Int32.ofInt_add a b).symm
theorem iI_sub (a b : Int) : iI a - iI b = iI (a - b) := (Int32.ofInt_sub a b).symm
theorem iI_mul (a b : Int) : iI a * iI b = iI (a * b) := (Int32.ofInt_mul a b).symm
theorem iI_neg (a : Int) : -iI a = iI (-a) := (Int32.ofInt_neg a).symm
theorem iI_nat (n : Nat) : iI (n : Int) = nI n := Int32.ofInt_eq_ofNat
theorem iI_lit (n : Nat) : (OfNat.ofNat n : Int32) = iI (OfNat.ofNat n : Int) := (Int32.ofInt_eq_ofNat (n := n)).symm
def rg32 (z : Int) : Prop := -2147483648 ≤ z ∧ z < 2147483648
theorem iI_toInt {z : Int} (h : rg32 z) : (iI z).toInt = z := Int32.toInt_ofInt_of_le h.1 h.2
theorem iI_eq {a b : Int} (ha : rg32 a) (hb : rg32 b) : iI a = iI b ↔ a = b := by
  rw [← Int32.toInt_inj, iI_toInt ha, iI_toInt hb]
theorem iI_le {a b : Int} (ha : rg32 a) (hb : rg32 b) : iI a ≤ iI b ↔ a ≤ b := by
  rw [Int32.le_iff_toInt_le, iI_toInt ha, iI_toInt hb]
theorem iI_lt {a b : Int} (ha : rg32 a) (hb : rg32 b) : iI a < iI b ↔ a < b := by
  rw [Int32.lt_iff_toInt_lt, iI_toInt ha, iI_toInt hb]
theorem iI_cl {z : Int} (h : rg32 z) : (iI z).toNatClampNeg = z.toNat := by
  show (iI z).toInt.toNat = z.toNat
  rw [iI_toInt h]
theorem iI_of (x : Int32) : ∃ z, rg32 z ∧ x = iI z := ⟨x.toInt, ⟨Int32.le_toInt x, Int32.toInt_lt x⟩, (Int32.ofInt_toInt x).symm⟩
theorem iI_div {a b : Int} (ha : rg32 a) (hb : rg32 b) : iI a / iI b = iI (a.tdiv b) :=
  (Int32.ofInt_tdiv (a := a) (b := b) (by show -2147483648 ≤ a; exact ha.1) (by show a ≤ 2147483647; have := ha.2; omega) (by show -2147483648 ≤ b; exact hb.1) (by show b ≤ 2147483647; have := hb.2; omega)).symm
theorem rmi_iI {a b : Int} (ha : rg32 a) (hb : rg32 b) (h0 : b ≠ 0) : rmi (iI a) (iI b) = some (iI (a.tmod b)) := by
  unfold rmi
  rw [if_neg (by rw [show (0 : Int32) = iI 0 from rfl, iI_eq hb ⟨by decide, by decide⟩]; exact h0), iI_div ha hb, iI_mul, iI_sub]
  congr 2
  have := Int.mul_tdiv_add_tmod a b
  rw [Int.mul_comm] at this
  omega
theorem dvi_iI {a b : Int} (ha : rg32 a) (hb : rg32 b) (h0 : b ≠ 0) : dvi (iI a) (iI b) = some (iI (a.tdiv b)) := by
  unfold dvi
  rw [if_neg (by rw [show (0 : Int32) = iI 0 from rfl, iI_eq hb ⟨by decide, by decide⟩]; exact h0), iI_div ha hb]
/-- bounds -/
def bd (z : Int) (B : Nat) : Prop := -(B : Int) ≤ z ∧ z ≤ B
theorem bd_add {a b : Int} {A B : Nat} (ha : bd a A) (hb : bd b B) : bd (a + b) (A + B) := by
  obtain ⟨h1, h2⟩ := ha; obtain ⟨h3, h4⟩ := hb
  refine ⟨?_, ?_⟩ <;> push_cast <;> omega
theorem bd_sub {a b : Int} {A B : Nat} (ha : bd a A) (hb : bd b B) : bd (a - b) (A + B) := by
  obtain ⟨h1, h2⟩ := ha; obtain ⟨h3, h4⟩ := hb
  refine ⟨?_, ?_⟩ <;> push_cast <;> omega
theorem bd_neg {a : Int} {A : Nat} (ha : bd a A) : bd (-a) A := by
  obtain ⟨h1, h2⟩ := ha
  exact ⟨by omega, by omega⟩
theorem bd_mul {a b : Int} {A B : Nat} (ha : bd a A) (hb : bd b B) : bd (a * b) (A * B) := by
  have h1 : a.natAbs ≤ A := by have := ha.1; have := ha.2; omega
  have h2 : b.natAbs ≤ B := by have := hb.1; have := hb.2; omega
  have h3 : (a * b).natAbs ≤ A * B := by rw [Int.natAbs_mul]; exact Nat.mul_le_mul h1 h2
  refine ⟨?_, ?_⟩ <;> omega
theorem bd_mono {a : Int} {A B : Nat} (ha : bd a A) (h : A ≤ B) : bd a B := by
  obtain ⟨h1, h2⟩ := ha
  exact ⟨by omega, by omega⟩
theorem bd_lit (n : Nat) : bd (OfNat.ofNat n : Int) n := by
  show bd (n : Int) n
  exact ⟨by omega, by omega⟩
theorem bd_rg {z : Int} {B : Nat} (h : bd z B) (hB : B ≤ 2147483647) : rg32 z := by
  obtain ⟨h1, h2⟩ := h
  exact ⟨by omega, by omega⟩
theorem bd_of {z : Int} {B : Nat} (h1 : 0 ≤ z) (h2 : z ≤ B) : bd z B := ⟨by omega, h2⟩
/-- the primes -/
def PR (p : Nat) : Prop := p = 3 ∨ p = 5 ∨ p = 7 ∨ p = 11 ∨ p = 13 ∨ p = 17 ∨ p = 19 ∨ p = 23
theorem PR.le {p : Nat} (h : PR p) : 3 ≤ p ∧ p ≤ 23 := by
  unfold PR at h; omega
theorem tmod_nn {a b : Int} (h : 0 ≤ a) : a.tmod b = a % b := Int.tmod_eq_emod_of_nonneg h
/-- the model's rest: (v % p + p) % p -/
theorem rest_math {v p : Int} (hp : 0 < p) : (v.tmod p + p).tmod p = v % p := by
  have h1 : -p < v.tmod p := Int.lt_tmod_of_pos v hp
  have h2 : v.tmod p < p := Int.tmod_lt_of_pos v hp
  rw [Int.tmod_eq_emod_of_nonneg (by omega), Int.add_emod_right]
  rcases Int.le_total 0 v with h | h
  · rw [Int.tmod_eq_emod_of_nonneg h, Int.emod_emod_of_dvd _ (Int.dvd_refl p)]
  · have h3 := Int.mul_tdiv_add_tmod v p
    have h4 : v.tmod p = v - p * v.tdiv p := by omega
    rw [h4, Int.sub_mul_emod_self_left]
/-- floorMod over a positive divisor -/
theorem xor_neg {x : Int32} {p : Int} (hp : 0 ≤ p) (hr : rg32 p) : (x ^^^ iI p < 0) ↔ x < 0 := by
  have key : ∀ y : Int32, y < 0 ↔ y.toBitVec.msb = true := by
    intro y
    rw [Int32.lt_iff_toInt_lt]
    show y.toBitVec.toInt < 0 ↔ _
    rw [BitVec.msb_eq_toInt]
    simp
  rw [key, key]
  have h2 : (iI p).toBitVec.msb = false := by
    have h3 := key (iI p)
    rw [Int32.lt_iff_toInt_lt, iI_toInt hr] at h3
    cases hm : (iI p).toBitVec.msb with
    | false => rfl
    | true => rw [hm] at h3; have := h3.mpr rfl; simp at this; omega
  show (x.toBitVec ^^^ (iI p).toBitVec).msb = true ↔ _
  rw [BitVec.msb_xor, h2]
  simp
