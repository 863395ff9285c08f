/-! QUESTIONS: conic, count -/
theorem k_isNumber {x : Int} (hx : rg32 x) : (inC x ∧ MX11_isNumber (iI x) = some 1) ∨ (¬ inC x ∧ MX11_isNumber (iI x) = some 0) := by
  have r0 : rg32 0 := ⟨by omega, by omega⟩
  have r6 : rg32 6 := ⟨by omega, by omega⟩
  unfold MX11_isNumber inC
  rw [show (0 : Int32) = iI 0 from rfl, show (6 : Int32) = iI 6 from rfl, show (1 : Int32) = iI 1 from rfl]
  by_cases h1 : x < 0
  · rw [if_pos (by rw [iI_lt hx r0]; exact h1)]; exact Or.inr ⟨by omega, zr0 _⟩
  · rw [if_neg (by rw [iI_lt hx r0]; exact h1)]
    by_cases h2 : 6 ≤ x
    · rw [if_pos (by rw [iI_le r6 hx]; exact h2)]; exact Or.inr ⟨by omega, zr0 _⟩
    · rw [if_neg (by rw [iI_le r6 hx]; exact h2)]; exact Or.inl ⟨by omega, zr1 _⟩
/-- a conic's own numbers -/
def cn (S : Sheet) (c i : Nat) : Int := S.2.2 (6 * c + i)
theorem cn_bd {S : Sheet} {c i : Nat} (hS : SOK S) (hc : c < 6) (hi : i < 6) : bd (cn S c i) 99 := hS.2.2.2.2.1 _ (by omega)
def toldV (v : Nat → Int) (w : Int) : Int := if w = 3 then 4 * v 0 * v 1 - v 5 * v 5 else if w = 4 then fe v else 4 * v 1 * v 2 - v 3 * v 3 + 4 * v 0 * v 2 - v 4 * v 4
theorem m_ns {σ : Sto} {ρ : Rho} {S : Sheet} {c : Int} (h : QV σ ρ S) (hc : inC c) : ag σ 93 ((6 : Int32) * iI c) = some (iI (cn S c.toNat 0)) ∧ ∀ i : Nat, i < 6 → ag σ 93 ((6 : Int32) * iI c + iI i) = some (iI (cn S c.toNat i)) := by
  obtain ⟨-, -, -, hS, -, hM⟩ := h
  unfold inC at hc
  have hn := hM.2.2.1
  constructor
  · rw [show (6 : Int32) = iI 6 from rfl, iI_mul, ag93i (by omega) (by omega), show (6 * c).toNat = 0 + (6 * c.toNat + 0) by omega, hn _ (by omega)]
    rfl
  · intro i hi
    rw [show (6 : Int32) = iI 6 from rfl, iI_mul, iI_add, ag93i (by omega) (by omega), show (6 * c + i).toNat = 0 + (6 * c.toNat + i) by omega, hn _ (by omega)]
    rfl
theorem m_told {σ : Sto} {ρ : Rho} {S : Sheet} {c w : Int} (h : QV σ ρ S) (hc : inC c) (hw : rg32 w) : MX12_told σ ρ 92 (iI c) (iI w) = some (iI (toldV (cn S c.toNat) w)) := by
  obtain ⟨n0, ns⟩ := m_ns h hc
  have hρ := h.2.1
  have n1 := ns 1 (by omega); have n2 := ns 2 (by omega); have n3 := ns 3 (by omega); have n4 := ns 4 (by omega); have n5 := ns 5 (by omega)
  have e3 : (iI w = (3 : Int32)) ↔ w = 3 := by rw [show (3 : Int32) = iI 3 from rfl, iI_eq hw ⟨by omega, by omega⟩]
  have e4 : (iI w = (4 : Int32)) ↔ w = 4 := by rw [show (4 : Int32) = iI 4 from rfl, iI_eq hw ⟨by omega, by omega⟩]
  have n1' : ag σ 93 ((6 : Int32) * iI c + (1 : Int32)) = some (iI (cn S c.toNat 1)) := n1
  have n2' : ag σ 93 ((6 : Int32) * iI c + (2 : Int32)) = some (iI (cn S c.toNat 2)) := n2
  have n3' : ag σ 93 ((6 : Int32) * iI c + (3 : Int32)) = some (iI (cn S c.toNat 3)) := n3
  have n4' : ag σ 93 ((6 : Int32) * iI c + (4 : Int32)) = some (iI (cn S c.toNat 4)) := n4
  have n5' : ag σ 93 ((6 : Int32) * iI c + (5 : Int32)) = some (iI (cn S c.toNat 5)) := n5
  unfold MX12_told toldV fe
  simp only [hρ.1, ↓ob_some, bn_eq, n0, n1', n2', n3', n4', n5', e3, e4]
  by_cases c3 : w = 3
  · rw [if_pos c3, if_pos c3]
    simp only [i4, iI_mul, iI_sub]
  · rw [if_neg c3, if_neg c3]
    by_cases c4 : w = 4
    · rw [if_pos c4, if_pos c4]
      simp only [i2, i8, iI_mul, iI_add, iI_sub]
    · rw [if_neg c4, if_neg c4]
      simp only [i4, iI_mul, iI_add, iI_sub]
theorem m_turned {a b : Int} (ha : rg32 a) (hb : rg32 b) : ∃ t : Int32, MX12_turned (iI a) (iI b) = some t ∧ (0 ≤ t ↔ ¬ (a * b < 0)) := by
  have r0 : rg32 0 := ⟨by omega, by omega⟩
  have sa : (0 ≤ iI a ↔ 0 ≤ a) ∧ (iI a ≤ 0 ↔ a ≤ 0) := by
    rw [show (0 : Int32) = iI 0 from rfl]; exact ⟨iI_le r0 ha, iI_le ha r0⟩
  have sb : (0 ≤ iI b ↔ 0 ≤ b) ∧ (iI b ≤ 0 ↔ b ≤ 0) := by
    rw [show (0 : Int32) = iI 0 from rfl]; exact ⟨iI_le r0 hb, iI_le hb r0⟩
  unfold MX12_turned BX12_turned_17 BX12_turned_34
  simp only [sa.1, sa.2, sb.1, sb.2]
  by_cases a1 : 0 ≤ a
  · by_cases a2 : a ≤ 0
    · have a0 : a = 0 := by omega
      subst a0
      by_cases b1 : 0 ≤ b
      · by_cases b2 : b ≤ 0
        · exact ⟨0 * 0, by simp [b1, b2], by simp⟩
        · exact ⟨0 * 1, by simp [b1, b2], by simp⟩
      · exact ⟨0 * -1, by simp [b1], by simp⟩
    · by_cases b1 : 0 ≤ b
      · by_cases b2 : b ≤ 0
        · have b0 : b = 0 := by omega
          subst b0
          exact ⟨1 * 0, by simp [a1, a2], by simp⟩
        · have := Int.mul_nonneg a1 b1
          exact ⟨1 * 1, by simp [a1, a2, b1, b2], ⟨fun _ => by omega, fun _ => by decide⟩⟩
      · have := Int.mul_neg_of_pos_of_neg (show 0 < a by omega) (show b < 0 by omega)
        exact ⟨1 * -1, by simp [a1, a2, b1], ⟨fun z => absurd z (by decide), fun z => by omega⟩⟩
  · by_cases b1 : 0 ≤ b
    · by_cases b2 : b ≤ 0
      · have b0 : b = 0 := by omega
        subst b0
        exact ⟨-1 * 0, by simp [a1], by simp⟩
      · have := Int.mul_neg_of_neg_of_pos (show a < 0 by omega) (show 0 < b by omega)
        exact ⟨-1 * 1, by simp [a1, b1, b2], ⟨fun z => absurd z (by decide), fun z => by omega⟩⟩
    · have := Int.mul_pos_of_neg_of_neg (show a < 0 by omega) (show b < 0 by omega)
      exact ⟨-1 * -1, by simp [a1, b1], ⟨fun _ => by omega, fun _ => by decide⟩⟩
theorem m_sort {σ : Sto} {ρ : Rho} {S : Sheet} {c : Int} (h : QV σ ρ S) (hc : inC c) : MX12_sort σ ρ 92 (iI c) = some (iI (srt (cn S c.toNat) : Nat)) := by
  have hS := h.2.2.2.1
  have hρ := h.2.1
  have hc6 : c.toNat < 6 := by unfold inC at hc; omega
  have hb := fun i (hi : i < 6) => cn_bd (c := c.toNat) hS hc6 hi
  have h0 := hb 0 (by omega); have hm1 := hb 1 (by omega); have hm2 := hb 2 (by omega); have hm3 := hb 3 (by omega); have h4 := hb 4 (by omega); have h5 := hb 5 (by omega)
  have r0 : rg32 0 := ⟨by omega, by omega⟩
  obtain ⟨n0, ns⟩ := m_ns h hc
  have n1 := ns 1 (by omega); have n3 := ns 3 (by omega); have n4 := ns 4 (by omega); have n5 := ns 5 (by omega)
  have t3 := m_told (w := 3) h hc ⟨by omega, by omega⟩
  have t4 := m_told (w := 4) h hc ⟨by omega, by omega⟩
  have t5 := m_told (w := 5) h hc ⟨by omega, by omega⟩
  rw [show toldV (cn S c.toNat) 3 = 4 * cn S c.toNat 0 * cn S c.toNat 1 - cn S c.toNat 5 * cn S c.toNat 5 from rfl] at t3
  rw [show toldV (cn S c.toNat) 4 = fe (cn S c.toNat) from rfl] at t4
  rw [show toldV (cn S c.toNat) 5 = 4 * cn S c.toNat 1 * cn S c.toNat 2 - cn S c.toNat 3 * cn S c.toNat 3 + 4 * cn S c.toNat 0 * cn S c.toNat 2 - cn S c.toNat 4 * cn S c.toNat 4 from rfl] at t5
  generalize cn S c.toNat = v at *
  have re := bd_rg (fe_bd h0 hm1 hm2 hm3 h4 h5) (by decide)
  have rd : rg32 (4 * v 0 * v 1 - v 5 * v 5) := bd_rg (bd_sub (bd_mul (bd_mul (bd_lit 4) h0) hm1) (bd_mul h5 h5)) (by decide)
  have ri : rg32 (4 * v 1 * v 2 - v 3 * v 3 + 4 * v 0 * v 2 - v 4 * v 4) := bd_rg (bd_sub (bd_add (bd_sub (bd_mul (bd_mul (bd_lit 4) hm1) hm2) (bd_mul hm3 hm3)) (bd_mul (bd_mul (bd_lit 4) h0) hm2)) (bd_mul h4 h4)) (by decide)
  have rs : rg32 (v 0 + v 1) := bd_rg (bd_add h0 hm1) (by decide)
  have zi : ∀ i, i < 6 → (iI (v i) = 0 ↔ v i = 0) := fun i hi => by rw [show (0 : Int32) = iI 0 from rfl, iI_eq (bd_rg (hb i hi) (by decide)) r0]
  have ze : iI (fe v) = 0 ↔ fe v = 0 := by rw [show (0 : Int32) = iI 0 from rfl, iI_eq re r0]
  have zd : iI (4 * v 0 * v 1 - v 5 * v 5) = 0 ↔ 4 * v 0 * v 1 - v 5 * v 5 = 0 := by rw [show (0 : Int32) = iI 0 from rfl, iI_eq rd r0]
  have ld : iI (4 * v 0 * v 1 - v 5 * v 5) ≤ 0 ↔ ¬ 0 < 4 * v 0 * v 1 - v 5 * v 5 := by rw [show (0 : Int32) = iI 0 from rfl, iI_le rd r0]; omega
  have li : iI (4 * v 1 * v 2 - v 3 * v 3 + 4 * v 0 * v 2 - v 4 * v 4) ≤ 0 ↔ ¬ 0 < 4 * v 1 * v 2 - v 3 * v 3 + 4 * v 0 * v 2 - v 4 * v 4 := by rw [show (0 : Int32) = iI 0 from rfl, iI_le ri r0]; omega
  have gi : 0 ≤ iI (4 * v 1 * v 2 - v 3 * v 3 + 4 * v 0 * v 2 - v 4 * v 4) ↔ ¬ 4 * v 1 * v 2 - v 3 * v 3 + 4 * v 0 * v 2 - v 4 * v 4 < 0 := by rw [show (0 : Int32) = iI 0 from rfl, iI_le r0 ri]; omega
  obtain ⟨t, te, tl⟩ := m_turned re rs
  have q1 : (1 : Int32) = iI ((1 : Nat) : Int) := rfl
  have q3 : (3 : Int32) = iI ((3 : Nat) : Int) := rfl
  have q4 : (4 : Int32) = iI ((4 : Nat) : Int) := rfl
  have q5 : (5 : Int32) = iI ((5 : Nat) : Int) := rfl
  have n1' : ag σ 93 ((6 : Int32) * iI c + (1 : Int32)) = some (iI (v 1)) := n1
  have n3' : ag σ 93 ((6 : Int32) * iI c + (3 : Int32)) = some (iI (v 3)) := n3
  have n4' : ag σ 93 ((6 : Int32) * iI c + (4 : Int32)) = some (iI (v 4)) := n4
  have n5' : ag σ 93 ((6 : Int32) * iI c + (5 : Int32)) = some (iI (v 5)) := n5
  have t3' : MX12_told σ ρ 92 (iI c) (3 : Int32) = _ := t3
  have t4' : MX12_told σ ρ 92 (iI c) (4 : Int32) = _ := t4
  have t5' : MX12_told σ ρ 92 (iI c) (5 : Int32) = _ := t5
  unfold MX12_sort BX12_sort_123 srt
  simp only [t3', t4', t5', hρ.1, n0, n1', n3', n4', n5', ↓ob_some, bn_eq, iI_add, te, ze, zd, ld, li, gi, tl, zi 0 (by omega), zi 1 (by omega), zi 5 (by omega), zi 3 (by omega), zi 4 (by omega)]
  clear t3' t4' t5' n0 ns n1 n3 n4 n5 n1' n3' n4' n5' te tl gi li ld zd ze zi rs ri rd re h0 hm1 hm2 hm3 h4 h5 hb t3 t4 t5
  generalize 4 * v 1 * v 2 - v 3 * v 3 + 4 * v 0 * v 2 - v 4 * v 4 = I
  generalize 4 * v 0 * v 1 - v 5 * v 5 = D
  generalize fe v * (v 0 + v 1) = T
  by_cases a1 : fe v = 0
  · rw [if_pos a1, if_pos a1]
    by_cases a2 : D = 0
    · rw [if_pos a2, if_pos a2]
      by_cases b0 : v 0 = 0 <;> by_cases b1 : v 1 = 0 <;> by_cases b5 : v 5 = 0 <;> by_cases b3 : v 3 = 0 <;> by_cases b4 : v 4 = 0 <;> by_cases i1 : I < 0 <;> by_cases i2' : 0 < I <;> simp only [b0, b1, b5, b3, b4, i1, i2', not_true, not_false_eq_true, and_self, and_true, and_false, false_and, true_and, if_true, if_false, ob_some] <;> first | rfl | omega
    · rw [if_neg a2, if_neg a2]
      by_cases a3 : 0 < D <;> simp only [a3, not_true, not_false_eq_true, if_true, if_false, ob_some] <;> rfl
  · rw [if_neg a1, if_neg a1]
    by_cases a3 : 0 < D
    · by_cases a4 : T < 0 <;> simp only [a3, a4, not_true, not_false_eq_true, if_true, if_false, ob_some] <;> rfl
    · by_cases a4 : D = 0
      · simp only [a4, Int.lt_irrefl, not_false_eq_true, if_true, if_false, ob_some]; rfl
      · simp only [a3, a4, not_false_eq_true, if_true, if_false, ob_some]; rfl
/-- conic -/
def aCon0 (v : Nat → Int) (p : Nat) (m : Nat → Int) (w : Int) : Int := if w = 0 then (srt v : Nat) else if w = 1 then (kdm p m : Nat) else if w = 2 then (rkm p m : Nat) else if w = 3 then toldV v 3 else if w = 4 then toldV v 4 else if w = 5 then toldV v 5 else if w = 6 then (ptsN p m : Nat) else if w = 7 then (lnsN p m : Nat) else if w = 8 then (if kdm p m = 4 then (p : Int) * (p + 1) / 2 else -1) else if w = 9 then (if kdm p m = 4 then (p : Int) * (p - 1) / 2 else -1) else -2000000000
noncomputable def aCon (S : Sheet) (c w : Int) : Int := cas (inC c) (cas (inC (w - 10)) (cn S c.toNat (w - 10).toNat) (cas (inC (w - 20)) (cm S c.toNat (w - 20).toNat) (aCon0 (cn S c.toNat) S.1 (cm S c.toNat) w))) (-2000000000)
theorem cons_if {w k : Int} {α : Type} {a b : α} (h : w ≠ k) : (if w = k then a else b) = b := if_neg h
theorem k_conic {σ : Sto} {ρ : Rho} {S : Sheet} {c w : Int} (h : QV σ ρ S) (hc : rg32 c) (hw : rg32 w) : OK (MX11_conic σ ρ 0 (iI c) (iI w)) (fun o => o.1 = iI (aCon S c w) ∧ Fr SC σ o.2) := by
  obtain ⟨hD, hρ, -, hS, hC, hM⟩ := id h
  obtain ⟨hp3, hp23⟩ := hS.1.le
  unfold MX11_conic
  rcases k_isConic hc with ⟨a, e⟩ | ⟨a, e⟩
  · have hc6 : c.toNat < 6 := by unfold inC at a; omega
    have ec : ((c.toNat : Nat) : Int) = c := by unfold inC at a; omega
    have hrd := c_read (σ := σ) (k := 87) (c := c.toNat) (Sr_2 hD) hC hc6
    rw [ec] at hrd
    rw [e, ob_some, if_neg ne10, dk_0_0 hD, ob_some, dk_1_0 hD, ob_some, dk_0_9 hD, ob_some, hrd, ob_some, dk_0_7 hD, ob_some, ob_some, dk_1_0 hD, ob_some]
    generalize hs1 : F6 σ 87 (fun i => S.2.2 (6 * c.toNat + i)) = s1
    have f1 : Fr SC σ s1 := by rw [← hs1]; exact sc_F6 (by omega)
    have g1 : FI s1 87 (cn S c.toNat) := by rw [← hs1]; exact F6_FI
    have htk := c_take (s := 2) (k := 83) (c := c.toNat) (dk_83_0 hD) (by omega) (Sr_2 hD) hS (QV_fr h f1).2.2.2.2.1 hc6
    rw [ec] at htk
    refine OK.bi htk ?_
    intro s ⟨t1, t2⟩
    have f2 : Fr SC σ s := f1.tr (sc_C2 t2 (by omega))
    have g2 : FI s 87 (cn S c.toNat) := FI_k g1 (fun i => t2 _ _ (by unfold C2; omega))
    have hC2 := (QV_fr h f2).2.2.2.2.1
    have hkl := kdm_le (p := S.1) (m := cm S c.toNat)
    have bnum : ∀ i, i < 6 → bd (cn S c.toNat i) 99 := fun i hi => cn_bd hS hc6 hi
    have K4 : (iI (kdm S.1 (cm S c.toNat) : Nat) = (4 : Int32)) ↔ kdm S.1 (cm S c.toNat) = 4 := by rw [w4, iI_eqN (by omega) (by omega)]
    have W : ∀ k : Int, rg32 k → ((iI w = iI k) ↔ w = k) := fun k hk => iI_eq hw hk
    -- over fractions and kinds
    have F0 : w < 6 → OK (MX11_overFractionsOrKind s ρ 0 (iI w)) (fun x => x = iI (aCon0 (cn S c.toNat) S.1 (cm S c.toNat) w)) := by
      intro h6
      unfold MX11_overFractionsOrKind aCon0
      rw [show (0 : Int32) = iI 0 from rfl, show (1 : Int32) = iI 1 from rfl, show (2 : Int32) = iI 2 from rfl, show (3 : Int32) = iI 3 from rfl, show (4 : Int32) = iI 4 from rfl, show (5 : Int32) = iI 5 from rfl]
      simp only [W 0 ⟨by omega, by omega⟩, W 1 ⟨by omega, by omega⟩, W 2 ⟨by omega, by omega⟩, W 3 ⟨by omega, by omega⟩, W 4 ⟨by omega, by omega⟩, W 5 ⟨by omega, by omega⟩]
      by_cases a0 : w = 0
      · rw [if_pos a0, if_pos a0, dk_0_9 hD, ob_some, c_sort g2 bnum, ob_some]; exact OK.so rfl
      · rw [if_neg a0, if_neg a0]
        by_cases a1 : w = 1
        · rw [if_pos a1, if_pos a1, dk_0_7 hD, ob_some, c_kind (dk_83_0 hD) hS.1 t1, ob_some]; exact OK.so rfl
        · rw [if_neg a1, if_neg a1]
          by_cases a2 : w = 2
          · rw [if_pos a2, if_pos a2, dk_0_7 hD, ob_some, c_rank (dk_83_0 hD) hS.1 t1, ob_some]; exact OK.so rfl
          · rw [if_neg a2, if_neg a2]
            by_cases a3 : w = 3
            · rw [if_pos a3, if_pos a3, dk_0_9 hD, ob_some, c_d g2, ob_some]; exact OK.so rfl
            · rw [if_neg a3, if_neg a3]
              by_cases a4 : w = 4
              · rw [if_pos a4, if_pos a4, dk_0_9 hD, ob_some, c_e g2, ob_some]; exact OK.so rfl
              · rw [if_neg a4, if_neg a4]
                by_cases a5 : w = 5
                · rw [if_pos a5, if_pos a5, dk_0_9 hD, ob_some, c_i g2, ob_some]; exact OK.so rfl
                · rw [if_neg a5, if_neg a5, if_neg (show ¬ w = 6 by omega), if_neg (show ¬ w = 7 by omega), if_neg (show ¬ w = 8 by omega), if_neg (show ¬ w = 9 by omega)]; exact OK.so rfl
    have F1 : 6 ≤ w → OK (MX11_overField s ρ 0 (iI w)) (fun x => x = iI (aCon0 (cn S c.toNat) S.1 (cm S c.toNat) w)) := by
      intro h6
      have D8 : dvi (iI S.1 * (iI S.1 + 1)) (2 : Int32) = some (iI ((S.1 : Int) * (S.1 + 1) / 2)) := by
        have b1 : bd (S.1 : Int) 23 := ⟨by omega, by omega⟩
        have hn : 0 ≤ (S.1 : Int) * (S.1 + 1) := Int.mul_nonneg (by omega) (by omega)
        rw [show (1 : Int32) = iI 1 from rfl, iI_add, iI_mul, show (2 : Int32) = iI 2 from rfl, dvi_iI (bd_rg (bd_mul b1 (bd_add b1 (bd_lit 1))) (by decide)) ⟨by omega, by omega⟩ (by omega), Int.tdiv_eq_ediv_of_nonneg hn]
      have D9 : dvi (iI S.1 * (iI S.1 - 1)) (2 : Int32) = some (iI ((S.1 : Int) * (S.1 - 1) / 2)) := by
        have b1 : bd (S.1 : Int) 23 := ⟨by omega, by omega⟩
        have hn : 0 ≤ (S.1 : Int) * (S.1 - 1) := Int.mul_nonneg (by omega) (by omega)
        rw [show (1 : Int32) = iI 1 from rfl, iI_sub, iI_mul, show (2 : Int32) = iI 2 from rfl, dvi_iI (bd_rg (bd_mul b1 (bd_sub b1 (bd_lit 1))) (by decide)) ⟨by omega, by omega⟩ (by omega), Int.tdiv_eq_ediv_of_nonneg hn]
      have B : ∀ t0 : Int32, (t0 = 0 ↔ kdm S.1 (cm S c.toNat) ≠ 4) → OK (BX11_overField_27 s ρ 0 (iI w) (iI S.1) t0) (fun x => x = iI (aCon0 (cn S c.toNat) S.1 (cm S c.toNat) w)) := by
        intro t0 ht0
        unfold BX11_overField_27 aCon0
        rw [if_neg (show ¬ w = 0 by omega), if_neg (show ¬ w = 1 by omega), if_neg (show ¬ w = 2 by omega), if_neg (show ¬ w = 3 by omega), if_neg (show ¬ w = 4 by omega), if_neg (show ¬ w = 5 by omega), bn_eq, show (6 : Int32) = iI 6 from rfl, show (7 : Int32) = iI 7 from rfl, show (8 : Int32) = iI 8 from rfl, show (9 : Int32) = iI 9 from rfl, D8, D9, ob_some, ob_some]
        simp only [W 6 ⟨by omega, by omega⟩, W 7 ⟨by omega, by omega⟩, W 8 ⟨by omega, by omega⟩, W 9 ⟨by omega, by omega⟩]
        by_cases a6 : w = 6
        · rw [if_pos a6, if_pos a6, dk_0_7 hD, ob_some, c_curvePoints (dk_83_0 hD) hS.1 t1, ob_some]; exact OK.so rfl
        · rw [if_neg a6, if_neg a6]
          by_cases a7 : w = 7
          · rw [if_pos a7, if_pos a7, dk_0_7 hD, ob_some, c_curveLines (dk_83_0 hD) hS.1 t1, ob_some]; exact OK.so rfl
          · rw [if_neg a7, if_neg a7]
            by_cases c4 : kdm S.1 (cm S c.toNat) = 4
            · rw [if_pos c4, if_pos c4, if_neg (fun z => (ht0.mp z) c4), if_neg (fun z => (ht0.mp z) c4)]
              by_cases a8 : w = 8
              · rw [if_pos a8, if_pos a8]; exact OK.so rfl
              · rw [if_neg a8, if_neg a8]
                by_cases a9 : w = 9
                · rw [if_pos a9, if_pos a9]; exact OK.so rfl
                · rw [if_neg a9, if_neg a9]; exact OK.so rfl
            · rw [if_neg c4, if_neg c4, if_pos (ht0.mpr c4), if_pos (ht0.mpr c4)]
              by_cases a8 : w = 8
              · rw [if_pos a8, if_pos a8]; exact OK.so rfl
              · rw [if_neg a8, if_neg a8]
                by_cases a9 : w = 9
                · rw [if_pos a9, if_pos a9]; exact OK.so rfl
                · rw [if_neg a9, if_neg a9]; exact OK.so rfl
      unfold MX11_overField
      rw [dk_0_0 hD, ob_some, dk_1_0 hD, ob_some, bn_eq, hC2.1, dk_0_7 hD, ob_some, c_kind (dk_83_0 hD) hS.1 t1, ob_some]
      by_cases c4 : kdm S.1 (cm S c.toNat) = 4
      · rw [if_pos (K4.mpr c4)]; exact B 1 ⟨fun z => absurd z ne10, fun z => absurd c4 z⟩
      · rw [if_neg (fun z => c4 (K4.mp z))]; exact B 0 ⟨fun _ => c4, fun _ => rfl⟩
    have C99 : OK (BX11_conic_99 ρ 0 (iI c) (iI w) s) (fun o => o.1 = iI (aCon0 (cn S c.toNat) S.1 (cm S c.toNat) w) ∧ Fr SC σ o.2) := by
      unfold BX11_conic_99
      rw [show (6 : Int32) = iI 6 from rfl]
      by_cases h6 : 6 ≤ w
      · rw [if_pos (by rw [iI_le ⟨by omega, by omega⟩ hw]; exact h6)]
        exact OK.bi (F1 h6) (fun x hx => OK.so ⟨hx, f2⟩)
      · rw [if_neg (by rw [iI_le ⟨by omega, by omega⟩ hw]; exact h6)]
        exact OK.bi (F0 (by omega)) (fun x hx => OK.so ⟨hx, f2⟩)
    have C68 : ¬ inC (w - 10) → OK (BX11_conic_68 ρ 0 (iI c) (iI w) s) (fun o => o.1 = iI (cas (inC (w - 20)) (cm S c.toNat (w - 20).toNat) (aCon0 (cn S c.toNat) S.1 (cm S c.toNat) w)) ∧ Fr SC σ o.2) := by
      intro _
      unfold BX11_conic_68
      rw [show (20 : Int32) = iI 20 from rfl]
      by_cases h20 : w < 20
      · rw [if_pos (by rw [iI_lt hw ⟨by omega, by omega⟩]; exact h20), cas_neg (show ¬ inC (w - 20) by unfold inC; omega)]; exact C99
      · rw [if_neg (by rw [iI_lt hw ⟨by omega, by omega⟩]; exact h20), iI_sub]
        rcases k_isNumber (x := w - 20) (by unfold rg32 at *; omega) with ⟨b, e2⟩ | ⟨b, e2⟩
        · have := c_nth (i := (w - 20).toNat) t1.2.1 (by unfold inC at b; omega)
          rw [show (((w - 20).toNat : Nat) : Int) = w - 20 by unfold inC at b; omega] at this
          rw [e2, ob_some, if_neg ne10, dk_0_7 hD, ob_some, dk_83_0 hD, ob_some, this, ob_some, cas_pos b]
          exact OK.so ⟨rfl, f2⟩
        · rw [e2, ob_some, if_pos rfl, cas_neg b]; exact C99
    unfold aCon
    rw [cas_pos a, show (10 : Int32) = iI 10 from rfl]
    by_cases h10 : w < 10
    · rw [if_pos (by rw [iI_lt hw ⟨by omega, by omega⟩]; exact h10), cas_neg (show ¬ inC (w - 10) by unfold inC; omega)]
      exact C68 (by unfold inC; omega)
    · rw [if_neg (by rw [iI_lt hw ⟨by omega, by omega⟩]; exact h10), iI_sub]
      rcases k_isNumber (x := w - 10) (by unfold rg32 at *; omega) with ⟨b, e2⟩ | ⟨b, e2⟩
      · have := c_nth (i := (w - 10).toNat) g2 (by unfold inC at b; omega)
        rw [show (((w - 10).toNat : Nat) : Int) = w - 10 by unfold inC at b; omega] at this
        rw [e2, ob_some, if_neg ne10, ob_some, this, ob_some, cas_pos b]
        exact OK.so ⟨rfl, f2⟩
      · rw [e2, ob_some, if_pos rfl, cas_neg b]; exact C68 b
  · unfold aCon
    rw [e, ob_some, if_pos rfl, cas_neg a]; exact OK.so ⟨rfl, Fr.rf⟩
theorem m_conic {σ : Sto} {ρ : Rho} {S : Sheet} {c w : Int} (h : QV σ ρ S) (hc : rg32 c) (hw : rg32 w) : OK (MX12_conic σ ρ 92 (iI c) (iI w)) (fun o => o.1 = iI (aCon S c w) ∧ Fr SC σ o.2) := by
  obtain ⟨hD, hρ, -, hS, hC, hM⟩ := id h
  obtain ⟨hp3, hp23⟩ := hS.1.le
  unfold MX12_conic
  rcases m_isConic hc with ⟨a, e⟩ | ⟨a, e⟩
  · have hc6 : c.toNat < 6 := by unfold inC at a; omega
    rw [e, ob_some, if_neg ne10]
    refine m_lay h a (fun s f hm => ?_)
    have hq := QV_fr h f
    have W : ∀ k : Int, rg32 k → ((iI w = iI k) ↔ w = k) := fun k hk => iI_eq hw hk
    unfold aCon
    rw [cas_pos a, show (10 : Int32) = iI 10 from rfl, show (15 : Int32) = iI 15 from rfl]
    rcases m_isIn (a := w) (b := 10) (c := 15) hw ⟨by omega, by omega⟩ ⟨by omega, by omega⟩ with ⟨x, y, e2⟩ | ⟨x, e2⟩
    · have := (m_ns hq a).2 (w - 10).toNat (by omega)
      rw [e2, ob_some, if_neg ne10, hρ.1, ob_some, cas_pos (show inC (w - 10) by unfold inC; omega)]
      have e3 : (6 : Int32) * iI c + iI w - iI 10 = (6 : Int32) * iI c + iI ((w - 10).toNat : Nat) := by
        rw [show (6 : Int32) = iI 6 from rfl, iI_mul, iI_add, iI_sub, iI_add]; congr 1; omega
      rw [e3, this, ob_some]
      exact OK.so ⟨rfl, f⟩
    · rw [e2, ob_some, if_pos rfl, cas_neg (show ¬ inC (w - 10) by unfold inC; omega), show (20 : Int32) = iI 20 from rfl, show (25 : Int32) = iI 25 from rfl]
      rcases m_isIn (a := w) (b := 20) (c := 25) hw ⟨by omega, by omega⟩ ⟨by omega, by omega⟩ with ⟨x2, y2, e3⟩ | ⟨x2, e3⟩
      · rw [e3, ob_some, if_neg ne10, hρ.2.2.2.1, ob_some, iI_sub, ag96i (by omega) (by omega), ob_some, hm.2.1 _ (by omega), cas_pos (show inC (w - 20) by unfold inC; omega)]
        exact OK.so ⟨rfl, f⟩
      · rw [e3, ob_some, if_pos rfl, cas_neg (show ¬ inC (w - 20) by unfold inC; omega)]
        rw [show (0 : Int32) = iI 0 from rfl, show (1 : Int32) = iI 1 from rfl, show (2 : Int32) = iI 2 from rfl, show (3 : Int32) = iI 3 from rfl, show (4 : Int32) = iI 4 from rfl, show (5 : Int32) = iI 5 from rfl, show (6 : Int32) = iI 6 from rfl, show (7 : Int32) = iI 7 from rfl, show (8 : Int32) = iI 8 from rfl, show (9 : Int32) = iI 9 from rfl]
        unfold BX12_conic_136 BX12_conic_153 aCon0
        simp only [W 0 ⟨by omega, by omega⟩, W 1 ⟨by omega, by omega⟩, W 2 ⟨by omega, by omega⟩, W 3 ⟨by omega, by omega⟩, W 4 ⟨by omega, by omega⟩, W 5 ⟨by omega, by omega⟩, W 6 ⟨by omega, by omega⟩, W 7 ⟨by omega, by omega⟩, W 8 ⟨by omega, by omega⟩, W 9 ⟨by omega, by omega⟩]
        by_cases a0 : w = 0
        · rw [if_pos a0, if_pos a0, m_sort hq a, ob_some]; exact OK.so ⟨rfl, f⟩
        · rw [if_neg a0, if_neg a0]
          by_cases a1 : w = 1
          · rw [if_pos a1, if_pos a1]
            refine OK.bi (m_kindOf hρ hS.1 hm) ?_
            rintro ⟨v, s2⟩ ⟨r1, r2⟩
            exact OK.so ⟨r1, f.tr (r2.mo (fun _ _ h => sc_QX h))⟩
          · rw [if_neg a1, if_neg a1]
            by_cases a2 : w = 2
            · rw [if_pos a2, if_pos a2]
              refine OK.bi (m_rankOf hρ hS.1 hm) ?_
              rintro ⟨v, s2⟩ ⟨r1, r2⟩
              exact OK.so ⟨r1, f.tr (r2.mo (fun _ _ h => sc_RX h))⟩
            · rw [if_neg a2, if_neg a2]
              by_cases a3 : w = 3
              · rw [if_pos a3, if_pos a3, m_told hq a hw, ob_some, a3]; exact OK.so ⟨rfl, f⟩
              · rw [if_neg a3, if_neg a3]
                by_cases a4 : w = 4
                · rw [if_pos a4, if_pos a4, m_told hq a hw, ob_some, a4]; exact OK.so ⟨rfl, f⟩
                · rw [if_neg a4, if_neg a4]
                  by_cases a5 : w = 5
                  · rw [if_pos a5, if_pos a5, m_told hq a hw, ob_some, a5]; exact OK.so ⟨rfl, f⟩
                  · rw [if_neg a5, if_neg a5]
                    by_cases a6 : w = 6
                    · obtain ⟨s2, e4, f4⟩ := m_pointsOn hρ hS.1 hm
                      rw [if_pos a6, if_pos a6, e4, ob_some, ptsN_ct hS.1]; exact OK.so ⟨rfl, f.tr (f4.mo (fun _ _ h => sc_PX h))⟩
                    · rw [if_neg a6, if_neg a6]
                      by_cases a7 : w = 7
                      · obtain ⟨s2, e4, f4⟩ := m_linesOn hρ hS.1 hm
                        rw [if_pos a7, if_pos a7, e4, ob_some, lnsN_ct hS.1]; exact OK.so ⟨rfl, f.tr (f4.mo (fun _ _ h => sc_PX h))⟩
                      · rw [if_neg a7, if_neg a7]
                        have hkl := kdm_le (p := S.1) (m := cm S c.toNat)
                        have SD : ∀ side : Nat, side ≤ 4 → OK (Option.bind (MX12_kindOf s ρ 92) fun c1 => if c1.1 = iI 4 then Option.bind (MX12_sided c1.2 ρ 92 (iI side)) fun c2 => some (c2.1, c2.2) else some ((-1 : Int32), c1.2)) (fun o => o.1 = iI (if kdm S.1 (cm S c.toNat) = 4 then ((ct (fun k => lieV (cm S c.toNat) S.1 k 4 == side) (NP S.1) : Nat) : Int) else -1) ∧ Fr SC σ o.2) := by
                          intro side hs4
                          refine OK.bi (m_kindOf hρ hS.1 hm) ?_
                          rintro ⟨v, s2⟩ ⟨r1, r2⟩
                          dsimp only at r1 r2 ⊢
                          rw [r1]
                          by_cases c4 : kdm S.1 (cm S c.toNat) = 4
                          · obtain ⟨s3, e5, f5⟩ := m_sided (side := side) hρ hS.1 (Mm_qx hm r2) hs4 (plv_0 hS.1 (kdm_4.mp c4))
                            rw [if_pos (by rw [c4]; rfl), e5, ob_some, if_pos c4]
                            exact OK.so ⟨rfl, (f.tr (r2.mo (fun _ _ h => sc_QX h))).tr (f5.mo (fun _ _ h => sc_PX h))⟩
                          · rw [if_neg (by rw [show iI 4 = iI ((4 : Nat) : Int) from rfl, iI_eqN (by omega) (by omega)]; exact c4), if_neg c4]
                            exact OK.so ⟨rfl, f.tr (r2.mo (fun _ _ h => sc_QX h))⟩
                        by_cases a8 : w = 8
                        · rw [if_pos a8, if_pos a8, a8, show iI 8 - (7 : Int32) = iI ((1 : Nat) : Int) from rfl]
                          refine (SD 1 (by omega)).mo ?_
                          rintro ⟨v, s3⟩ ⟨r1, r2⟩
                          refine ⟨r1.trans ?_, r2⟩
                          congr 1
                          by_cases c4 : kdm S.1 (cm S c.toNat) = 4
                          · rw [if_pos c4, if_pos c4]
                            have := (sided_ct hS.1 (kdm_4.mp c4)).1
                            have e6 : (S.1 : Int) * (S.1 + 1) = ((S.1 * (S.1 + 1) : Nat) : Int) := by push_cast; rfl
                            rw [e6]; omega
                          · rw [if_neg c4, if_neg c4]
                        · rw [if_neg a8, if_neg a8]
                          by_cases a9 : w = 9
                          · rw [if_pos a9, if_pos a9, a9, show iI 9 - (7 : Int32) = iI ((2 : Nat) : Int) from rfl]
                            refine (SD 2 (by omega)).mo ?_
                            rintro ⟨v, s3⟩ ⟨r1, r2⟩
                            refine ⟨r1.trans ?_, r2⟩
                            congr 1
                            by_cases c4 : kdm S.1 (cm S c.toNat) = 4
                            · rw [if_pos c4, if_pos c4]
                              obtain ⟨q1, q2⟩ := sided_ct hS.1 (kdm_4.mp c4)
                              have e6 : (S.1 : Int) * (S.1 - 1) = ((S.1 * S.1 : Nat) : Int) - S.1 := by push_cast; grind
                              have e7 : S.1 * (S.1 + 1) = S.1 * S.1 + S.1 := by rw [Nat.mul_add, Nat.mul_one]
                              rw [e6]; omega
                            · rw [if_neg c4, if_neg c4]
                          · rw [if_neg a9, if_neg a9]; exact OK.so ⟨rfl, f⟩
  · unfold aCon
    rw [e, ob_some, if_pos rfl, cas_neg a]; exact OK.so ⟨rfl, Fr.rf⟩
