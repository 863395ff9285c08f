/-- a loop that goes up, its state an invariant by the counter -/
theorem up_loop {β : Type} {bt : Sto → Int32 → Option β} {F : (Sto → Int32 → Option β) → Sto → Int32 → Option β} {N : Nat} {I : Nat → Sto → Prop} {Post : Option β → Prop}
    (hexit : ∀ r s, I N s → Post (F r s (iI N))) (hstep : ∀ r s (k : Nat), I k s → k < N → ∃ s', I (k + 1) s' ∧ F r s (iI k) = r s' (iI ((k + 1 : Nat) : Int))) {fu : Nat} (hfu : N < fu) {s : Sto} (hs : I 0 s) : Post (fixN bt F fu s (iI 0)) := by
  have key : ∀ d fuel, d < fuel → ∀ (k : Nat) (s : Sto), k + d = N → I k s → Post (fixN bt F fuel s (iI k)) := by
    refine fix_run (Q := fun d (r : Sto → Int32 → Option β) => ∀ (k : Nat) (s : Sto), k + d = N → I k s → Post (r s (iI k))) ?_ ?_
    · intro r k s hk hs
      have hkN : k = N := by omega
      subst hkN
      exact hexit r s hs
    · intro d r hr k s hk hs
      obtain ⟨s2, i2, e2⟩ := hstep r s k hs (by omega)
      rw [e2]
      exact hr (k + 1) s2 (by omega) i2
  exact key N fu hfu 0 s (by omega) hs
theorem nb_rg {p : Nat} {x y z : Int} (hp : PR p) : -1 ≤ nb p x y z ∧ nb p x y z < NP p := by
  obtain ⟨hp3, hp23⟩ := hp.le
  have e2 : ((NP p : Nat) : Int) = (p : Int) * p + p + 1 := by unfold NP; push_cast; rfl
  have hr : ∀ t : Int, 0 ≤ t % p ∧ t % p < p := fun t => emod_nn (by omega)
  have h0 := Int.mul_nonneg (show (0 : Int) ≤ p by omega) (show (0 : Int) ≤ p by omega)
  rw [e2]
  unfold nb
  split
  · split
    · split
      · exact ⟨by omega, by omega⟩
      · exact ⟨by omega, by omega⟩
    · have h := hr (z % p * iv p (y % p).toNat)
      exact ⟨by omega, by omega⟩
  · have h := hr (z % p * iv p (x % p).toNat)
    have h2 := hr (y % p * iv p (x % p).toNat)
    generalize y % p * iv p (x % p).toNat % p = a at *
    have h3 : (p : Int) * a ≤ p * (p - 1) := Int.mul_le_mul_of_nonneg_left (by omega) (by omega)
    have h4 : 0 ≤ (p : Int) * a := Int.mul_nonneg (by omega) h2.1
    have h5 : (p : Int) * (p - 1) = p * p - p := by rw [Int.mul_sub, Int.mul_one]
    exact ⟨by omega, by omega⟩
theorem plv_rg {p n : Nat} {m : Nat → Int} (hp : PR p) : -1 ≤ plv m p n ∧ plv m p n < NP p := nb_rg hp
/-- tangents through a point -/
def tnB (m : Nat → Int) (p pt k : Nat) : Bool := onB m p k && liB p pt (plv m p k).toNat
theorem m_tangents {σ : Sto} {ρ : Rho} {p pt : Nat} {m : Nat → Int} (hρ : Md ρ) (hp : PR p) (hm : Mm σ p m) (hpt : pt < NP p) (hpl : ∀ n, n < NP p → 0 ≤ plv m p n) : ∃ σ', MX12_tangents σ ρ 92 (iI pt) = some (iI (ct (tnB m p pt) (NP p) : Nat), σ') ∧ Fr PX σ σ' := by
  have hN := NP_le hp
  unfold MX12_tangents
  rw [bn_eq, bn_eq]
  refine cnt_loop (I := fun s => Fr PX σ s) ?_ ?_ (by unfold FU; omega) Fr.rf
  · intro r s v hs hv
    unfold FX12_tangents_4
    rw [m_places (Mm_fr hm hs).1, ob_some, if_pos (by rw [iI_leN (by omega) (by omega)]; omega)]
  · intro r s v k hs hk hv
    obtain ⟨s2, e2, f2⟩ := m_isOn' (n := k) hρ hp (Mm_fr hm hs) (by omega)
    have g2 := hs.tr f2
    unfold FX12_tangents_4
    rw [m_places (Mm_fr hm hs).1, ob_some, if_neg (by rw [iI_leN (by omega) (by omega)]; omega), e2, ob_some]
    cases c : onB m p k with
    | false =>
      refine ⟨s2, g2, ?_⟩
      unfold BX12_tangents_38 BX12_tangents_39
      simp [tnB, c, bn_eq, iI_succ, iI_add0]
    | true =>
      obtain ⟨s3, e3, f3⟩ := m_polarOf (n := k) hρ hp (Mm_fr hm g2) hk
      have g3 := g2.tr f3
      have hq := hpl k hk
      have hq2 := (plv_rg (n := k) (m := m) hp).2
      obtain ⟨s4, e4, f4⟩ := m_isOnLine' (n := pt) (k := (plv m p k).toNat) hp (Mm_fr hm g3).1 hpt (by omega)
      rw [show (((plv m p k).toNat : Nat) : Int) = plv m p k by omega] at e4
      refine ⟨s4, g3.tr f4, ?_⟩
      simp only [if_true, ne10, if_false, e3, ob_some, e4]
      unfold BX12_tangents_38 BX12_tangents_39
      cases d : liB p pt (plv m p k).toNat <;> simp [tnB, c, d, bn_eq, iI_succ, iI_add0, ne10]
def lieV (m : Nat → Int) (p pt kind : Nat) : Nat := if onB m p pt then 0 else if kind = 4 then (if ct (tnB m p pt) (NP p) = 0 then 2 else 1) else 3
theorem m_liesOf {σ : Sto} {ρ : Rho} {p pt kind : Nat} {m : Nat → Int} (hρ : Md ρ) (hp : PR p) (hm : Mm σ p m) (hpt : pt < NP p) (hk : kind ≤ 4) (hpl : kind = 4 → ∀ n, n < NP p → 0 ≤ plv m p n) : ∃ σ', MX12_liesOf σ ρ 92 (iI pt) (iI kind) = some (iI (lieV m p pt kind : Nat), σ') ∧ Fr PX σ σ' := by
  have hN := NP_le hp
  obtain ⟨s2, e2, f2⟩ := m_isOn' (n := pt) hρ hp hm hpt
  unfold MX12_liesOf lieV
  rw [e2, ob_some]
  cases c : onB m p pt with
  | true => exact ⟨s2, by simp [ne10]; rfl, f2⟩
  | false =>
    by_cases h4 : kind = 4
    · subst h4
      obtain ⟨s3, e3, f3⟩ := m_tangents (pt := pt) hρ hp (Mm_fr hm f2) hpt (hpl rfl)
      have hc := ct_le (tnB m p pt) (NP p)
      refine ⟨s3, ?_, f2.tr f3⟩
      simp only [Bool.false_eq_true, if_false, if_true]
      rw [if_pos (by rfl), e3, ob_some, show (0 : Int32) = iI ((0 : Nat) : Int) from rfl]
      by_cases h0 : ct (tnB m p pt) (NP p) = 0
      · rw [if_pos (by rw [iI_leN (by omega) (by omega)]; omega), if_pos h0]; rfl
      · rw [if_neg (by rw [iI_leN (by omega) (by omega)]; omega), if_neg h0]; rfl
    · refine ⟨s2, ?_, f2⟩
      simp only [Bool.false_eq_true, if_false, if_true]
      rw [if_neg (by rw [show (4 : Int32) = iI ((4 : Nat) : Int) from rfl, iI_eq (rgN (by omega)) (rgN (by omega))]; omega), if_neg h4]; rfl
theorem m_sided {σ : Sto} {ρ : Rho} {p side : Nat} {m : Nat → Int} (hρ : Md ρ) (hp : PR p) (hm : Mm σ p m) (hsd : side ≤ 4) (hpl : ∀ n, n < NP p → 0 ≤ plv m p n) : ∃ σ', MX12_sided σ ρ 92 (iI side) = some (iI (ct (fun k => lieV m p k 4 == side) (NP p) : Nat), σ') ∧ Fr PX σ σ' := by
  have hN := NP_le hp
  unfold MX12_sided
  rw [bn_eq, bn_eq]
  refine cnt_loop (I := fun s => Fr PX σ s) ?_ ?_ (by unfold FU; omega) Fr.rf
  · intro r s v hs hv
    unfold FX12_sided_4
    rw [m_places (Mm_fr hm hs).1, ob_some, if_pos (by rw [iI_leN (by omega) (by omega)]; omega)]
  · intro r s v k hs hk hv
    obtain ⟨s2, e2, f2⟩ := m_liesOf (pt := k) (kind := 4) hρ hp (Mm_fr hm hs) (by omega) (by omega) (fun _ => hpl)
    refine ⟨s2, hs.tr f2, ?_⟩
    have hl : lieV m p k 4 ≤ 3 := by unfold lieV; split; omega; split; split <;> omega; omega
    unfold FX12_sided_4 BX12_sided_28
    rw [m_places (Mm_fr hm hs).1, ob_some, if_neg (by rw [iI_leN (by omega) (by omega)]; omega), show (4 : Int32) = iI ((4 : Nat) : Int) from rfl, e2, ob_some]
    by_cases c : lieV m p k 4 = side
    · rw [if_pos (by simp only [c])]
      simp [c, bn_eq, iI_succ]
    · rw [if_neg (by simp only []; rw [iI_eq (rgN (by omega)) (rgN (by omega))]; omega)]
      simp [c, bn_eq, iI_succ, iI_add0]
/-- the reference's sheet at b -/
abbrev Sheet : Type := Nat × List Nat × (Nat → Int)
def MS (σ : Sto) (b : Nat) (S : Sheet) : Prop := σ 93 (b + 36) = iI S.1 ∧ σ 93 (b + 37) = iI S.2.1.length ∧ (∀ i, i < 36 → σ 93 (b + i) = iI (S.2.2 i)) ∧ ∀ k, k < S.2.1.length → σ 93 (b + 38 + k) = iI (S.2.1.getD k 0 : Nat)
def SOK (S : Sheet) : Prop := PR S.1 ∧ S.2.1.length ≤ 8 ∧ S.2.1.Nodup ∧ (∀ q ∈ S.2.1, q < NP S.1) ∧ (∀ i, i < 36 → bd (S.2.2 i) 99) ∧ ∀ c, c < 6 → ∃ i, i < 6 ∧ S.2.2 (6 * c + i) ≠ 0
/-- a conic's numbers over the field -/
def cm (S : Sheet) (c i : Nat) : Int := S.2.2 (6 * c + i) % S.1
def PM (k i : Nat) : Prop := (k = 92 ∧ i = 7) ∨ (k = 96)
theorem MS_fr {σ σ' b S} {P : Nat → Nat → Prop} (h : MS σ b S) (hf : Fr P σ σ') (hP : ∀ i, ¬ P 93 i) : MS σ' b S := by
  have e : ∀ i, σ' 93 i = σ 93 i := fun i => hf 93 i (hP i)
  unfold MS
  simp only [e]
  exact h
theorem m_laysConic {σ : Sto} {ρ : Rho} {S : Sheet} {c : Nat} (hρ : Md ρ) (hS : SOK S) (hM : MS σ 0 S) (hc : c < 6) : ∃ σ', MX12_laysConic σ ρ 92 (iI 0) (iI c) = some σ' ∧ Mm σ' S.1 (cm S c) ∧ Fr PM σ σ' := by
  obtain ⟨hp, -, -, -, hb, -⟩ := hS
  obtain ⟨hp3, hp23⟩ := hp.le
  obtain ⟨h36, -, hf, -⟩ := id hM
  unfold MX12_laysConic
  rw [hρ.1, ob_some, show (36 : Int32) = iI 36 from rfl, iI_add, ag93i (by omega) (by omega), ob_some, bn_eq, bn_eq, show (σ 93 (0 + 36 : Int).toNat) = iI S.1 from h36]
  have f0 : Fr PM σ (su σ 92 7 (iI S.1)) := Fr.su (Or.inl ⟨rfl, rfl⟩)
  refine up_loop (N := 6) (I := fun k s => Fr PM σ s ∧ s 92 7 = iI S.1 ∧ ∀ i, i < k → s 96 i = iI (cm S c i)) (Post := fun o => ∃ σ', o = some σ' ∧ Mm σ' S.1 (cm S c) ∧ Fr PM σ σ') ?_ ?_ (by unfold FU; omega) ⟨f0, su_s, fun i hi => absurd hi (Nat.not_lt_zero i)⟩
  · intro r s ⟨h1, h2, h3⟩
    refine ⟨s, ?_, ⟨h2, h3, fun i hi => ?_⟩, h1⟩
    · unfold FX12_laysConic_15
      rw [if_pos (by decide)]
    · exact emod_nn (by omega)
  · intro r s k ⟨h1, h2, h3⟩ hk
    have e : s 93 (0 + 6 * c + k) = iI (S.2.2 (6 * c + k)) := by
      rw [h1 93 _ (by unfold PM; omega), Nat.zero_add, ← hf (6 * c + k) (by omega), Nat.zero_add]
    have hbk := bd_rg (hb (6 * c + k) (by omega)) (by decide)
    refine ⟨su s 96 k (iI (cm S c k)), ⟨h1.tr (Fr.su (Or.inr rfl)), by rw [su_n (Or.inl (by decide)), h2], fun i hi => ?_⟩, ?_⟩
    · by_cases hik : i = k
      · subst hik; rw [su_s]
      · rw [su_n (Or.inr hik)]; exact h3 i (by omega)
    · unfold FX12_laysConic_15
      rw [if_neg (by rw [show (6 : Int32) = iI ((6 : Nat) : Int) from rfl, iI_leN (by omega) (by omega)]; omega), hρ.2.2.2.1, hρ.1, ob_some, ob_some, show (6 : Int32) = iI 6 from rfl, iI_mul, iI_add, iI_add, ag93i (by omega) (by omega), ob_some, show (0 + 6 * (c : Int) + k).toNat = 0 + 6 * c + k by omega, e, m_rest hp h2 hbk, ob_some, ap96i (by omega) (by omega), ob_some, bn_eq, iI_succ]
      rfl
