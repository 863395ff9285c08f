/-- the first k under n with P -/
def fs (P : Nat → Bool) : Nat → Option Nat
  | 0 => none
  | n + 1 => match fs P n with
    | some k => some k
    | none => if P n then some n else none
theorem fs_none {P : Nat → Bool} : ∀ {n}, fs P n = none ↔ ∀ k, k < n → P k = false
  | 0 => by simp [fs]
  | n + 1 => by
    unfold fs
    cases h : fs P n with
    | some j =>
      simp only [reduceCtorEq, false_iff]
      intro h2
      have := (fs_none (P := P) (n := n)).mpr (fun k hk => h2 k (by omega))
      rw [h] at this; cases this
    | none =>
      have h2 := (fs_none (P := P) (n := n)).mp h
      cases hp : P n with
      | true =>
        simp only [if_true, reduceCtorEq, false_iff]
        intro h3
        have := h3 n (by omega)
        rw [hp] at this; cases this
      | false =>
        simp only [Bool.false_eq_true, if_false, true_iff]
        intro k hk
        by_cases hkn : k = n
        · subst hkn; exact hp
        · exact h2 k (by omega)
theorem fs_some {P : Nat → Bool} : ∀ {n k}, fs P n = some k → k < n ∧ P k = true ∧ ∀ j, j < k → P j = false
  | 0, k, h => by simp [fs] at h
  | n + 1, k, h => by
    unfold fs at h
    cases h1 : fs P n with
    | some j =>
      rw [h1] at h
      simp only [Option.some.injEq] at h
      subst h
      obtain ⟨a, b, c⟩ := fs_some h1
      exact ⟨by omega, b, c⟩
    | none =>
      rw [h1] at h
      cases hp : P n with
      | true =>
        rw [hp] at h
        simp only [if_true, Option.some.injEq] at h
        subst h
        exact ⟨by omega, hp, fs_none.mp h1⟩
      | false => rw [hp] at h; simp at h
theorem fs_of {P : Nat → Bool} {n k : Nat} (hk : k < n) (hp : P k = true) (hn : ∀ j, j < k → P j = false) : fs P n = some k := by
  cases h : fs P n with
  | none => have := fs_none.mp h k hk; rw [hp] at this; cases this
  | some j =>
    obtain ⟨a, b, c⟩ := fs_some h
    by_cases h1 : j < k
    · have := hn j h1; rw [b] at this; cases this
    · by_cases h2 : k < j
      · have := c k h2; rw [hp] at this; cases this
      · congr 1; omega
theorem fs_congr {P Q : Nat → Bool} {n : Nat} (h : ∀ k, k < n → P k = Q k) : fs P n = fs Q n := by
  cases h1 : fs Q n with
  | none => rw [fs_none]; intro k hk; rw [h k hk]; exact fs_none.mp h1 k hk
  | some k =>
    obtain ⟨a, b, c⟩ := fs_some h1
    exact fs_of a (by rw [h k a]; exact b) (fun j hj => by rw [h j (by omega)]; exact c j hj)
/-- a loop that looks for the first k -/
theorem scan {β : Type} {bt : Sto → Int32 → Option β} {F : (Sto → Int32 → Option β) → Sto → Int32 → Option β} {N : Nat} {P : Nat → Bool} {I : Sto → Prop} {Post : Option Nat → Option β → Prop}
    (hexit : ∀ r s, I s → Post none (F r s (iI N))) (hstop : ∀ r s (k : Nat), I s → k < N → P k = true → Post (some k) (F r s (iI k)))
    (hstep : ∀ r s (k : Nat), I s → k < N → P k = false → ∃ s', I s' ∧ F r s (iI k) = r s' (iI ((k + 1 : Nat) : Int))) {fu : Nat} (hfu : N < fu) {s : Sto} (hs : I s) : Post (fs P N) (fixN bt F fu s (iI 0)) := by
  have key : ∀ d fuel, d < fuel → ∀ (k : Nat) (s : Sto), k + d = N → (∀ j, j < k → P j = false) → I s → Post (fs P N) (fixN bt F fuel s (iI k)) := by
    refine fix_run (Q := fun d (r : Sto → Int32 → Option β) => ∀ (k : Nat) (s : Sto), k + d = N → (∀ j, j < k → P j = false) → I s → Post (fs P N) (r s (iI k))) ?_ ?_
    · intro r k s hk hj hs
      have hkN : k = N := by omega
      subst hkN
      rw [fs_none.mpr hj]
      exact hexit r s hs
    · intro d r hr k s hk hj hs
      cases hp : P k with
      | true => rw [fs_of (by omega) hp hj]; exact hstop r s k hs (by omega) hp
      | false =>
        obtain ⟨s2, i2, e2⟩ := hstep r s k hs (by omega) hp
        rw [e2]
        refine hr (k + 1) s2 (by omega) (fun j hj2 => ?_) i2
        by_cases hjk : j = k
        · subst hjk; exact hp
        · exact hj j (by omega)
  exact key N fu hfu 0 s (by omega) (fun j hj => absurd hj (Nat.not_lt_zero j)) hs
/-- all points of a line are on the conic -/
def offB (m : Nat → Int) (p l k : Nat) : Bool := liB p k l && !onB m p k
def allB (m : Nat → Int) (p l : Nat) : Bool := (fs (offB m p l) (NP p)).isNone
theorem m_isOfAll {σ : Sto} {ρ : Rho} {p l : Nat} {m : Nat → Int} (hρ : Md ρ) (hp : PR p) (hm : Mm σ p m) (hl : l < NP p) : ∃ σ', MX12_isOfAll σ ρ 92 (iI l) = some (if allB m p l then 1 else 0, σ') ∧ Fr PX σ σ' := by
  have hN := NP_le hp
  unfold MX12_isOfAll
  rw [bn_eq]
  have h := scan (bt := fun _ _ => none) (F := FX12_isOfAll_2 ρ 92 (iI l)) (N := NP p) (P := offB m p l) (I := fun s => Fr PX σ s) (Post := fun o x => ∃ σ', x = some (if o.isNone then 1 else 0, σ') ∧ Fr PX σ σ') (fu := FU) (s := σ) ?_ ?_ ?_ (by unfold FU; omega) Fr.rf
  · obtain ⟨s2, e2, f2⟩ := h
    exact ⟨s2, e2, f2⟩
  · intro r s hs
    refine ⟨s, ?_, hs⟩
    unfold FX12_isOfAll_2
    rw [m_places (Mm_fr hm hs).1, ob_some, if_pos (by rw [iI_leN (by omega) (by omega)]; omega)]
    rfl
  · intro r s k hs hk hP
    obtain ⟨s2, e2, f2⟩ := m_isOnLine' (n := k) (k := l) hp (Mm_fr hm hs).1 hk hl
    obtain ⟨s3, e3, f3⟩ := m_isOn' (n := k) hρ hp (Mm_fr hm (hs.tr f2)) hk
    unfold offB at hP
    have h1 : liB p k l = true := by cases h : liB p k l <;> simp [h] at hP ⊢
    have h2 : onB m p k = false := by cases h : onB m p k <;> simp [h] at hP ⊢
    refine ⟨s3, ?_, (hs.tr f2).tr f3⟩
    unfold FX12_isOfAll_2
    rw [m_places (Mm_fr hm hs).1, ob_some, if_neg (by rw [iI_leN (by omega) (by omega)]; omega), e2, ob_some]
    simp [h1, e3, ob_some, h2, zr0, ne10]
  · intro r s k hs hk hP
    obtain ⟨s2, e2, f2⟩ := m_isOnLine' (n := k) (k := l) hp (Mm_fr hm hs).1 hk hl
    obtain ⟨s3, e3, f3⟩ := m_isOn' (n := k) hρ hp (Mm_fr hm (hs.tr f2)) hk
    unfold offB at hP
    cases h1 : liB p k l with
    | false =>
      refine ⟨s2, hs.tr f2, ?_⟩
      unfold FX12_isOfAll_2 BX12_isOfAll_29
      rw [m_places (Mm_fr hm hs).1, ob_some, if_neg (by rw [iI_leN (by omega) (by omega)]; omega), e2, ob_some]
      simp [h1, bn_eq, iI_succ]
    | true =>
      have h2 : onB m p k = true := by cases h : onB m p k <;> simp [h, h1] at hP ⊢
      refine ⟨s3, (hs.tr f2).tr f3, ?_⟩
      unfold FX12_isOfAll_2 BX12_isOfAll_29
      rw [m_places (Mm_fr hm hs).1, ob_some, if_neg (by rw [iI_leN (by omega) (by omega)]; omega), e2, ob_some]
      simp [h1, e3, ob_some, h2, bn_eq, iI_succ, ne10]
theorem m_linesOn {σ : Sto} {ρ : Rho} {p : Nat} {m : Nat → Int} (hρ : Md ρ) (hp : PR p) (hm : Mm σ p m) : ∃ σ', MX12_linesOn σ ρ 92 = some (iI (ct (allB m p) (NP p) : Nat), σ') ∧ Fr PX σ σ' := by
  have hN := NP_le hp
  unfold MX12_linesOn
  rw [bn_eq, bn_eq]
  refine cnt_loop (I := fun s => Fr PX σ s) ?_ ?_ (by unfold FU; omega) Fr.rf
  · intro r s v hs hv
    unfold FX12_linesOn_4
    rw [m_places (Mm_fr hm hs).1, ob_some, if_pos (by rw [iI_leN (by omega) (by omega)]; omega)]
  · intro r s v k hs hk hv
    obtain ⟨s2, e2, f2⟩ := m_isOfAll (l := k) hρ hp (Mm_fr hm hs) (by omega)
    refine ⟨s2, hs.tr f2, ?_⟩
    unfold FX12_linesOn_4 BX12_linesOn_26
    rw [m_places (Mm_fr hm hs).1, ob_some, if_neg (by rw [iI_leN (by omega) (by omega)]; omega), e2, ob_some]
    cases c : allB m p k <;> simp [bn_eq, iI_succ, iI_add0, ne10]
/-- polars -/
def plv (m : Nat → Int) (p n : Nat) : Int := nb p (2 * m 0 * cX p n + m 5 * cY p n + m 4 * cZ p n) (m 5 * cX p n + 2 * m 1 * cY p n + m 3 * cZ p n) (m 4 * cX p n + m 3 * cY p n + 2 * m 2 * cZ p n)
theorem m_polarOf {σ : Sto} {ρ : Rho} {p n : Nat} {m : Nat → Int} (hρ : Md ρ) (hp : PR p) (hm : Mm σ p m) (hn : n < NP p) : ∃ σ', MX12_polarOf σ ρ 92 (iI n) = some (iI (plv m p n), σ') ∧ Fr PX σ σ' := by
  obtain ⟨hp3, hp23⟩ := hp.le
  have b1 := cX_bd (p := p) (n := n)
  have b2 := cY_bd (p := p) (n := n) (by omega)
  have b3 := cZ_bd (p := p) (n := n) (by omega)
  have hv := (Mm_lp (x := cX p n) (y := cY p n) (z := cZ p n) hm).2.1
  obtain ⟨h7, -, hb⟩ := hm
  refine ⟨lp σ (cX p n) (cY p n) (cZ p n), ?_, Fr_lp⟩
  unfold MX12_polarOf
  rw [m_laysPlace hp h7 hn, ob_some]
  rw [hρ.2.2.2.1]
  simp only [↓ob_some, ↓bn_eq, ↓oag96_0, ↓oag96_1, ↓oag96_2, ↓oag96_3, ↓oag96_4, ↓oag96_5]
  simp only [lp_7, lp_8, lp_9, lp_10, h7, hv 0 (by decide), hv 1 (by decide), hv 2 (by decide), hv 3 (by decide), hv 4 (by decide), hv 5 (by decide), show (2 : Int32) = iI 2 from rfl, iI_mul, iI_add]
  have m0 := hb 0 (by decide); have m1 := hb 1 (by decide); have m2 := hb 2 (by decide); have m3 := hb 3 (by decide); have m4 := hb 4 (by decide); have m5 := hb 5 (by decide)
  have B : ∀ t : Int, 0 ≤ t → t ≤ 23 → bd t 23 := fun t h1 h2 => ⟨by omega, h2⟩
  have x1 := B _ b1.1 (by omega); have y1 := B _ b2.1 (by omega); have z1 := B _ b3.1 (by omega)
  have m0 := B _ m0.1 (by omega); have m1 := B _ m1.1 (by omega); have m2 := B _ m2.1 (by omega); have m3 := B _ m3.1 (by omega); have m4 := B _ m4.1 (by omega); have m5 := B _ m5.1 (by omega)
  have t2 : bd 2 2 := bd_lit 2
  rw [m_numberOf hp (by rw [lp_7, h7]) (bd_rg (bd_add (bd_add (bd_mul (bd_mul t2 m0) x1) (bd_mul m5 y1)) (bd_mul m4 z1)) (by decide)) (bd_rg (bd_add (bd_add (bd_mul m5 x1) (bd_mul (bd_mul t2 m1) y1)) (bd_mul m3 z1)) (by decide)) (bd_rg (bd_add (bd_add (bd_mul m4 x1) (bd_mul m3 y1)) (bd_mul (bd_mul t2 m2) z1)) (by decide)), ob_some]
  rfl
