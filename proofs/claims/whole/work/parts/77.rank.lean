/-! the reference's rank: its loops -/
theorem run_up {γ β : Type} {bt : γ} {F : γ → γ} {call : γ → Sto → Nat → Option β} {N : Nat} {I : Nat → Sto → Prop} {Post : Option β → Prop}
    (hexit : ∀ r s, I N s → Post (call (F r) s N)) (hstep : ∀ r s (k : Nat), I k s → k < N → ∃ s', I (k + 1) s' ∧ call (F r) s k = call r s' (k + 1)) {fu : Nat} (hfu : N < fu) {k0 : Nat} (h0 : k0 ≤ N) {s : Sto} (hs : I k0 s) : Post (call (fixN bt F fu) s k0) := by
  have key : ∀ d fuel, d < fuel → ∀ (k : Nat) (s : Sto), k + d = N → I k s → Post (call (fixN bt F fuel) s k) := by
    refine fix_run (Q := fun d (r : γ) => ∀ (k : Nat) (s : Sto), k + d = N → I k s → Post (call r s k)) ?_ ?_
    · intro r k s hk hs
      have hkN : k = N := by omega
      subst hkN
      exact hexit r s hs
    · intro d r ih k s hk hs
      obtain ⟨s', h1, h2⟩ := hstep r s k hs (by omega)
      rw [h2]
      exact ih (k + 1) s' (by omega) h1
  exact key (N - k0) fu (by omega) k0 s (by omega) hs
def MW (σ : Sto) (p R W : Nat) (M : Nat → Nat → Int) : Prop := ∀ r, r < R → ∀ c, c < W → σ 97 (6 * r + c) = iI (M r c) ∧ 0 ≤ M r c ∧ M r c < p
def RX (k _i : Nat) : Prop := k = 97
theorem ix97 {r c : Nat} : (6 : Int32) * iI r + iI c = iI ((6 * r + c : Nat) : Int) := by
  rw [show (6 : Int32) = iI 6 from rfl, iI_mul, iI_add]; push_cast; rfl
theorem ag97c {σ : Sto} {r c : Nat} (hr : r < 8) (hc : c < 6) : ag σ 97 ((6 : Int32) * iI r + iI c) = some (σ 97 (6 * r + c)) := by
  rw [ix97, ag97i (by omega) (by omega)]; rfl
theorem ap97c {σ : Sto} {x : Int32} {r c : Nat} (hr : r < 8) (hc : c < 6) : ap σ 97 ((6 : Int32) * iI r + iI c) x = some (su σ 97 (6 * r + c) x) := by
  rw [ix97, ap97i (by omega) (by omega)]; rfl
theorem iI_z {x : Int} (h0 : 0 ≤ x) (h1 : x < 100000) : iI x = 0 ↔ x = 0 := by
  rw [show (0 : Int32) = iI 0 from rfl, iI_eq ⟨by omega, by omega⟩ ⟨by omega, by omega⟩]
theorem iI_eqN {a b : Nat} (ha : a ≤ 100000) (hb : b ≤ 100000) : (iI a = iI b) ↔ a = b := by
  rw [iI_eq (rgN ha) (rgN hb)]; omega
/-- the first row that is not nought -/
theorem rk_find {σ : Sto} {ρ : Rho} {p R W n c : Nat} {M : Nat → Nat → Int} (hρ : Md ρ) (hp : PR p) (hR : R ≤ 8) (hW : W ≤ 6) (hM : MW σ p R W M) (hn : n ≤ R) (hc : c < W) (bt) (k42 : Sto → Int32 → Int32 → Int32 → Option (Int32 × Sto)) :
    ∃ at', n ≤ at' ∧ at' ≤ R ∧ (∀ r, n ≤ r → r < at' → M r c = 0) ∧ (at' < R → M at' c ≠ 0) ∧ fixN bt (FX12_rank_14 ρ 92 (iI R) (iI W) k42) FU σ (iI n) (iI c) (iI n) = k42 σ (iI n) (iI c) (iI at') := by
  have hp23 := hp.le.2
  have key : ∀ d fuel, d < fuel → ∀ k : Nat, n ≤ k → k + d = R → (∀ r, n ≤ r → r < k → M r c = 0) → ∃ at', n ≤ at' ∧ at' ≤ R ∧ (∀ r, n ≤ r → r < at' → M r c = 0) ∧ (at' < R → M at' c ≠ 0) ∧ fixN bt (FX12_rank_14 ρ 92 (iI R) (iI W) k42) fuel σ (iI n) (iI c) (iI k) = k42 σ (iI n) (iI c) (iI at') := by
    refine fix_run (Q := fun d (g : Sto → Int32 → Int32 → Int32 → Option (Int32 × Sto)) => ∀ k : Nat, n ≤ k → k + d = R → (∀ r, n ≤ r → r < k → M r c = 0) → ∃ at', n ≤ at' ∧ at' ≤ R ∧ (∀ r, n ≤ r → r < at' → M r c = 0) ∧ (at' < R → M at' c ≠ 0) ∧ g σ (iI n) (iI c) (iI k) = k42 σ (iI n) (iI c) (iI at')) ?_ ?_
    · intro g k hk hkR hz
      refine ⟨R, by omega, Nat.le_refl _, fun r h1 h2 => hz r h1 (by omega), fun h => by omega, ?_⟩
      unfold FX12_rank_14
      rw [if_pos (by rw [iI_leN (by omega) (by omega)]; omega), show k = R by omega]
    · intro d g ih k hk hkR hz
      obtain ⟨m1, m2, m3⟩ := hM k (by omega) c hc
      unfold FX12_rank_14
      rw [if_neg (by rw [iI_leN (by omega) (by omega)]; omega), hρ.2.2.2.2.1, ob_some, ag97c (by omega) (by omega), ob_some, m1]
      by_cases q : M k c = 0
      · rw [if_pos ((iI_z m2 (by omega)).mpr q), bn_eq, iI_succ]
        exact ih (k + 1) (by omega) (by omega) (fun r h1 h2 => by
          by_cases h3 : r = k
          · rw [h3]; exact q
          · exact hz r h1 (by omega))
      · rw [if_neg (fun h => q ((iI_z m2 (by omega)).mp h))]
        exact ⟨k, hk, by omega, hz, fun _ => q, rfl⟩
  exact key (R - n) FU (by unfold FU; omega) n (Nat.le_refl _) (by omega) (fun r h1 h2 => by omega)
/-- one place of the matrix laid anew -/
theorem MW_su {σ : Sto} {p R W r0 c0 : Nat} {M : Nat → Nat → Int} {x : Int} (hW : W ≤ 6) (hM : MW σ p R W M) (hc0 : c0 < 6) (h0 : 0 ≤ x) (h1 : x < p) : MW (su σ 97 (6 * r0 + c0) (iI x)) p R W (fun r c => if r = r0 ∧ c = c0 then x else M r c) := by
  intro r hr c hc
  dsimp only
  by_cases q : r = r0 ∧ c = c0
  · obtain ⟨rfl, rfl⟩ := q
    rw [su_s, if_pos ⟨rfl, rfl⟩]
    exact ⟨rfl, h0, h1⟩
  · rw [if_neg q, su_n (Or.inr (by omega))]
    exact hM r hr c hc
theorem MW_eq {σ : Sto} {p R W : Nat} {M M' : Nat → Nat → Int} (hM : MW σ p R W M) (h : ∀ r, r < R → ∀ c, c < W → M' r c = M r c) : MW σ p R W M' := by
  intro r hr c hc; rw [h r hr c hc]; exact hM r hr c hc
/-- two rows change places -/
theorem rk_swap {σ : Sto} {ρ : Rho} {p R W n c at' : Nat} {M : Nat → Nat → Int} (hρ : Md ρ) (hp : PR p) (hR : R ≤ 8) (hW : W ≤ 6) (hM : MW σ p R W M) (hn : n < R) (ha : at' < R) (hc : c < W) (bt) (k120 : Sto → Int32 → Int32 → Option (Int32 × Sto)) :
    ∃ σ', MW σ' p R W (fun r i => if r = at' then M n i else if r = n then M at' i else M r i) ∧ Fr RX σ σ' ∧ fixN bt (FX12_rank_54 ρ 92 (iI R) (iI W) k120) FU σ (iI n) (iI c) (iI at') (iI 0) = k120 σ' (iI n) (iI c) := by
  refine run_up (call := fun (g : Sto → Int32 → Int32 → Int32 → Int32 → Option (Int32 × Sto)) s (k : Nat) => g s (iI n) (iI c) (iI at') (iI k)) (N := W) (I := fun k s => MW s p R W (fun r i => if i < k then (if r = at' then M n i else if r = n then M at' i else M r i) else M r i) ∧ Fr RX σ s) (Post := fun o => ∃ σ', MW σ' p R W (fun r i => if r = at' then M n i else if r = n then M at' i else M r i) ∧ Fr RX σ σ' ∧ o = k120 σ' (iI n) (iI c)) ?_ ?_ (by unfold FU; omega) (k0 := 0) (by omega) ?_
  · intro g s hs
    refine ⟨s, MW_eq hs.1 (fun r hr i hi => by rw [if_pos hi]), hs.2, ?_⟩
    unfold FX12_rank_54
    rw [if_pos (by rw [iI_leN (by omega) (by omega)]; omega)]
  · intro g s k hs hk
    obtain ⟨hs1, hs2⟩ := hs
    obtain ⟨x1, x2, x3⟩ := hs1 at' ha k hk
    obtain ⟨y1, y2, y3⟩ := hs1 n hn k hk
    dsimp only at x1 x2 x3 y1 y2 y3
    rw [if_neg (by omega)] at x1 x2 x3 y1 y2 y3
    refine ⟨su (su s 97 (6 * at' + k) (iI (M n k))) 97 (6 * n + k) (iI (M at' k)), ⟨?_, hs2.tr ((Fr.su (S := RX) (show RX 97 _ from rfl)).tr (Fr.su (S := RX) (show RX 97 _ from rfl)))⟩, ?_⟩
    · refine MW_eq (MW_su hW (MW_su hW hs1 (by omega) y2 y3) (by omega) x2 x3) (fun r hr i hi => ?_)
      by_cases q : i = k
      · subst q
        rw [if_pos (by omega)]
        by_cases q1 : r = n
        · subst q1
          by_cases q2 : r = at'
          · subst q2; simp
          · simp [q2]
        · by_cases q2 : r = at'
          · subst q2; simp [q1]
          · simp [q1, q2]
      · by_cases q2 : i < k
        · have q3 : i < k + 1 := by omega
          simp [q, q2, q3]
        · have q3 : ¬ i < k + 1 := by omega
          simp [q, q2, q3]
    · show FX12_rank_54 ρ 92 (iI R) (iI W) k120 g s (iI n) (iI c) (iI at') (iI k) = _
      unfold FX12_rank_54
      rw [if_neg (by rw [iI_leN (by omega) (by omega)]; omega), hρ.2.2.2.2.1, ob_some, ag97c (by omega) (by omega), ob_some, bn_eq, ob_some, ob_some, ag97c (by omega) (by omega), ob_some, ap97c (by omega) (by omega), ob_some, ob_some, ap97c (by omega) (by omega), ob_some, bn_eq, iI_succ, x1, y1]
  · exact ⟨MW_eq hM (fun r _ i _ => if_neg (by omega)), Fr.rf⟩
/-- a row times a number -/
theorem rk_scale {σ : Sto} {ρ : Rho} {p R W n c : Nat} {by' : Int} {M : Nat → Nat → Int} (hρ : Md ρ) (hp : PR p) (h7 : σ 92 7 = iI p) (hR : R ≤ 8) (hW : W ≤ 6) (hM : MW σ p R W M) (hn : n < R) (hc : c < W) (b0 : 0 ≤ by') (b1 : by' < p) (bt) (k185 : Sto → Int32 → Int32 → Option (Int32 × Sto)) :
    ∃ σ', MW σ' p R W (fun r i => if r = n then M n i * by' % p else M r i) ∧ Fr RX σ σ' ∧ fixN bt (FX12_rank_141 ρ 92 (iI R) (iI W) k185) FU σ (iI n) (iI c) (iI by') (iI 0) = k185 σ' (iI n) (iI c) := by
  obtain ⟨hp3, hp23⟩ := hp.le
  have hrp : rg32 (p : Int) := ⟨by omega, by omega⟩
  refine run_up (call := fun (g : Sto → Int32 → Int32 → Int32 → Int32 → Option (Int32 × Sto)) s (k : Nat) => g s (iI n) (iI c) (iI by') (iI k)) (N := W) (I := fun k s => MW s p R W (fun r i => if i < k then (if r = n then M n i * by' % p else M r i) else M r i) ∧ Fr RX σ s) (Post := fun o => ∃ σ', MW σ' p R W (fun r i => if r = n then M n i * by' % p else M r i) ∧ Fr RX σ σ' ∧ o = k185 σ' (iI n) (iI c)) ?_ ?_ (by unfold FU; omega) (k0 := 0) (by omega) ?_
  · intro g s hs
    refine ⟨s, MW_eq hs.1 (fun r hr i hi => by rw [if_pos hi]), hs.2, ?_⟩
    unfold FX12_rank_141
    rw [if_pos (by rw [iI_leN (by omega) (by omega)]; omega)]
  · intro g s k hs hk
    obtain ⟨hs1, hs2⟩ := hs
    obtain ⟨y1, y2, y3⟩ := hs1 n hn k hk
    dsimp only at y1 y2 y3
    rw [if_neg (by omega)] at y1 y2 y3
    have hm1 : 0 ≤ M n k * by' := Int.mul_nonneg y2 b0
    have hm2 : M n k * by' ≤ 23 * 23 := Int.mul_le_mul (by omega) (by omega) b0 (by decide)
    have h7s : s 92 7 = iI p := by rw [hs2 92 7 (by unfold RX; decide)]; exact h7
    have e0 : (M n k * by').tmod p = M n k * by' % p := Int.tmod_eq_emod_of_nonneg hm1
    obtain ⟨z1, z2⟩ := emod_nn (x := M n k * by') (p := p) (by omega)
    refine ⟨su s 97 (6 * n + k) (iI (M n k * by' % p)), ⟨?_, hs2.tr (Fr.su (S := RX) (show RX 97 _ from rfl))⟩, ?_⟩
    · refine MW_eq (MW_su hW hs1 (by omega) z1 z2) (fun r hr i hi => ?_)
      by_cases q : i = k
      · subst q
        rw [if_pos (by omega)]
        by_cases q1 : r = n
        · subst q1; simp
        · simp [q1]
      · by_cases q2 : i < k
        · have q3 : i < k + 1 := by omega
          simp [q, q2, q3]
        · have q3 : ¬ i < k + 1 := by omega
          simp [q, q2, q3]
    · show FX12_rank_141 ρ 92 (iI R) (iI W) k185 g s (iI n) (iI c) (iI by') (iI k) = _
      unfold FX12_rank_141
      rw [if_neg (by rw [iI_leN (by omega) (by omega)]; omega), hρ.2.2.2.2.1, ob_some, ob_some, ag97c (by omega) (by omega), ob_some, y1, h7s, iI_mul, rmi_iI ⟨by omega, by omega⟩ hrp (by omega), ob_some, ap97c (by omega) (by omega), ob_some, bn_eq, iI_succ, e0]
  · exact ⟨MW_eq hM (fun r _ i _ => if_neg (by omega)), Fr.rf⟩
/-- a row less another's multiple -/
theorem rk_sub {σ : Sto} {ρ : Rho} {p R W n c r0 : Nat} {ti : Int} {M : Nat → Nat → Int} (hρ : Md ρ) (hp : PR p) (h7 : σ 92 7 = iI p) (hR : R ≤ 8) (hW : W ≤ 6) (hM : MW σ p R W M) (hn : n < R) (hr0 : r0 < R) (hne : r0 ≠ n) (hc : c < W) (t0 : 0 ≤ ti) (t1 : ti < p) (bt) (k284 : Sto → Int32 → Int32 → Int32 → Option (Int32 × Sto)) :
    ∃ σ', MW σ' p R W (fun r i => if r = r0 then (M r0 i - ti * M n i) % p else M r i) ∧ Fr RX σ σ' ∧ fixN bt (FX12_rank_226 ρ 92 (iI R) (iI W) k284) FU σ (iI n) (iI c) (iI r0) (iI ti) (iI 0) = k284 σ' (iI n) (iI c) (iI r0) := by
  obtain ⟨hp3, hp23⟩ := hp.le
  refine run_up (call := fun (g : Sto → Int32 → Int32 → Int32 → Int32 → Int32 → Option (Int32 × Sto)) s (k : Nat) => g s (iI n) (iI c) (iI r0) (iI ti) (iI k)) (N := W) (I := fun k s => MW s p R W (fun r i => if i < k then (if r = r0 then (M r0 i - ti * M n i) % p else M r i) else M r i) ∧ Fr RX σ s) (Post := fun o => ∃ σ', MW σ' p R W (fun r i => if r = r0 then (M r0 i - ti * M n i) % p else M r i) ∧ Fr RX σ σ' ∧ o = k284 σ' (iI n) (iI c) (iI r0)) ?_ ?_ (by unfold FU; omega) (k0 := 0) (by omega) ?_
  · intro g s hs
    refine ⟨s, MW_eq hs.1 (fun r hr i hi => by rw [if_pos hi]), hs.2, ?_⟩
    unfold FX12_rank_226
    rw [if_pos (by rw [iI_leN (by omega) (by omega)]; omega)]
  · intro g s k hs hk
    obtain ⟨hs1, hs2⟩ := hs
    obtain ⟨x1, x2, x3⟩ := hs1 r0 hr0 k hk
    obtain ⟨y1, y2, y3⟩ := hs1 n hn k hk
    dsimp only at x1 x2 x3 y1 y2 y3
    rw [if_neg (by omega)] at x1 x2 x3 y1 y2 y3
    have hm1 : 0 ≤ ti * M n k := Int.mul_nonneg t0 y2
    have hm2 : ti * M n k ≤ 23 * 23 := Int.mul_le_mul (by omega) (by omega) y2 (by decide)
    have h7s : s 92 7 = iI p := by rw [hs2 92 7 (by unfold RX; decide)]; exact h7
    obtain ⟨z1, z2⟩ := emod_nn (x := M r0 k - ti * M n k) (p := p) (by omega)
    refine ⟨su s 97 (6 * r0 + k) (iI ((M r0 k - ti * M n k) % p)), ⟨?_, hs2.tr (Fr.su (S := RX) (show RX 97 _ from rfl))⟩, ?_⟩
    · refine MW_eq (MW_su hW hs1 (by omega) z1 z2) (fun r hr i hi => ?_)
      by_cases q : i = k
      · subst q
        rw [if_pos (by omega)]
        by_cases q1 : r = r0
        · subst q1; simp
        · simp [q1]
      · by_cases q2 : i < k
        · have q3 : i < k + 1 := by omega
          simp [q, q2, q3]
        · have q3 : ¬ i < k + 1 := by omega
          simp [q, q2, q3]
    · show FX12_rank_226 ρ 92 (iI R) (iI W) k284 g s (iI n) (iI c) (iI r0) (iI ti) (iI k) = _
      unfold FX12_rank_226
      rw [if_neg (by rw [iI_leN (by omega) (by omega)]; omega), hρ.2.2.2.2.1, ob_some, ob_some, ag97c (by omega) (by omega), ob_some, ob_some, ag97c (by omega) (by omega), ob_some, x1, y1, iI_mul, iI_sub, m_rest hp h7s ⟨by omega, by omega⟩, ob_some, ap97c (by omega) (by omega), ob_some, bn_eq, iI_succ]
  · exact ⟨MW_eq hM (fun r _ i _ => if_neg (by omega)), Fr.rf⟩
/-- every other row less its multiple -/
theorem rk_elim {σ : Sto} {ρ : Rho} {p R W n c : Nat} {M : Nat → Nat → Int} (hρ : Md ρ) (hp : PR p) (h7 : σ 92 7 = iI p) (hR : R ≤ 8) (hW : W ≤ 6) (hM : MW σ p R W M) (hn : n < R) (hc : c < W) (bt) (k290 : Sto → Int32 → Int32 → Option (Int32 × Sto)) :
    ∃ σ', MW σ' p R W (fun r i => if r = n then M n i else (M r i - M r c * M n i) % p) ∧ Fr RX σ σ' ∧ fixN bt (FX12_rank_188 ρ 92 (iI R) (iI W) k290) FU σ (iI n) (iI c) (iI 0) = k290 σ' (iI n) (iI c) := by
  obtain ⟨hp3, hp23⟩ := hp.le
  refine run_up (call := fun (g : Sto → Int32 → Int32 → Int32 → Option (Int32 × Sto)) s (k : Nat) => g s (iI n) (iI c) (iI k)) (N := R) (I := fun k s => MW s p R W (fun r i => if r < k then (if r = n then M n i else (M r i - M r c * M n i) % p) else M r i) ∧ Fr RX σ s) (Post := fun o => ∃ σ', MW σ' p R W (fun r i => if r = n then M n i else (M r i - M r c * M n i) % p) ∧ Fr RX σ σ' ∧ o = k290 σ' (iI n) (iI c)) ?_ ?_ (by unfold FU; omega) (k0 := 0) (by omega) ?_
  · intro g s hs
    refine ⟨s, MW_eq hs.1 (fun r hr i hi => by rw [if_pos hr]), hs.2, ?_⟩
    unfold FX12_rank_188
    rw [if_pos (by rw [iI_leN (by omega) (by omega)]; omega)]
  · intro g s k hs hk
    obtain ⟨hs1, hs2⟩ := hs
    have h7s : s 92 7 = iI p := by rw [hs2 92 7 (by unfold RX; decide)]; exact h7
    obtain ⟨x1, x2, x3⟩ := hs1 k hk c hc
    dsimp only at x1 x2 x3
    rw [if_neg (by omega)] at x1 x2 x3
    have st : FX12_rank_188 ρ 92 (iI R) (iI W) k290 g s (iI n) (iI c) (iI k) = (if iI k = iI n then g s (iI n) (iI c) (iI ((k + 1 : Nat) : Int)) else if iI (M k c) = 0 then g s (iI n) (iI c) (iI ((k + 1 : Nat) : Int)) else fixN (fun _ _ _ _ _ _ => none) (FX12_rank_226 ρ 92 (iI R) (iI W) (BX12_rank_284 ρ 92 (iI R) (iI W) g k290)) FU s (iI n) (iI c) (iI k) (iI (M k c)) (iI 0)) := by
      unfold FX12_rank_188
      rw [if_neg (by rw [iI_leN (by omega) (by omega)]; omega), hρ.2.2.2.2.1, ob_some, ag97c (by omega) (by omega), ob_some, bn_eq, x1]
      unfold BX12_rank_284
      rw [bn_eq, bn_eq, iI_succ]
      rfl
    show ∃ s', _ ∧ FX12_rank_188 ρ 92 (iI R) (iI W) k290 g s (iI n) (iI c) (iI k) = _
    rw [st]
    by_cases q : k = n
    · subst q
      rw [if_pos rfl]
      refine ⟨s, ⟨MW_eq hs1 (fun r hr i hi => ?_), hs2⟩, rfl⟩
      by_cases q1 : r = k
      · subst q1; simp
      · by_cases q2 : r < k
        · have q3 : r < k + 1 := by omega
          simp [q1, q2, q3]
        · have q3 : ¬ r < k + 1 := by omega
          simp [q2, q3]
    · rw [if_neg (by rw [iI_eqN (by omega) (by omega)]; exact q)]
      by_cases qz : M k c = 0
      · rw [if_pos ((iI_z x2 (by omega)).mpr qz)]
        refine ⟨s, ⟨MW_eq hs1 (fun r hr i hi => ?_), hs2⟩, rfl⟩
        by_cases q1 : r = k
        · subst q1
          obtain ⟨w1, w2, w3⟩ := hs1 r hk i hi
          dsimp only at w1 w2 w3
          rw [if_neg (by omega)] at w2 w3
          simp [q, qz, Int.emod_eq_of_lt w2 w3]
        · by_cases q2 : r < k
          · have q3 : r < k + 1 := by omega
            simp [q2, q3]
          · have q3 : ¬ r < k + 1 := by omega
            simp [q2, q3]
      · rw [if_neg (fun h => qz ((iI_z x2 (by omega)).mp h))]
        obtain ⟨s', m1, m2, m3⟩ := rk_sub (c := c) (n := n) (r0 := k) (ti := M k c) hρ hp h7s hR hW hs1 hn hk q hc x2 x3 (fun _ _ _ _ _ _ => none) (BX12_rank_284 ρ 92 (iI R) (iI W) g k290)
        refine ⟨s', ⟨MW_eq m1 (fun r hr i hi => ?_), hs2.tr m2⟩, ?_⟩
        · have e2 : ∀ j, (if k < k then (if k = n then M n j else (M k j - M k c * M n j) % p) else M k j) = M k j := fun j => if_neg (by omega)
          have e3 : (if n < k then (if n = n then M n i else (M n i - M n c * M n i) % p) else M n i) = M n i := by by_cases h : n < k <;> simp [h]
          rw [e2, e3]
          by_cases q1 : r = k
          · subst q1; simp [q]
          · by_cases q2 : r < k
            · have q3 : r < k + 1 := by omega
              simp [q1, q2, q3]
            · have q3 : ¬ r < k + 1 := by omega
              simp [q1, q2, q3]
        · rw [m3]
          unfold BX12_rank_284
          rw [bn_eq, iI_succ]
  · exact ⟨MW_eq hM (fun r _ i _ => if_neg (by omega)), Fr.rf⟩
