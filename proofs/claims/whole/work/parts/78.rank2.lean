/-! the reference's rank: what it comes to -/
def OK {α : Type} (o : Option α) (Q : α → Prop) : Prop := ∃ a, o = some a ∧ Q a
theorem OK.so {α : Type} {a : α} {Q : α → Prop} (h : Q a) : OK (some a) Q := ⟨a, rfl, h⟩
theorem OK.bi {α β : Type} {o : Option α} {f : α → Option β} {P : α → Prop} {Q : β → Prop} (h : OK o P) (k : ∀ a, P a → OK (f a) Q) : OK (Option.bind o f) Q := by
  obtain ⟨a, e, ha⟩ := h
  rw [e, ob_some]; exact k a ha
theorem OK.mo {α : Type} {o : Option α} {P Q : α → Prop} (h : OK o P) (k : ∀ a, P a → Q a) : OK o Q := by
  obtain ⟨a, e, ha⟩ := h
  exact ⟨a, e, k a ha⟩
/-- a loop by its counter, with any state and early ends -/
theorem run_g {γ β S : Type} {bt : γ} {F : γ → γ} {call : γ → S → Nat → Option β} {N : Nat} {I : Nat → S → Prop} {Post : Option β → Prop}
    (hexit : ∀ r s, I N s → Post (call (F r) s N)) (hstep : ∀ r s (k : Nat), I k s → k < N → (∀ s', I (k + 1) s' → Post (call r s' (k + 1))) → Post (call (F r) s k)) {fu : Nat} (hfu : N < fu) {k0 : Nat} (h0 : k0 ≤ N) {s : S} (hs : I k0 s) : Post (call (fixN bt F fu) s k0) := by
  have key : ∀ d fuel, d < fuel → ∀ (k : Nat) (s : S), k + d = N → I k s → Post (call (fixN bt F fuel) s k) := by
    refine fix_run (Q := fun d (r : γ) => ∀ (k : Nat) (s : S), k + d = N → I k s → Post (call r s k)) ?_ ?_
    · intro r k s hk hs
      have hkN : k = N := by omega
      subst hkN
      exact hexit r s hs
    · intro d r ih k s hk hs
      exact hstep r s k hs (by omega) (fun s' h => ih (k + 1) s' (by omega) h)
  exact key (N - k0) fu (by omega) k0 s (by omega) hs
theorem sm_eqm {p : Int} {F G : Nat → Int} {n : Nat} (h : ∀ k, k < n → (F k - G k) % p = 0) : (sm F n - sm G n) % p = 0 := by
  rw [← sm_sub]; exact sm_z h
theorem em_sub {p x : Int} : (x % p - x) % p = 0 := eqm.mp (Int.emod_emod_of_dvd x (Int.dvd_refl p))
def rv (W : Nat) (M : Nat → Nat → Int) (x : Nat → Int) (r : Nat) : Int := sm (fun i => M r i * x i) W
def nul (p R W : Nat) (M : Nat → Nat → Int) (x : Nat → Int) : Prop := ∀ r, r < R → rv W M x r % p = 0
/-- a step at column c: row a has what is not nought, its inverse b, n rows are done -/
def tm (p : Nat) (M : Nat → Nat → Int) (n a c : Nat) (b : Int) (r i : Nat) : Int := if r = n then M a i * b % p else ((if r = a then M n i else M r i) - (if r = a then M n c else M r c) * (M a i * b % p)) % p
def RI (p R W n c : Nat) (M0 M : Nat → Nat → Int) : Prop :=
  n ≤ R ∧ n ≤ c ∧ (∀ x, nul p R W M0 x ↔ nul p R W M x) ∧ (∃ pc : Nat → Nat, (∀ j, j < n → pc j < c) ∧ (∀ j k, j < k → k < n → pc j < pc k) ∧ (∀ r, r < R → ∀ j, j < n → M r (pc j) = if r = j then 1 else 0) ∧ ∀ r, r < n → ∀ i, i < pc r → M r i = 0) ∧ ∀ r, n ≤ r → r < R → ∀ i, i < c → M r i = 0
theorem RI_skip {p R W n c : Nat} {M0 M : Nat → Nat → Int} (h : RI p R W n c M0 M) (hz : ∀ r, n ≤ r → r < R → M r c = 0) : RI p R W n (c + 1) M0 M := by
  obtain ⟨h1, h2, h3, ⟨pc, h4, h5, h6, h7⟩, h8⟩ := h
  refine ⟨h1, by omega, h3, ⟨pc, fun j hj => Nat.lt_succ_of_lt (h4 j hj), h5, h6, h7⟩, fun r a b i hi => ?_⟩
  by_cases q : i = c
  · rw [q]; exact hz r a b
  · exact h8 r a b i (by omega)
theorem tm_nul {p R W n a c : Nat} {b : Int} {M : Nat → Nat → Int} {x : Nat → Int} (hp : PR p) (hb : b % p ≠ 0) (hn : n < R) (ha : a < R) : nul p R W M x ↔ nul p R W (tm p M n a c b) x := by
  have en : (rv W (tm p M n a c b) x n - b * rv W M x a) % p = 0 := by
    unfold rv
    rw [← sm_mulL]
    refine sm_eqm (fun k _ => ?_)
    unfold tm
    rw [if_pos rfl]
    have e : M a k * b % p * x k - b * (M a k * x k) = (M a k * b % p - M a k * b) * x k := by grind
    rw [e]
    exact z_mulR _ em_sub
  have er : ∀ r, r ≠ n → (rv W (tm p M n a c b) x r - (rv W M x (if r = a then n else r) - (if r = a then M n c else M r c) * b * rv W M x a)) % p = 0 := by
    intro r hr
    unfold rv
    rw [← sm_mulL, ← sm_sub]
    refine sm_eqm (fun k _ => ?_)
    unfold tm
    rw [if_neg hr]
    have e0 : M (if r = a then n else r) k = if r = a then M n k else M r k := by split <;> rfl
    rw [e0]
    generalize (if r = a then M n k else M r k) = S
    generalize (if r = a then M n c else M r c) = T
    have h1 : (M a k * b % p - M a k * b) % (p : Int) = 0 := em_sub
    generalize M a k * b % p = q at *
    have h2 : ((S - T * q) % p - (S - T * q)) % (p : Int) = 0 := em_sub
    generalize (S - T * q) % p = y at *
    have e : y * x k - (S * x k - T * b * (M a k * x k)) = (y - (S - T * q)) * x k + (-T * x k) * (q - M a k * b) := by grind
    rw [e]
    exact z_add (z_mulR _ h2) (z_mulL _ h1)
  constructor
  · intro h r hr
    by_cases q : r = n
    · rw [q, eqm.mpr en]; exact z_mulL _ (h a ha)
    · rw [eqm.mpr (er r q)]
      refine z_sub (h _ ?_) (z_mulL _ (h a ha))
      split <;> omega
  · intro h
    have ka : rv W M x a % p = 0 := by
      have := h n hn
      rw [eqm.mpr en] at this
      exact (dvd_prime hp this).resolve_left hb
    intro r hr
    by_cases q : r = a
    · rw [q]; exact ka
    · by_cases q2 : r = n
      · subst q2
        have := h a ha
        rw [eqm.mpr (er a (fun z => q z.symm)), if_pos rfl, if_pos rfl] at this
        have h2 := z_add this (z_mulL (p := p) (M r c * b) ka)
        rwa [Int.sub_add_cancel] at h2
      · have := h r hr
        rw [eqm.mpr (er r q2), if_neg q, if_neg q] at this
        have h2 := z_add this (z_mulL (p := p) (M r c * b) ka)
        rwa [Int.sub_add_cancel] at h2
theorem RI_step {p R W n a c : Nat} {b : Int} {M0 M : Nat → Nat → Int} (hp : PR p) (hc : c < W) (hM : ∀ r, r < R → ∀ i, i < W → 0 ≤ M r i ∧ M r i < p) (h : RI p R W n c M0 M) (hna : n ≤ a) (ha : a < R) (hb : b % p ≠ 0) (h1 : M a c * b % p = 1) : RI p R W (n + 1) (c + 1) M0 (tm p M n a c b) := by
  obtain ⟨g1, g2, g3, ⟨pc, g4, g5, g6, g7⟩, g8⟩ := h
  have lt : ∀ r, r < R → ∀ i, i < c → tm p M n a c b r i = M r i := by
    intro r hr i hi
    have z1 : M a i = 0 := g8 a hna ha i hi
    have z2 : M n i = 0 := g8 n (Nat.le_refl _) (by omega) i hi
    unfold tm
    rw [z1, z2]
    by_cases q : r = n
    · rw [if_pos q, q, z2]; simp
    · rw [if_neg q]
      by_cases q2 : r = a
      · rw [if_pos q2, q2, z1]; simp
      · obtain ⟨b1, b2⟩ := hM r hr i (by omega)
        rw [if_neg q2]; simp [Int.emod_eq_of_lt b1 b2]
  have cc : ∀ r, tm p M n a c b r c = if r = n then 1 else 0 := by
    intro r
    unfold tm
    rw [h1]
    by_cases q : r = n
    · rw [if_pos q, if_pos q]
    · rw [if_neg q, if_neg q]; simp
  refine ⟨by omega, by omega, fun x => (g3 x).trans (tm_nul hp hb (by omega) ha), ⟨fun j => if j = n then c else pc j, ?_, ?_, ?_, ?_⟩, ?_⟩
  · intro j hj
    dsimp only
    by_cases q : j = n
    · rw [if_pos q]; omega
    · rw [if_neg q]; have := g4 j (by omega); omega
  · intro j k hjk hk
    dsimp only
    rw [if_neg (show ¬ j = n by omega)]
    by_cases q : k = n
    · rw [if_pos q]; exact g4 j (by omega)
    · rw [if_neg q]; exact g5 j k hjk (by omega)
  · intro r hr j hj
    dsimp only
    by_cases q : j = n
    · rw [if_pos q, cc, q]
    · rw [if_neg q, lt r hr _ (g4 j (by omega))]; exact g6 r hr j (by omega)
  · intro r hr i hi
    dsimp only at hi
    by_cases q : r = n
    · rw [if_pos q] at hi
      rw [lt r (by omega) i hi]; exact g8 r (by omega) (by omega) i hi
    · rw [if_neg q] at hi
      have := g4 r (by omega)
      rw [lt r (by omega) i (by omega)]; exact g7 r (by omega) i hi
  · intro r hr1 hr2 i hi
    by_cases q : i = c
    · rw [q, cc, if_neg (by omega)]
    · rw [lt r hr2 i (by omega)]; exact g8 r (by omega) hr2 i (by omega)
theorem tm_el {p : Nat} {M : Nat → Nat → Int} {n a c : Nat} {b : Int} (h1 : M a c * b % p = 1) (r i : Nat) : tm p M n a c b r i = (fun r i => if r = n then (fun r i => if r = n then (fun r i => if r = a then M n i else if r = n then M a i else M r i) n i * b % p else (fun r i => if r = a then M n i else if r = n then M a i else M r i) r i) n i else ((fun r i => if r = n then (fun r i => if r = a then M n i else if r = n then M a i else M r i) n i * b % p else (fun r i => if r = a then M n i else if r = n then M a i else M r i) r i) r i - (fun r i => if r = n then (fun r i => if r = a then M n i else if r = n then M a i else M r i) n i * b % p else (fun r i => if r = a then M n i else if r = n then M a i else M r i) r i) r c * (fun r i => if r = n then (fun r i => if r = a then M n i else if r = n then M a i else M r i) n i * b % p else (fun r i => if r = a then M n i else if r = n then M a i else M r i) r i) n i) % p) r i := by
  have e1 : ∀ j, (if n = a then M n j else M a j) = M a j := by
    intro j
    by_cases q : n = a
    · rw [if_pos q, q]
    · rw [if_neg q]
  unfold tm
  by_cases q : r = n
  · subst q
    simp only [if_true, e1]
  · simp only [q, if_true, if_false, e1]
/-- the rank of so many rows -/
theorem m_rank {σ : Sto} {ρ : Rho} {p R W : Nat} {M : Nat → Nat → Int} (hρ : Md ρ) (hp : PR p) (h7 : σ 92 7 = iI p) (hR : R ≤ 8) (hW : W ≤ 6) (hM : MW σ p R W M) : OK (MX12_rank σ ρ 92 (iI R) (iI W)) (fun o => ∃ (n : Nat) (M' : Nat → Nat → Int), o.1 = iI n ∧ RI p R W n W M M' ∧ MW o.2 p R W M' ∧ Fr RX σ o.2) := by
  obtain ⟨hp3, hp23⟩ := hp.le
  unfold MX12_rank
  rw [bn_eq, bn_eq]
  refine run_g (S := Sto × Nat) (call := fun (g : Sto → Int32 → Int32 → Option (Int32 × Sto)) s (k : Nat) => g s.1 (iI s.2) (iI k)) (N := W) (I := fun k s => ∃ M', RI p R W s.2 k M M' ∧ MW s.1 p R W M' ∧ Fr RX σ s.1) (Post := fun o => OK o _) ?_ ?_ (by unfold FU; omega) (k0 := 0) (by omega) (s := (σ, 0)) ?_
  · intro g s ⟨M', i1, i2, i3⟩
    show OK (FX12_rank_5 ρ 92 (iI R) (iI W) g s.1 (iI s.2) (iI W)) _
    unfold FX12_rank_5
    rw [if_pos (by rw [iI_leN (by omega) (by omega)]; omega)]
    exact OK.so ⟨s.2, M', rfl, i1, i2, i3⟩
  · intro g s k ⟨M', hI, hM', hF⟩ hk ih
    obtain ⟨s, n⟩ := s
    dsimp only at hI hM' hF ih ⊢
    have hnR := hI.1
    unfold FX12_rank_5
    rw [if_neg (by rw [iI_leN (by omega) (by omega)]; omega), bn_eq]
    obtain ⟨a, a1, a2, a3, a4, a5⟩ := rk_find hρ hp hR hW hM' hnR hk (fun _ _ _ _ => none) (BX12_rank_42 ρ 92 (iI R) (iI W) g)
    rw [a5]
    unfold BX12_rank_42
    by_cases q : a = R
    · rw [if_pos (by rw [q])]
      unfold BX12_rank_293
      rw [bn_eq, iI_succ]
      exact ih (s, n) ⟨M', RI_skip hI (fun r h1 h2 => a3 r h1 (by omega)), hM', hF⟩
    · rw [if_neg (by rw [iI_eqN (by omega) (by omega)]; exact q), bn_eq]
      obtain ⟨s1, b1, b2, b3⟩ := rk_swap hρ hp hR hW hM' (n := n) (at' := a) (c := k) (by omega) (by omega) hk (fun _ _ _ _ _ => none) (BX12_rank_120 ρ 92 (iI R) (iI W) g)
      rw [show (0 : Int32) = iI 0 from rfl, b3]
      unfold BX12_rank_120
      obtain ⟨y1, y2, y3⟩ := b1 n (by omega) k hk
      have e1 : (if n = a then M' n k else if n = n then M' a k else M' n k) = M' a k := by
        by_cases q2 : n = a
        · rw [if_pos q2, q2]
        · rw [if_neg q2, if_pos rfl]
      dsimp only at y1 y2 y3
      rw [e1] at y1 y2 y3
      have nz := a4 (by omega)
      have h71 : s1 92 7 = iI p := by rw [b2 92 7 (by unfold RX; decide), hF 92 7 (by unfold RX; decide)]; exact h7
      have iv1 := m_inverse (σ := s1) (v := (M' a k).toNat) hp h71 (by omega) (by omega)
      have iv2 := iv_ok (v := (M' a k).toNat) hp (by omega) (by omega)
      rw [show (((M' a k).toNat : Nat) : Int) = M' a k by omega] at iv1
      have ivm : M' a k * (iv p (M' a k).toNat : Int) % p = 1 := by
        have := iv2.2.2.1
        have h3 : (((M' a k).toNat * iv p (M' a k).toNat % p : Nat) : Int) = 1 := by rw [this]; rfl
        rw [Int.natCast_emod, Int.natCast_mul, show (((M' a k).toNat : Nat) : Int) = M' a k by omega] at h3
        exact h3
      rw [hρ.2.2.2.2.1, ob_some, ag97c (by omega) (by omega), ob_some, y1, iv1, ob_some, bn_eq, bn_eq]
      generalize hK : iv p (M' a k).toNat = K at *
      obtain ⟨s2, c1, c2, c3⟩ := rk_scale hρ hp h71 hR hW b1 (n := n) (c := k) (by' := (K : Int)) (by omega) hk (by omega) (by omega) (fun _ _ _ _ _ => none) (BX12_rank_185 ρ 92 (iI R) (iI W) g)
      rw [show (0 : Int32) = iI 0 from rfl, c3]
      unfold BX12_rank_185
      have h72 : s2 92 7 = iI p := by rw [c2 92 7 (by unfold RX; decide)]; exact h71
      obtain ⟨s3, d1, d2, d3⟩ := rk_elim hρ hp h72 hR hW c1 (n := n) (c := k) (by omega) hk (fun _ _ _ _ => none) (BX12_rank_290 ρ 92 (iI R) (iI W) g)
      rw [bn_eq, show (0 : Int32) = iI 0 from rfl, d3]
      unfold BX12_rank_290 BX12_rank_293
      rw [bn_eq, bn_eq, iI_succ, iI_succ]
      refine ih (s3, n + 1) ⟨tm p M' n a k K, RI_step hp hk (fun r hr i hi => (hM' r hr i hi).2) hI a1 (by omega) ?_ ivm, MW_eq d1 (fun r _ i _ => tm_el ivm r i), ((hF.tr b2).tr c2).tr d2⟩
      rw [Int.emod_eq_of_lt (by omega) (by omega)]; omega
  · exact ⟨M, ⟨by omega, by omega, fun x => Iff.rfl, ⟨fun _ => 0, fun j hj => by omega, fun j k _ hk => by omega, fun r _ j hj => by omega, fun r hr => by omega⟩, fun r _ _ i hi => by omega⟩, hM, Fr.rf⟩
