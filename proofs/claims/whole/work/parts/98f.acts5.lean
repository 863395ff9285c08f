/-! ACTS: prime, mark, undo -/
def isPr (x : Int) : Prop := x = 3 ∨ x = 5 ∨ x = 7 ∨ x = 11 ∨ x = 13 ∨ x = 17 ∨ x = 19 ∨ x = 23
def tb (k : Nat) : Int := if k = 0 then 3 else if k = 1 then 5 else if k = 2 then 7 else if k = 3 then 11 else if k = 4 then 13 else if k = 5 then 17 else if k = 6 then 19 else 23
theorem pg_tb : ∀ k, k < 8 → pg (iI (k : Nat)) = some (iI (tb k)) := by decide +kernel
theorem tb_rg {k : Nat} : rg32 (tb k) := by
  unfold tb
  repeat' split
  all_goals exact ⟨by omega, by omega⟩
theorem any_ex {P : Nat → Bool} {n : Nat} : (fs P n).isSome = true ↔ ∃ i, i < n ∧ P i = true := by
  cases e : fs P n with
  | none =>
    have := fs_none.mp e
    exact ⟨fun z => by (cases z), fun ⟨i, a, b⟩ => by rw [this i a] at b; cases b⟩
  | some k =>
    obtain ⟨a, b, -⟩ := fs_some e
    exact ⟨fun _ => ⟨k, a, b⟩, fun _ => rfl⟩
theorem k_isPrime {x : Int} (hx : rg32 x) : (isPr x ∧ MX11_isPrime (iI x) = some 1) ∨ (¬ isPr x ∧ MX11_isPrime (iI x) = some 0) := by
  have key : MX11_isPrime (iI x) = some (if (fs (fun k => decide (tb k = x)) 8).isSome then 1 else 0) := by
    unfold MX11_isPrime
    rw [bn_eq]
    refine scan_g (S := Unit) (call := fun (g : Int32 → Option Int32) _ (k : Nat) => g (iI k)) (N := 8) (P := fun k => decide (tb k = x)) (I := fun _ => True) (Post := fun o r => r = some (if o.isSome then 1 else 0)) ?_ ?_ ?_ (by unfold FU; omega) (s := ()) trivial
    · intro g _ _
      unfold FX11_isPrime_2
      rw [if_pos (by decide)]; exact zr0 _
    · intro g _ k _ hk hP
      unfold FX11_isPrime_2
      rw [if_neg (by rw [w8, iI_leN (by omega) (by omega)]; omega), pg_tb k hk, ob_some, if_pos (by rw [of_decide_eq_true hP])]; exact zr1 _
    · intro g _ k _ hk hP
      refine ⟨(), trivial, ?_⟩
      unfold FX11_isPrime_2
      rw [if_neg (by rw [w8, iI_leN (by omega) (by omega)]; omega), pg_tb k hk, ob_some, if_neg (by rw [iI_eq tb_rg hx]; exact of_decide_eq_false hP), bn_eq, iI_succ]
  rw [key]
  have e : (fs (fun k => decide (tb k = x)) 8).isSome = true ↔ isPr x := by
    rw [any_ex]
    unfold isPr
    constructor
    · rintro ⟨i, a, b⟩
      have b := of_decide_eq_true b
      unfold tb at b
      repeat' split at b
      all_goals omega
    · intro h
      rcases h with h | h | h | h | h | h | h | h
      · exact ⟨0, by omega, decide_eq_true h.symm⟩
      · exact ⟨1, by omega, decide_eq_true h.symm⟩
      · exact ⟨2, by omega, decide_eq_true h.symm⟩
      · exact ⟨3, by omega, decide_eq_true h.symm⟩
      · exact ⟨4, by omega, decide_eq_true h.symm⟩
      · exact ⟨5, by omega, decide_eq_true h.symm⟩
      · exact ⟨6, by omega, decide_eq_true h.symm⟩
      · exact ⟨7, by omega, decide_eq_true h.symm⟩
  by_cases c : isPr x
  · rw [if_pos (e.mpr c)]; exact Or.inl ⟨c, rfl⟩
  · rw [if_neg (fun z => c (e.mp z))]; exact Or.inr ⟨c, rfl⟩
theorem m_isPrime {x : Int} (hx : rg32 x) : (isPr x ∧ MX12_isPrime (iI x) = some 1) ∨ (¬ isPr x ∧ MX12_isPrime (iI x) = some 0) := by
  have q : ∀ n : Nat, n < 100 → ((iI x = iI ((n : Nat) : Int)) ↔ x = n) := fun n hn => iI_eq hx ⟨by omega, by omega⟩
  unfold MX12_isPrime
  rw [show (3 : Int32) = iI ((3 : Nat) : Int) from rfl, show (5 : Int32) = iI ((5 : Nat) : Int) from rfl, show (7 : Int32) = iI ((7 : Nat) : Int) from rfl, show (11 : Int32) = iI ((11 : Nat) : Int) from rfl, show (13 : Int32) = iI ((13 : Nat) : Int) from rfl, show (17 : Int32) = iI ((17 : Nat) : Int) from rfl, show (19 : Int32) = iI ((19 : Nat) : Int) from rfl, show (23 : Int32) = iI ((23 : Nat) : Int) from rfl]
  simp only [q 3 (by omega), q 5 (by omega), q 7 (by omega), q 11 (by omega), q 13 (by omega), q 17 (by omega), q 19 (by omega), q 23 (by omega), zr0, zr1]
  unfold isPr
  by_cases c : x = 3 ∨ x = 5 ∨ x = 7 ∨ x = 11 ∨ x = 13 ∨ x = 17 ∨ x = 19 ∨ x = 23
  · refine Or.inl ⟨c, ?_⟩
    repeat' split
    all_goals first | rfl | omega
  · refine Or.inr ⟨c, ?_⟩
    repeat' split
    all_goals first | rfl | omega
theorem isPr_PR {x : Int} (h : isPr x) : PR x.toNat ∧ ((x.toNat : Nat) : Int) = x := by
  unfold isPr at h
  unfold PR
  omega
theorem refA_wr {o : Option (Int32 × Sto)} : o = Option.bind o (fun c => some (c.1, c.2)) := by
  cases o <;> rfl
/-- a sheet taken in the old one's place: the class, after what was kept -/
theorem k_done {σ0 s1 s2 : Sto} {ρ : Rho} {A : AS} {S : Sheet} (hD : Dk ρ) (h : KR σ0 A) (hP : KP s1 ((A.1.1 :: A.2.1).take 8)) (h1 : ∀ k i, (k < 7 ∨ 32 < k) → k < 53 ∨ 92 ≤ k → s1 k i = σ0 k i) (hC : CS s2 2 S) (h2 : ∀ k i, k < 2 ∨ 4 < k → s2 k i = s1 k i) : OK (Option.bind (MX11_accept s2 ρ 0) fun c => some (c.1, c.2)) (Kq σ0 (0, accA A S)) :=
  wr (k_accept hD h hC (KP_fr hP (fun k i a b => h2 k i (by omega))) (fun k i hk => (h2 k i (by omega)).trans (h1 k i (by omega) (by omega))))
theorem m_done {σ0 s1 s2 : Sto} {ρ : Rho} {A : AS} {S : Sheet} (hρ : Md ρ) (hA : AOK A) (hS : SOK S) (h : MR σ0 A) (hP : MP s1 ((A.1.1 :: A.2.1).take 8)) (h1 : ∀ i, 462 ≤ i → s1 93 i = σ0 93 i) (h1' : ∀ k i, k ≠ 93 → (k < 92 ∨ ¬ SC k i) → ¬ (k = 92 ∧ i = 6) → s1 k i = σ0 k i) (hM : MS s2 0 S) (h2 : ∀ i, 46 ≤ i → s2 93 i = s1 93 i) (h2' : ∀ k i, k ≠ 93 → s2 k i = s1 k i) : OK (Option.bind (MX12_refused s2 ρ 92 (0 : Int32) (0 : Int32)) fun c => some (c.1, c.2)) (Mq σ0 (0, accA A S)) := by
  have hA' := AOK_acc hA hS
  exact wr (m_accept hρ hA hS h hM (MP_fr hP (past8 hA') hA'.2.2.1 (h2' _ _ (by decide)) (fun i a b => h2 i (by omega))) (fun i a => (h2 i (by omega)).trans (h1 i a)) (fun k i a b c => (h2' k i a).trans (h1' k i a b c)))
noncomputable def aPrime (A : AS) (x : Int) : Int32 × AS := cs (isPr x) (cs (x = A.1.1.1) (2, refA A 2 0) (0, accA A (x.toNat, [], A.1.1.2.2))) (1, refA A 1 0)
theorem k_prime {σ : Sto} {ρ : Rho} {A : AS} {x : Int} (hD : Dk ρ) (hA : AOK A) (h : KR σ A) (hx : rg32 x) : OK (MX11_prime σ ρ 0 (iI x)) (Kq σ (aPrime A x)) := by
  unfold MX11_prime aPrime
  rcases k_isPrime hx with ⟨a, e⟩ | ⟨a, e⟩
  · have hp := hA.1.1.1.le
    have ex : (σ 2 0 = iI x) ↔ x = A.1.1.1 := by
      rw [h.1.1.1, iI_eq ⟨by omega, by omega⟩ hx]; exact eq_comm
    rw [e, ob_some, if_neg ne10, cs_pos a, dk_0_0 hD, ob_some, dk_1_0 hD, ob_some]
    by_cases q : x = A.1.1.1
    · rw [if_pos (ex.mpr q), cs_pos q]; exact k_no hD h Fr.rf
    · rw [if_neg (fun z => q (ex.mp z)), cs_neg q, dk_0_1 hD, ob_some, ob_some, dk_1_0 hD, ob_some]
      refine OK.bi (k_keep hD hA.1.1.2.1 (past8 hA) hA.2.2.1 h.1.1 h.2.1) ?_
      intro s1 ⟨g1, g2⟩
      have hC1 : CS s1 2 A.1.1 := CS_k h.1.1 (fun i => g2 _ _ (by decide) (by omega)) (fun i => g2 _ _ (by decide) (by omega)) (fun i => g2 _ _ (by decide) (by omega))
      have ex' : ¬ (iI x = s1 2 0) := by
        rw [g2 2 0 (by decide) (by omega)]; exact fun z => q (ex.mp z.symm)
      unfold MX8_changePrime
      rw [ob_some, dk_1_0 hD, ob_some, if_neg ex', bn_eq, bn_eq, ob_some]
      refine k_done hD h g1 (fun k i a b => g2 k i (by omega) (by omega)) (s2 := su (su s1 2 0 (iI x)) 2 1 0) ⟨?_, ?_, fun i hi => ?_, fun k hk => ?_⟩ (fun k i hk => by rw [su_k (by omega), su_k (by omega)])
      · rw [su_i (by decide), su_s, (isPr_PR a).2]
      · rw [su_s]; rfl
      · rw [su_k (by decide), su_k (by decide)]; exact hC1.2.2.1 i hi
      · exact absurd hk (Nat.not_lt_zero _)
  · rw [e, ob_some, if_pos rfl, cs_neg a]; exact k_no hD h Fr.rf
theorem SOK_pr {S : Sheet} {x : Int} (hS : SOK S) (h : isPr x) : SOK (x.toNat, [], S.2.2) := by
  refine ⟨(isPr_PR h).1, Nat.zero_le _, List.nodup_nil, fun q hq => ?_, hS.2.2.2.2.1, hS.2.2.2.2.2⟩
  cases hq
theorem m_prime {σ : Sto} {ρ : Rho} {A : AS} {x : Int} (hρ : Md ρ) (hA : AOK A) (h : MR σ A) (hx : rg32 x) : OK (MX12_prime σ ρ 92 (iI x)) (Mq σ (aPrime A x)) := by
  unfold MX12_prime aPrime
  rcases m_isPrime hx with ⟨a, e⟩ | ⟨a, e⟩
  · have hp := hA.1.1.1.le
    have e36 : ag σ 93 (36 : Int32) = some (iI A.1.1.1) := by rw [ag93 36 (by decide)]; exact congrArg some h.1.1.1
    rw [e, ob_some, if_neg ne10, cs_pos a, hρ.1, ob_some, e36, ob_some]
    by_cases q : x = A.1.1.1
    · rw [if_pos (by rw [q]), cs_pos q]; exact m_no hρ hA h Fr.rf
    · rw [if_neg (by rw [iI_eq hx ⟨by omega, by omega⟩]; exact q), cs_neg q]
      refine OK.bi (m_keeps hρ hA.1.1.2.1 (past8 hA) hA.2.2.1 h.1.1 h.2.1) ?_
      intro s1 ⟨g1, g2, g3⟩
      rw [ob_some, ap93 36 (by decide), ob_some, ob_some, ap93 37 (by decide), ob_some]
      refine m_done hρ hA (SOK_pr hA.1.1 a) h g1 (fun i hi => g2 i (by omega)) (fun k i a b c => g3 k i a c) (s2 := su (su s1 93 36 (iI x)) 93 37 0) ⟨?_, ?_, fun i hi => ?_, fun k hk => ?_⟩ (fun i hi => by rw [su_i (by omega), su_i (by omega)]) (fun k i hk => by rw [su_k hk, su_k hk])
      · rw [su_i (by decide), su_s, (isPr_PR a).2]
      · rw [su_s]; rfl
      · rw [su_i (by omega), su_i (by omega), g2 _ (by omega)]; exact h.1.1.2.2.1 i hi
      · exact absurd hk (Nat.not_lt_zero _)
  · rw [e, ob_some, if_pos rfl, cs_neg a]; exact m_no hρ hA h Fr.rf
/-- undo -/
def aUndo (A : AS) : Int32 × AS := match A.2.1 with
  | [] => (-1, A)
  | S :: L => (iI L.length, ((S, A.1.2), L, A.2.2))
theorem AOK_undo {A : AS} (h : AOK A) : AOK (aUndo A).2 := by
  obtain ⟨M, L, im⟩ := A
  cases L with
  | nil => exact h
  | cons S L =>
    obtain ⟨h1, h2, h3, h4⟩ := h
    have h3 : L.length + 1 ≤ 8 := h3
    exact ⟨⟨h2 S List.mem_cons_self, h1.2.1, h1.2.2⟩, fun T hT => h2 T (List.mem_cons_of_mem _ hT), (by show L.length ≤ 8; omega), h4⟩
theorem k_undo {σ : Sto} {ρ : Rho} {A : AS} (hD : Dk ρ) (hA : AOK A) (h : KR σ A) : OK (MX11_undo σ ρ 0) (Kq σ (aUndo A)) := by
  obtain ⟨M, L, im⟩ := A
  obtain ⟨hm, ⟨nx, h1, h2, h3, h4⟩, hi⟩ := id h
  unfold MX11_undo MX5_giveBack
  rw [dk_0_1 hD, ob_some, dk_0_0 hD, ob_some, dk_1_0 hD, ob_some]
  -- the last one laid down
  have B : ∀ y : Nat, y = (nx + 7) % 8 → OK (Option.bind (BX5_giveBack_18 ρ 7 2 σ (iI y)) fun c4 => if c4.1 = 0 then some ((-1 : Int32), c4.2) else Option.bind (some 7) fun j5 => some (c4.2 j5 2, c4.2)) (Kq σ (aUndo (M, L, im))) := by
    intro y hy
    have y8 : y < 8 := by omega
    unfold BX5_giveBack_18
    rw [bn_eq, h3]
    cases L with
    | nil =>
      rw [if_pos (show iI (([] : List Sheet).length : Int) = 0 from rfl), zr0, ob_some, if_pos rfl]
      exact OK.so ⟨rfl, h, Fr.rf⟩
    | cons S L =>
      have hl : L.length + 1 ≤ 8 := hA.2.2.1
      have hS8 : S.2.1.length ≤ 8 := (hA.2.1 S List.mem_cons_self).2.1
      have hC0 : CS σ (9 + 3 * y) S := by
        have := h4 0 (by rw [List.length_cons]; omega)
        rw [show nx + 7 - 0 = nx + 7 by omega, ← hy] at this
        exact this
      rw [show ((M, S :: L, im) : AS).2.1.length = L.length + 1 from rfl, if_neg (by rw [w0, iI_eqN (by omega) (by omega)]; omega), if_pos (by rw [w8, iI_lt ⟨by omega, by omega⟩ ⟨by omega, by omega⟩]; omega), dk_7_0 hD, ob_some, rg8 y8, dk_ring hD y8, ob_some]
      obtain ⟨s, e, g1, g2⟩ := c_copyS (Sr_ring hD y8) (Sr_2 hD) (by omega) hS8 hC0
      have e72 : su s 7 1 (iI y) 7 2 = iI ((L.length : Int) + 1) := by
        rw [su_i (by decide), g2 7 2 (by decide) (by decide) (by decide), h3, List.length_cons]; rfl
      rw [e, ob_some, bn_eq, bn_eq, zr1, ob_some, if_neg ne10, ob_some]
      dsimp only
      rw [su_s, e72, show iI ((L.length : Int) + 1) - (1 : Int32) = iI (L.length : Int) by rw [w1, iI_sub]; congr 1; omega]
      have fr : ∀ k i, k ≠ 2 → k ≠ 3 → k ≠ 4 → k ≠ 7 → su (su s 7 1 (iI y)) 7 2 (iI L.length) k i = σ k i := fun k i a b c d => by rw [su_k d, su_k d]; exact g2 k i a b c
      have key : KR (su (su s 7 1 (iI y)) 7 2 (iI L.length)) ((S, M.2), L, im) := by
        refine ⟨⟨CS_k g1 (fun i => ?_) (fun i => ?_) (fun i => ?_), (fr _ _ (by decide) (by decide) (by decide) (by decide)).trans hm.2.1, fun i hi => by rw [fr _ _ (by decide) (by decide) (by decide) (by decide)]; exact hm.2.2.1 i hi, (fr _ _ (by decide) (by decide) (by decide) (by decide)).trans hm.2.2.2.1, (fr _ _ (by decide) (by decide) (by decide) (by decide)).trans hm.2.2.2.2.1, (fr _ _ (by decide) (by decide) (by decide) (by decide)).trans hm.2.2.2.2.2.1, (fr _ _ (by decide) (by decide) (by decide) (by decide)).trans hm.2.2.2.2.2.2⟩, ⟨y, y8, ?_, su_s, fun i hi => ?_⟩, KI_fr hi (fun k i a b => fr _ _ (by omega) (by omega) (by omega) (by omega))⟩
        · rw [su_k (by decide), su_k (by decide)]
        · rw [su_k (by decide), su_k (by decide)]
        · rw [su_k (by decide), su_k (by decide)]
        · rw [su_i (by decide), su_s]
        · have := h4 (i + 1) (by rw [List.length_cons]; show i + 1 < L.length + 1; have : i < L.length := hi; omega)
          have hi' : i < L.length := hi
          rw [show (nx + 7 - (i + 1)) % 8 = (y + 7 - i) % 8 by omega] at this
          exact CS_k this (fun j => fr _ _ (by omega) (by omega) (by omega) (by omega)) (fun j => fr _ _ (by omega) (by omega) (by omega) (by omega)) (fun j => fr _ _ (by omega) (by omega) (by omega) (by omega))
      exact OK.so ⟨rfl, key, fun k i hk => fr k i (by unfold CL at hk; omega) (by unfold CL at hk; omega) (by unfold CL at hk; omega) (by unfold CL at hk; omega)⟩
  rw [h2]
  by_cases c : nx = 0
  · rw [if_pos (by rw [c]; decide)]
    exact B 7 (by omega)
  · rw [if_neg (by rw [w0, iI_leN (by omega) (by omega)]; omega), show iI (nx : Int) - (1 : Int32) = iI ((nx - 1 : Nat) : Int) by rw [w1, iI_sub]; congr 1; omega]
    exact B (nx - 1) (by omega)
theorem m_undo {σ : Sto} {ρ : Rho} {A : AS} (hρ : Md ρ) (hA : AOK A) (h : MR σ A) : OK (MX12_undo σ ρ 92) (Mq σ (aUndo A)) := by
  obtain ⟨M, L, im⟩ := A
  obtain ⟨hm, ⟨p1, p2⟩, hi⟩ := id h
  unfold MX12_undo
  cases L with
  | nil =>
    rw [if_pos (by rw [p1]; rfl)]
    exact OK.so ⟨rfl, h, Fr.rf⟩
  | cons S L =>
    have hl : L.length + 1 ≤ 8 := hA.2.2.1
    have hS8 : S.2.1.length ≤ 8 := (hA.2.1 S List.mem_cons_self).2.1
    have p1 : σ 92 6 = iI ((L.length + 1 : Nat) : Int) := p1
    rw [if_neg (by rw [p1, w0, iI_eqN (by omega) (by omega)]; omega), bn_eq, p1, show iI ((L.length + 1 : Nat) : Int) - (1 : Int32) = iI (L.length : Int) by rw [w1, iI_sub]; congr 1; omega, su_s, show (94 : Int32) + (46 : Int32) * iI (L.length : Int) = iI ((94 + 46 * L.length : Nat) : Int) by rw [show (94 : Int32) = iI 94 from rfl, show (46 : Int32) = iI 46 from rfl, iI_mul, iI_add]; congr 1]
    refine OK.bi (m_copies (f := 94 + 46 * L.length) (t := 0) (n := 46) hρ (by omega) (by omega) (by omega)) ?_
    intro s ⟨c1, c2⟩
    have e6 : s 92 6 = iI (L.length : Int) := by rw [c2 92 6 (by decide), su_s]
    have fr : ∀ i, 46 ≤ i → s 93 i = σ 93 i := fun i hi => by rw [c1, if_neg (by omega), su_k (by decide)]
    have fr2 : ∀ k i, k ≠ 93 → ¬ (k = 92 ∧ i = 6) → s k i = σ k i := fun k i a b => by rw [c2 k i a, su_n (by omega)]
    have hS := p2 0 (by rw [List.length_cons]; omega)
    rw [show (S :: L).length - 1 - 0 = L.length by rw [List.length_cons]; omega] at hS
    have key : MR s ((S, M.2), L, im) := by
      refine ⟨⟨MS_e (b := 94 + 46 * L.length) hS hS8 (fun j hj => ?_), (fr2 _ _ (by decide) (by omega)).trans hm.2.1, fun i hi => (fr2 _ _ (by decide) (by omega)).trans (hm.2.2.1 i hi), (fr2 _ _ (by decide) (by omega)).trans hm.2.2.2.1, (fr2 _ _ (by decide) (by omega)).trans hm.2.2.2.2.1, (fr _ (by omega)).trans hm.2.2.2.2.2.1, (fr _ (by omega)).trans hm.2.2.2.2.2.2⟩, ⟨e6, fun i hi => ?_⟩, MI_fr hi hA.2.2.2 (fun i hi => fr2 _ _ (by decide) (by omega)) (fun i h1 h2 => fr i (by omega))⟩
      · rw [c1, if_pos (by omega), su_k (by decide)]
        congr 1; omega
      · have hi' : i < L.length := hi
        have := p2 (i + 1) (by rw [List.length_cons]; omega)
        rw [show (S :: L).length - 1 - (i + 1) = L.length - 1 - i by rw [List.length_cons]; omega] at this
        have g8 : ((S :: L).getD (i + 1) sh0).2.1.length ≤ 8 := by
          show (L.getD i sh0).2.1.length ≤ 8
          rw [List.getD_eq_getElem?_getD, List.getElem?_eq_getElem hi']
          exact (hA.2.1 _ (List.mem_cons_of_mem _ (List.getElem_mem hi'))).2.1
        exact MS_e this g8 (fun j hj => fr _ (by omega))
    rw [e6]
    exact OK.so ⟨rfl, key, fun k i hk => fr2 k i (by unfold ML at hk; omega) (by unfold ML at hk; omega)⟩
