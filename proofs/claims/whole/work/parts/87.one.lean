/-! the reference: marks' rows, ranks, the one conic -/
theorem ap97z {σ : Sto} {x : Int32} {r : Nat} (hr : r < 8) : ap σ 97 ((6 : Int32) * iI r) x = some (su σ 97 (6 * r + 0) x) := by
  rw [show (6 : Int32) = iI 6 from rfl, iI_mul, ap97i (by omega) (by omega)]
  congr 2
theorem m_laysMark {σ : Sto} {ρ : Rho} {p r q : Nat} (hρ : Md ρ) (hp : PR p) (h7 : σ 92 7 = iI p) (hr : r < 8) (hq : q < NP p) : OK (MX12_laysMark σ ρ 92 (iI r) (iI q)) (fun s => (∀ i, i < 6 → s 97 (6 * r + i) = iI (mk p q i)) ∧ (∀ j, j < 6 * r ∨ 6 * r + 6 ≤ j → s 97 j = σ 97 j) ∧ Fr QX σ s) := by
  obtain ⟨hp3, hp23⟩ := hp.le
  have hrp : rg32 (p : Int) := ⟨by omega, by omega⟩
  have b1 := cX_bd (p := p) (n := q)
  have b2 := cY_bd (p := p) (n := q) (by omega)
  have b3 := cZ_bd (p := p) (n := q) (by omega)
  have h12 := hρ.2.2.2.2.1
  have MR : ∀ a b : Int, 0 ≤ a → a < p → 0 ≤ b → b < p → rmi (iI a * iI b) (iI p) = some (iI (a * b % p)) := by
    intro a b a1 a2 b1 b2
    have hb := bd_mul (a := a) (b := b) (A := 23) (B := 23) ⟨by omega, by omega⟩ ⟨by omega, by omega⟩
    rw [iI_mul, rmi_iI (bd_rg hb (by decide)) hrp (by omega), Int.tmod_eq_emod_of_nonneg (Int.mul_nonneg a1 b1)]
  have rxx := MR (cX p q) (cX p q) (by omega) (by omega) (by omega) (by omega)
  have ryy := MR (cY p q) (cY p q) (by omega) (by omega) (by omega) (by omega)
  have rzz := MR (cZ p q) (cZ p q) (by omega) (by omega) (by omega) (by omega)
  have ryz := MR (cY p q) (cZ p q) (by omega) (by omega) (by omega) (by omega)
  have rzx := MR (cZ p q) (cX p q) (by omega) (by omega) (by omega) (by omega)
  have rxy := MR (cX p q) (cY p q) (by omega) (by omega) (by omega) (by omega)
  have A0 : ∀ (s : Sto) (x : Int32), ap s 97 ((6 : Int32) * iI r) x = some (su s 97 (6 * r + 0) x) := fun s x => ap97z hr
  have A1 : ∀ (s : Sto) (x : Int32), ap s 97 ((6 : Int32) * iI r + (1 : Int32)) x = some (su s 97 (6 * r + 1) x) := fun s x => ap97c (c := 1) hr (by omega)
  have A2 : ∀ (s : Sto) (x : Int32), ap s 97 ((6 : Int32) * iI r + (2 : Int32)) x = some (su s 97 (6 * r + 2) x) := fun s x => ap97c (c := 2) hr (by omega)
  have A3 : ∀ (s : Sto) (x : Int32), ap s 97 ((6 : Int32) * iI r + (3 : Int32)) x = some (su s 97 (6 * r + 3) x) := fun s x => ap97c (c := 3) hr (by omega)
  have A4 : ∀ (s : Sto) (x : Int32), ap s 97 ((6 : Int32) * iI r + (4 : Int32)) x = some (su s 97 (6 * r + 4) x) := fun s x => ap97c (c := 4) hr (by omega)
  have A5 : ∀ (s : Sto) (x : Int32), ap s 97 ((6 : Int32) * iI r + (5 : Int32)) x = some (su s 97 (6 * r + 5) x) := fun s x => ap97c (c := 5) hr (by omega)
  unfold MX12_laysMark
  rw [m_laysPlace hp h7 hq, ob_some]
  simp (disch := decide) only [h12, ↓ob_some, A0, A1, A2, A3, A4, A5, su_k, lp_7, lp_8, lp_9, lp_10, h7, rxx, ryy, rzz, ryz, rzx, rxy]
  refine OK.so ⟨fun i hi => ?_, fun j hj => ?_, ?_⟩
  · rcases c6 hi with rfl | rfl | rfl | rfl | rfl | rfl <;> simp (disch := omega) only [su_s, su_i] <;> rfl
  · simp (disch := omega) only [su_i]
    exact lp_k (by decide)
  · exact (((((((Fr_lp (σ := σ) (x := cX p q) (y := cY p q) (z := cZ p q)).mo (fun k i h => Or.inl h)).tr (Fr.su (S := QX) (Or.inr rfl))).tr (Fr.su (S := QX) (Or.inr rfl))).tr (Fr.su (S := QX) (Or.inr rfl))).tr (Fr.su (S := QX) (Or.inr rfl))).tr (Fr.su (S := QX) (Or.inr rfl))).tr (Fr.su (S := QX) (Or.inr rfl))
def QP (k i : Nat) : Prop := PX k i ∨ RX k i ∨ (k = 92 ∧ i = 7)
theorem QX_QP {k i : Nat} (h : QX k i) : QP k i := by
  rcases h with h | h
  · exact Or.inl h
  · exact Or.inr (Or.inl h)
theorem QX_7 : ¬ QX 92 7 := by unfold QX PX RX; omega
theorem rw_loop {σ : Sto} {ρ : Rho} {S : Sheet} {a1 : Int32} {Q : Int32 × Sto → Prop} (hρ : Md ρ) (hS : SOK S) (hM : MS σ 0 S) (hQ : ∀ s, MW s S.1 S.2.1.length 6 (mkM S.1 S.2.1) → Fr QP σ s → s 92 7 = iI S.1 → OK (BX12_rankWith_46 ρ 92 a1 s (iI S.2.1.length)) Q) : OK (MX12_rankWith σ ρ 92 a1) Q := by
  obtain ⟨hp, hl, -, hq, -, -⟩ := hS
  obtain ⟨hp3, hp23⟩ := hp.le
  obtain ⟨m36, m37, -, mk'⟩ := hM
  unfold MX12_rankWith
  rw [hρ.1, ob_some, show (36 : Int32) = OfNat.ofNat 36 from rfl, ag93 36 (by decide), ob_some, bn_eq, ob_some, show (37 : Int32) = OfNat.ofNat 37 from rfl, ag93 37 (by decide), ob_some, bn_eq, bn_eq, su_k (by decide), show σ 93 36 = iI S.1 from m36, show σ 93 37 = iI S.2.1.length from m37]
  refine run_g (S := Sto) (call := fun (g : Sto → Int32 → Int32 → Option (Int32 × Sto)) s (k : Nat) => g s (iI S.2.1.length) (iI k)) (N := S.2.1.length) (I := fun k s => (∀ r, r < k → ∀ i, i < 6 → s 97 (6 * r + i) = iI (mkM S.1 S.2.1 r i)) ∧ Fr QP σ s ∧ s 92 7 = iI S.1) (Post := fun o => OK o Q) ?_ ?_ (by unfold FU; omega) (k0 := 0) (by omega) ?_
  · intro g s ⟨i1, i2, i3⟩
    unfold FX12_rankWith_21
    rw [if_pos (by rw [iI_leN (by omega) (by omega)]; omega)]
    exact hQ s (fun r hr c hc => ⟨i1 r hr c hc, mk_nn hp⟩) i2 i3
  · intro g s k ⟨i1, i2, i3⟩ hk ih
    have hm := mk' k hk
    have hqk : S.2.1.getD k 0 < NP S.1 := by
      rw [List.getD_eq_getElem?_getD, List.getElem?_eq_getElem hk]
      exact hq _ (List.getElem_mem hk)
    show OK (FX12_rankWith_21 ρ 92 a1 (BX12_rankWith_46 ρ 92 a1) g s (iI S.2.1.length) (iI k)) Q
    unfold FX12_rankWith_21
    rw [if_neg (by rw [iI_leN (by omega) (by omega)]; omega), hρ.1, ob_some, show (38 : Int32) = iI 38 from rfl, iI_add, ag93i (by omega) (by omega), ob_some, show (38 + (k : Int)).toNat = 38 + k by omega, i2 93 _ (by unfold QP PX RX; omega), show σ 93 (38 + k) = iI (S.2.1.getD k 0 : Nat) by rw [← hm, Nat.zero_add]]
    refine OK.bi (m_laysMark hρ hp i3 (by omega) hqk) ?_
    intro s' ⟨j1, j2, j3⟩
    rw [bn_eq, iI_succ]
    refine ih s' ⟨fun r hr i hi => ?_, i2.tr (j3.mo (fun k i h => QX_QP h)), by rw [j3 92 7 QX_7]; exact i3⟩
    by_cases c : r = k
    · rw [c]; exact j1 i hi
    · rw [j2 _ (Or.inl (by omega))]; exact i1 r (by omega) i hi
  · exact ⟨fun r hr => by omega, Fr.su (S := QP) (Or.inr (Or.inr ⟨rfl, rfl⟩)), su_s⟩
theorem m_rank0 {σ : Sto} {ρ : Rho} {S : Sheet} (hρ : Md ρ) (hS : SOK S) (hM : MS σ 0 S) : OK (MX12_rankWith σ ρ 92 (-1)) (fun o => ∃ (n : Nat) (M' : Nat → Nat → Int), o.1 = iI n ∧ RI S.1 S.2.1.length 6 n 6 (mkM S.1 S.2.1) M' ∧ MW o.2 S.1 S.2.1.length 6 M' ∧ o.2 92 7 = iI S.1 ∧ Fr QP σ o.2) := by
  refine rw_loop hρ hS hM (fun s h1 h2 h3 => ?_)
  have hl := hS.2.1
  unfold BX12_rankWith_46
  refine OK.bi (m_rank (W := 6) hρ hS.1 h3 hl (by omega) h1) ?_
  rintro ⟨c, s'⟩ ⟨n, M', q1, q2, q3, q4⟩
  rw [bn_eq, if_pos rfl]
  exact OK.so ⟨n, M', q1, q2, q3, by rw [q4 92 7 (by unfold RX; decide)]; exact h3, h2.tr (q4.mo (fun k i h => Or.inr (Or.inl h)))⟩
theorem m_rank1 {σ : Sto} {ρ : Rho} {S : Sheet} {q : Nat} (hρ : Md ρ) (hS : SOK S) (hM : MS σ 0 S) (hq : q < NP S.1) : OK (MX12_rankWith σ ρ 92 (iI q)) (fun o => ∃ (n n1 : Nat) (M' M1 : Nat → Nat → Int), o.1 = iI n1 ∧ RI S.1 S.2.1.length 6 n 6 (mkM S.1 S.2.1) M' ∧ RI S.1 (n + 1) 6 n1 6 (fun r i => if r = n then mk S.1 q i else M' r i) M1 ∧ o.2 92 7 = iI S.1 ∧ Fr QP σ o.2) := by
  have hN := NP_le hS.1
  refine rw_loop hρ hS hM (fun s h1 h2 h3 => ?_)
  have hl := hS.2.1
  unfold BX12_rankWith_46
  refine OK.bi (m_rank (W := 6) hρ hS.1 h3 hl (by omega) h1) ?_
  rintro ⟨c, s'⟩ ⟨n, M', q1, q2, q3, q4⟩
  have n1 := q2.1
  have n2 := q2.2.1
  dsimp only at q1 q3 q4 ⊢
  rw [bn_eq, if_neg (by rw [show (-1 : Int32) = iI (-1) from rfl, iI_eq (rgN (by omega)) ⟨by omega, by omega⟩]; omega), q1]
  have h3' : s' 92 7 = iI S.1 := by rw [q4 92 7 (by unfold RX; decide)]; exact h3
  refine OK.bi (m_laysMark hρ hS.1 h3' (r := n) (by omega) hq) ?_
  intro s2 ⟨j1, j2, j3⟩
  rw [iI_succ]
  have h3'' : s2 92 7 = iI S.1 := by rw [j3 92 7 QX_7]; exact h3'
  refine OK.bi (m_rank (R := n + 1) (W := 6) (M := fun r i => if r = n then mk S.1 q i else M' r i) hρ hS.1 h3'' (by omega) (by omega) ?_) ?_
  · intro r hr c hc
    dsimp only
    by_cases e : r = n
    · rw [if_pos e, e]; exact ⟨j1 c hc, mk_nn hS.1⟩
    · rw [if_neg e, j2 _ (Or.inl (by omega))]; exact q3 r (by omega) c hc
  · rintro ⟨c3, s3⟩ ⟨n1, M1, t1, t2, t3, t4⟩
    exact OK.so ⟨n, n1, M', M1, t1, q2, t2, by rw [t4 92 7 (by unfold RX; decide)]; exact h3'', ((h2.tr (q4.mo (fun k i h => Or.inr (Or.inl h)))).tr (j3.mo (fun k i h => QX_QP h))).tr (t4.mo (fun k i h => Or.inr (Or.inl h)))⟩
/-- the vector that the reference lays for the free column -/
def wv (p : Nat) (M' : Nat → Nat → Int) (f k i : Nat) : Int := if i = f then 1 else if (if i < f then i else i - 1) < k then (-(M' (if i < f then i else i - 1) f)) % p else 0
theorem wv_nul {p R f : Nat} {M M' : Nat → Nat → Int} (hp : PR p) (h : RI p R 6 5 6 M M') (hf : f ≤ 5) (hM : ∀ k, k < 5 → ∀ j, j < 5 → M' k (if j < f then j else j + 1) = if k = j then 1 else 0) : nul p R 6 M (wv p M' f 5) := by
  obtain ⟨pc, q1, q2, q3, q4, -⟩ := RI_piv hp h
  refine q4 _ (fun r hr => ?_)
  have e : ∀ i, i < 6 → (wv p M' f 5 i - (1 * (if i = f then 1 else 0) + 1 * cmb 5 (fun k => (-(M' k f)) % p) (fun k i => if i = (if k < f then k else k + 1) then 1 else 0) i)) % (p : Int) = 0 := by
    intro i hi
    unfold wv cmb
    by_cases c : i = f
    · rw [if_pos c, if_pos c, sm_congr (G := fun _ => (0 : Int)) (fun k hk => by
        dsimp only
        rw [if_neg (by split <;> omega), Int.mul_zero]), sm_zero]
      simp
    · rw [if_neg c, if_neg c]
      have J : ∃ jj, (if i < f then i else i - 1) = jj ∧ jj < 5 ∧ i = (if jj < f then jj else jj + 1) := by
        by_cases ci : i < f
        · exact ⟨i, if_pos ci, by omega, by rw [if_pos ci]⟩
        · exact ⟨i - 1, if_neg ci, by omega, by rw [if_neg (by omega)]; omega⟩
      obtain ⟨jj, j1, j2, j3⟩ := J
      rw [j1, if_pos j2, sm_one (k := jj) j2 (fun k hk hne => by
        dsimp only
        rw [if_neg (fun z => hne (by rw [j3] at z; split at z <;> split at z <;> omega)), Int.mul_zero])]
      dsimp only
      rw [if_pos j3]
      generalize (-(M' jj f)) % (p : Int) = z
      exact z_of (show (0 : Int) % p = 0 by simp) (by omega)
  rw [eqm.mpr (dot_lin (u := M' r) e), dot_one (by omega), dot_cmb]
  have e2 : sm (fun k => (-(M' k f)) % (p : Int) * dot 6 (M' r) (fun i => if i = (if k < f then k else k + 1) then 1 else 0)) 5 = (-(M' r f)) % p := by
    rw [sm_one (k := r) hr (fun k hk hne => by rw [dot_one (by split <;> omega), hM r hr k hk, if_neg (Ne.symm hne), Int.mul_zero]), dot_one (by split <;> omega), hM r hr r hr, if_pos rfl, Int.mul_one]
  rw [e2]
  exact z_of (em_sub (p := (p : Int)) (x := -(M' r f))) (by grind)
def QO (k i : Nat) : Prop := QP k i ∨ k = 98
theorem wv_nn {p f k i : Nat} {M' : Nat → Nat → Int} (hp : PR p) : 0 ≤ wv p M' f k i ∧ wv p M' f k i < p := by
  have hp3 := hp.le
  unfold wv
  generalize (if i < f then i else i - 1) = jj
  by_cases c : i = f
  · rw [if_pos c]; omega
  · rw [if_neg c]
    by_cases c2 : jj < k
    · rw [if_pos c2]; exact emod_nn (by omega)
    · rw [if_neg c2]; omega
set_option maxHeartbeats 1000000 in
theorem m_hasOne {σ : Sto} {ρ : Rho} {S : Sheet} (hρ : Md ρ) (hS : SOK S) (hM : MS σ 0 S) : OK (MX12_hasOne σ ρ 92) (fun o => Fr QO σ o.2 ∧ ∃ (n : Nat) (M' : Nat → Nat → Int), RI S.1 S.2.1.length 6 n 6 (mkM S.1 S.2.1) M' ∧ ((n ≠ 5 ∧ o.1 = 0) ∨ (n = 5 ∧ o.1 = 1 ∧ ∃ w, One S.1 (Vm S.1 S.2.1) w ∧ FI o.2 98 w))) := by
  have hp := hS.1
  obtain ⟨hp3, hp23⟩ := hp.le
  have hrp : rg32 (S.1 : Int) := ⟨by omega, by omega⟩
  have h12 := hρ.2.2.2.2.1
  have h13 := hρ.2.2.2.2.2.1
  unfold MX12_hasOne
  refine OK.bi (m_rank0 hρ hS hM) ?_
  rintro ⟨c, s0⟩ ⟨n, M', q1, q2, q3, q7, q4⟩
  have n2 := q2.2.1
  have n1 := q2.1
  dsimp only at q1 q3 q4 q7 ⊢
  rw [bn_eq, q1]
  by_cases c5 : n = 5
  · subst c5
    rw [if_pos (show iI ((5 : Nat) : Int) = 5 from rfl), bn_eq]
    obtain ⟨f, f1, f2, f3, f4⟩ := rref5 q2
    have r1 : ∀ j, j < 5 → s0 97 (6 * j + j) = iI (M' j j) ∧ 0 ≤ M' j j ∧ M' j j < S.1 := fun j hj => q3 j (by omega) j (by omega)
    refine run_g (S := Unit) (call := fun (g : Sto → Int32 → Option (Int32 × Sto)) _ (k : Nat) => g s0 (iI k)) (N := f) (I := fun k _ => True) (Post := fun o => OK o _) ?_ ?_ (by unfold FU; omega) (k0 := 0) (by omega) (s := ()) trivial
    · intro g _ _
      have hk41 : FX12_hasOne_15 ρ 92 (BX12_hasOne_41 ρ 92) g s0 (iI f) = BX12_hasOne_41 ρ 92 s0 (iI f) := by
        unfold FX12_hasOne_15
        by_cases c : f = 5
        · subst c; rw [if_pos (by decide)]
        · obtain ⟨a1, a2, a3⟩ := r1 f (by omega)
          rw [if_neg (by rw [w5, iI_leN (by omega) (by omega)]; omega), h12, ob_some, ag97c (by omega) (by omega), ob_some, a1, if_neg]
          rw [show (1 : Int32) = iI 1 from rfl, iI_eq ⟨by omega, by omega⟩ ⟨by omega, by omega⟩]
          exact f3 (by omega)
      show OK (FX12_hasOne_15 ρ 92 (BX12_hasOne_41 ρ 92) g s0 (iI f)) _
      rw [hk41]
      unfold BX12_hasOne_41
      rw [bn_eq]
      refine run_g (S := Sto) (call := fun (g : Sto → Int32 → Int32 → Option (Int32 × Sto)) s (k : Nat) => g s (iI f) (iI k)) (N := 6) (I := fun k s => (∀ i, i < k → s 98 i = iI (wv S.1 M' f 0 i)) ∧ Fr (fun k _ => k = 98) s0 s) (Post := fun o => OK o _) ?_ ?_ (by unfold FU; omega) (k0 := 0) (by omega) (s := s0) ⟨fun i hi => by omega, Fr.rf⟩
      · intro g2 s2 ⟨i1, i2⟩
        show OK (FX12_hasOne_43 ρ 92 (BX12_hasOne_71 ρ 92) g2 s2 (iI f) (iI (6 : Nat))) _
        unfold FX12_hasOne_43
        rw [if_pos (by decide)]
        unfold BX12_hasOne_71
        rw [bn_eq]
        refine run_g (S := Sto) (call := fun (g : Sto → Int32 → Int32 → Option (Int32 × Sto)) s (k : Nat) => g s (iI f) (iI k)) (N := 5) (I := fun k s => FI s 98 (wv S.1 M' f k) ∧ Fr (fun k _ => k = 98) s0 s) (Post := fun o => OK o _) ?_ ?_ (by unfold FU; omega) (k0 := 0) (by omega) (s := s2) ⟨i1, i2⟩
        · intro g3 s3 ⟨j1, j2⟩
          show OK (FX12_hasOne_73 ρ 92 (BX12_hasOne_117 ρ 92) g3 s3 (iI f) (iI (5 : Nat))) _
          unfold FX12_hasOne_73
          rw [if_pos (by decide)]
          unfold BX12_hasOne_117
          rw [bn_eq]
          have h73 : s3 92 7 = iI S.1 := by rw [j2 92 7 (by decide)]; exact q7
          -- the first that is not nought
          have L : ∃ l, l < 6 ∧ wv S.1 M' f 5 l ≠ 0 ∧ ∀ j, j < l → wv S.1 M' f 5 j = 0 := by
            cases e : fs (fun i => decide (wv S.1 M' f 5 i ≠ 0)) 6 with
            | none =>
              have := fs_none.mp e f (by omega)
              have e1 : wv S.1 M' f 5 f = 1 := by unfold wv; rw [if_pos rfl]
              simp [e1] at this
            | some l =>
              obtain ⟨a, b, c⟩ := fs_some e
              exact ⟨l, a, of_decide_eq_true b, fun j hj => by have := of_decide_eq_false (c j hj); omega⟩
          obtain ⟨l, l1, l2, l3⟩ := L
          have bw := fun i => wv_nn (f := f) (k := 5) (i := i) (M' := M') hp
          refine run_g (S := Unit) (call := fun (g : Sto → Int32 → Option (Int32 × Sto)) _ (k : Nat) => g s3 (iI k)) (N := l) (I := fun k _ => True) (Post := fun o => OK o _) ?_ ?_ (by unfold FU; omega) (k0 := 0) (by omega) (s := ()) trivial
          · intro g4 _ _
            show OK (FX12_hasOne_119 ρ 92 (BX12_hasOne_134 ρ 92) g4 s3 (iI l)) _
            unfold FX12_hasOne_119 BX12_hasOne_134
            have bl := bw l
            have iv1 := m_inverse (σ := s3) (v := (wv S.1 M' f 5 l).toNat) hp h73 (by omega) (by omega)
            have iv2 := iv_ok (v := (wv S.1 M' f 5 l).toNat) hp (by omega) (by omega)
            rw [show (((wv S.1 M' f 5 l).toNat : Nat) : Int) = wv S.1 M' f 5 l by omega] at iv1
            have ivm : wv S.1 M' f 5 l * (iv S.1 (wv S.1 M' f 5 l).toNat : Int) % S.1 = 1 := by
              have := iv2.2.2.1
              have h3 : (((wv S.1 M' f 5 l).toNat * iv S.1 (wv S.1 M' f 5 l).toNat % S.1 : Nat) : Int) = 1 := by rw [this]; rfl
              rw [Int.natCast_emod, Int.natCast_mul, show (((wv S.1 M' f 5 l).toNat : Nat) : Int) = wv S.1 M' f 5 l by omega] at h3
              exact h3
            rw [h13, ob_some, ag98i (by omega) (by omega), ob_some, show ((l : Int)).toNat = l from rfl, j1 l l1, if_neg (fun z => l2 ((iI_z bl.1 (by omega)).mp z)), ob_some, ag98i (by omega) (by omega), ob_some, show ((l : Int)).toNat = l from rfl, j1 l l1, iv1, ob_some, bn_eq, bn_eq]
            generalize hK : iv S.1 (wv S.1 M' f 5 l).toNat = K at *
            refine run_g (S := Sto) (call := fun (g : Sto → Int32 → Int32 → Option (Int32 × Sto)) s (k : Nat) => g s (iI K) (iI k)) (N := 6) (I := fun k s => FI s 98 (fun i => if i < k then wv S.1 M' f 5 i * K % S.1 else wv S.1 M' f 5 i) ∧ Fr (fun k _ => k = 98) s0 s) (Post := fun o => OK o _) ?_ ?_ (by unfold FU; omega) (k0 := 0) (by omega) (s := s3) ⟨fun i hi => by dsimp only; rw [if_neg (by omega)]; exact j1 i hi, j2⟩
            · intro g5 s5 ⟨t1, t2⟩
              show OK (FX12_hasOne_149 ρ 92 g5 s5 (iI K) (iI (6 : Nat))) _
              unfold FX12_hasOne_149
              rw [if_pos (by decide), zr1]
              refine OK.so ⟨(q4.mo (fun k i h => Or.inl h)).tr (t2.mo (fun k i h => Or.inr h)), 5, M', q2, Or.inr ⟨rfl, rfl, fun i => wv S.1 M' f 5 i * K % S.1, ⟨?_, ?_, ?_⟩, ?_⟩⟩
              · refine Vm_lin (a := (K : Int)) (b := 0) (x := wv S.1 M' f 5) (y := wv S.1 M' f 5) (nul_Vm.mp (wv_nul hp q2 f1 f4)) (nul_Vm.mp (wv_nul hp q2 f1 f4)) (fun i hi => ?_)
                exact z_of (em_sub (p := (S.1 : Int)) (x := wv S.1 M' f 5 i * K)) (by grind)
              · intro i hi; exact emod_nn (by omega)
              · refine ⟨l, l1, ivm, fun j hj => ?_⟩
                dsimp only
                rw [l3 j hj, Int.zero_mul]; simp
              · intro i hi
                have := t1 i hi
                dsimp only at this
                rw [if_pos hi] at this
                exact this
            · intro g5 s5 k ⟨t1, t2⟩ hk ih
              show OK (FX12_hasOne_149 ρ 92 g5 s5 (iI K) (iI k)) _
              have tk := t1 k hk
              dsimp only at tk
              rw [if_neg (Nat.lt_irrefl k)] at tk
              have bk := bw k
              have h75 : s5 92 7 = iI S.1 := by rw [t2 92 7 (by decide)]; exact q7
              have hm1 : 0 ≤ wv S.1 M' f 5 k * K := Int.mul_nonneg bk.1 (by omega)
              have hm2 : wv S.1 M' f 5 k * K ≤ 23 * 23 := Int.mul_le_mul (by omega) (by omega) (by omega) (by decide)
              unfold FX12_hasOne_149
              rw [if_neg (by rw [w6, iI_leN (by omega) (by omega)]; omega), h13, ob_some, ob_some, ag98i (by omega) (by omega), ob_some, show ((k : Int)).toNat = k from rfl, tk, h75, iI_mul, rmi_iI ⟨by omega, by omega⟩ hrp (by omega), ob_some, ap98i (by omega) (by omega), ob_some, show ((k : Int)).toNat = k from rfl, bn_eq, iI_succ, Int.tmod_eq_emod_of_nonneg hm1]
              refine ih _ ⟨fun i hi => ?_, t2.tr (Fr.su (S := fun k _ => k = 98) rfl)⟩
              dsimp only
              by_cases c : i = k
              · rw [c, su_s, if_pos (by omega)]
              · rw [su_i c, t1 i hi]
                dsimp only
                by_cases c2 : i < k
                · rw [if_pos c2, if_pos (by omega)]
                · rw [if_neg c2, if_neg (by omega)]
          · intro g4 _ k _ hk ih
            show OK (FX12_hasOne_119 ρ 92 (BX12_hasOne_134 ρ 92) g4 s3 (iI k)) _
            unfold FX12_hasOne_119
            rw [h13, ob_some, ag98i (by omega) (by omega), ob_some, show ((k : Int)).toNat = k from rfl, j1 k (by omega), l3 k hk, if_pos (show iI 0 = 0 from rfl), bn_eq, iI_succ]
            exact ih () trivial
        · intro g3 s3 k ⟨j1, j2⟩ hk ih
          show OK (FX12_hasOne_73 ρ 92 (BX12_hasOne_117 ρ 92) g3 s3 (iI f) (iI k)) _
          have h73 : s3 92 7 = iI S.1 := by rw [j2 92 7 (by decide)]; exact q7
          obtain ⟨x1, x2, x3⟩ := q3 k (by omega) f (by omega)
          have x1' : s3 97 (6 * k + f) = iI (M' k f) := by rw [j2 97 _ (show ¬ (97 : Nat) = 98 by decide)]; exact x1
          have fin : ∀ t : Nat, t < 6 → t = (if k < f then k else k + 1) → FI (su s3 98 t (iI ((-(M' k f)) % S.1))) 98 (wv S.1 M' f (k + 1)) := by
            intro t ht ht2 i hi
            by_cases c : i = t
            · rw [c, su_s]
              unfold wv
              rw [if_neg (by rw [ht2]; split <;> omega)]
              have e : (if t < f then t else t - 1) = k := by
                rw [ht2]
                by_cases ck : k < f
                · rw [if_pos ck, if_pos ck]
                · rw [if_neg ck, if_neg (by omega)]; omega
              rw [e, if_pos (by omega)]
            · rw [su_i c, j1 i hi]
              unfold wv
              by_cases c2 : i = f
              · rw [if_pos c2, if_pos c2]
              · rw [if_neg c2, if_neg c2]
                have e : (if i < f then i else i - 1) ≠ k := fun z => c (by
                  rw [ht2]
                  by_cases ci : i < f
                  · rw [if_pos ci] at z; rw [if_pos (by omega)]; omega
                  · rw [if_neg ci] at z; rw [if_neg (by omega)]; omega)
                generalize (if i < f then i else i - 1) = jj at *
                by_cases c3 : jj < k
                · rw [if_pos c3, if_pos (show jj < k + 1 by omega)]
                · rw [if_neg c3, if_neg (show ¬ jj < k + 1 by omega)]
          unfold FX12_hasOne_73 BX12_hasOne_94
          rw [if_neg (by rw [w5, iI_leN (by omega) (by omega)]; omega), h13, ob_some]
          by_cases c : f ≤ k
          · rw [if_pos (by rw [iI_leN (by omega) (by omega)]; exact c), h12, ob_some, ag97c (by omega) (by omega), ob_some, x1', iI_neg, m_rest hp h73 ⟨by omega, by omega⟩, ob_some, iI_succ, ap98i (by omega) (by omega), ob_some, bn_eq]
            exact ih _ ⟨fin (k + 1) (by omega) (by rw [if_neg (by omega)]), j2.tr (Fr.su (S := fun k _ => k = 98) rfl)⟩
          · rw [if_neg (by rw [iI_leN (by omega) (by omega)]; exact c), h12, ob_some, ag97c (by omega) (by omega), ob_some, x1', iI_neg, m_rest hp h73 ⟨by omega, by omega⟩, ob_some, ap98i (by omega) (by omega), ob_some, bn_eq, iI_succ]
            exact ih _ ⟨fin k (by omega) (by rw [if_pos (by omega)]), j2.tr (Fr.su (S := fun k _ => k = 98) rfl)⟩
      · intro g2 s2 k ⟨i1, i2⟩ hk ih
        show OK (FX12_hasOne_43 ρ 92 (BX12_hasOne_71 ρ 92) g2 s2 (iI f) (iI k)) _
        unfold FX12_hasOne_43 BX12_hasOne_64
        rw [if_neg (by rw [w6, iI_leN (by omega) (by omega)]; omega), h13, ob_some]
        have wz : ∀ i, wv S.1 M' f 0 i = if i = f then 1 else 0 := fun i => by
          unfold wv
          by_cases c : i = f
          · rw [if_pos c, if_pos c]
          · rw [if_neg c, if_neg c, if_neg (by omega)]
        have fin : ∀ x : Int, x = (if k = f then 1 else 0) → (∀ i, i < k + 1 → su s2 98 k (iI x) 98 i = iI (wv S.1 M' f 0 i)) := by
          intro x hx i hi
          by_cases c : i = k
          · rw [c, su_s, wz, hx]
          · rw [su_i c]; exact i1 i (by omega)
        by_cases c : k = f
        · rw [if_pos (by rw [c]), show (1 : Int32) = iI 1 from rfl, ap98i (by omega) (by omega), ob_some, bn_eq, show iI 1 = (1 : Int32) from rfl, iI_succ]
          exact ih _ ⟨fin 1 (by rw [if_pos c]), i2.tr (Fr.su (S := fun k _ => k = 98) rfl)⟩
        · rw [if_neg (by rw [iI_eqN (by omega) (by omega)]; exact c), show (0 : Int32) = iI 0 from rfl, ap98i (by omega) (by omega), ob_some, bn_eq, iI_succ]
          exact ih _ ⟨fin 0 (by rw [if_neg c]), i2.tr (Fr.su (S := fun k _ => k = 98) rfl)⟩
    · intro g _ k _ hk ih
      show OK (FX12_hasOne_15 ρ 92 (BX12_hasOne_41 ρ 92) g s0 (iI k)) _
      obtain ⟨a1, a2, a3⟩ := r1 k (by omega)
      unfold FX12_hasOne_15
      rw [if_neg (by rw [w5, iI_leN (by omega) (by omega)]; omega), h12, ob_some, ag97c (by omega) (by omega), ob_some, a1, f2 k hk, if_pos (show iI 1 = 1 from rfl), bn_eq, iI_succ]
      exact ih () trivial
  · rw [if_neg (by rw [w5, iI_eqN (by omega) (by omega)]; exact c5), zr0]
    exact OK.so ⟨q4.mo (fun k i h => Or.inl h), n, M', q2, Or.inl ⟨c5, rfl⟩⟩
