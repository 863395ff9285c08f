/-! TEXT: the whole of it -/
def D0 : Sheet := (7, [], fun i => if i % 6 = 0 then 1 else 0)
theorem SOK_D0 : SOK D0 := by
  refine ⟨Or.inr (Or.inr (Or.inl rfl)), Nat.zero_le _, List.nodup_nil, fun q hq => absurd hq List.not_mem_nil, fun i _ => ?_, fun c _ => ⟨0, by omega, ?_⟩⟩
  · show bd (if i % 6 = 0 then 1 else 0) 99
    by_cases q : i % 6 = 0
    · rw [if_pos q]; exact ⟨by omega, by omega⟩
    · rw [if_neg q]; exact ⟨by omega, by omega⟩
  · show (if (6 * c + 0) % 6 = 0 then (1 : Int) else 0) ≠ 0
    rw [if_pos (by omega)]; decide
noncomputable def pTxt (T : Tp) : Nat → Sheet → Nat → Nat → Except Er (Sheet × Nat)
  | 0, D, _, n => .ok (D, n)
  | f + 1, D, a, n => if tkd T a = 0 then .ok (D, n) else match pLine T D a with
    | .error e => .error e
    | .ok d => pTxt T f d.1 d.2 (n + 1)
theorem nx_4 {T : Tp} {c : Nat} (h : tkd T c = 4) : nx T c = pl T c + 1 := by
  rcases @tk_cases T c with q | q | q | q
  · omega
  · omega
  · omega
  · unfold nx
    rw [if_neg q.1, q.2.1, if_neg (by decide), q.2.2.1, if_neg (by decide)]
theorem SOK_carry {D D' : Sheet} {w : Nat} {x : Int} {v : Nat → Int} (hS : SOK D) (hx : 0 ≤ x) (hc : can D w x) (h : carry D w x v = some D') : SOK D' := by
  have P : ∀ u : Nat → Int, x < 6 → putV D x.toNat u = some D' → SOK D' := by
    intro u h6 e
    unfold putV at e
    cases hz : zerB u with
    | true => rw [hz, if_pos rfl] at e; cases e
    | false =>
      rw [hz, if_neg (show ¬ (false = true) by decide)] at e
      cases hl : limB u with
      | false => rw [hl, if_neg (show ¬ (false = true) by decide)] at e; cases e
      | true =>
        rw [hl, if_pos rfl] at e
        rw [← Option.some.inj e]
        exact SOK_set hS (by omega) hz hl
  unfold carry at h
  unfold can at hc
  by_cases c0 : w = 0
  · rw [if_pos c0] at h hc
    by_cases q : x.toNat = D.1
    · rw [if_pos q] at h; rw [← Option.some.inj h]; exact hS
    · rw [if_neg q] at h; rw [← Option.some.inj h]; exact SOK_pr hS hc
  · rw [if_neg c0] at h hc
    by_cases c1 : w = 1
    · rw [if_pos c1] at h hc
      cases hk : mkF D.2.1 x.toNat with
      | some k => rw [hk] at h; cases h
      | none =>
        rw [hk] at h
        dsimp only at h
        by_cases c : D.2.1.length < 8
        · rw [if_pos c] at h
          rw [← Option.some.inj h]
          refine SOK_add hS c (by omega) (fun z => ?_)
          have := mkF_mem.mpr z
          rw [hk] at this
          cases this
        · rw [if_neg c] at h; cases h
    · rw [if_neg c1] at h hc
      by_cases c3 : w = 3
      · rw [if_pos c3] at h; exact P _ hc h
      · rw [if_neg c3] at h; exact P _ hc h
theorem pLine_ok {T : Tp} {D : Sheet} {a : Nat} {d : Sheet × Nat} (hS : SOK D) (ha : a ≤ T.2) (h : pLine T D a = .ok d) : SOK d.1 ∧ a < d.2 ∧ d.2 ≤ T.2 := by
  cases hw : wkO T a with
  | none => unfold pLine at h; rw [hw] at h; cases h
  | some w =>
    rw [pLine_B hw] at h
    have n1 := nx_le ha
    have p1 := pl_le ha
    have n2 := nx_le n1.2
    have p2 := pl_le n1.2
    unfold lineB at h
    by_cases c2 : tkd T (nx T a) = 2
    · have hv := vl_bd n1.2 c2
      rw [if_neg (fun z => z c2)] at h
      by_cases c3 : can D w (vl T (nx T a))
      · rw [cs_pos c3] at h
        have E : ∀ v c, nx T (nx T a) ≤ c → c ≤ T.2 → pEnd T D a w (vl T (nx T a)) (.ok (v, c)) = .ok d → SOK d.1 ∧ a < d.2 ∧ d.2 ≤ T.2 := by
          intro v c h1 h2 e
          unfold pEnd at e
          dsimp only at e
          by_cases c4 : tkd T c = 4
          · rw [if_neg (fun z => z c4)] at e
            cases hr : carry D w (vl T (nx T a)) v with
            | none => rw [hr] at e; cases e
            | some D' =>
              rw [hr] at e
              cases e
              have := nx_4 c4
              have := pl_le h2
              exact ⟨SOK_carry hS hv.1 c3 hr, by show a < nx T c; omega, (nx_le h2).2⟩
          · rw [if_pos c4] at e; cases e
        by_cases c5 : w = 2 ∨ w = 3
        · rw [if_pos c5] at h
          cases hr : pSix T (nx T (nx T a)) 6 with
          | error e => rw [hr] at h; unfold pEnd at h; cases h
          | ok z =>
            rw [hr] at h
            have := pSix_v hr n2.2
            exact E z.1 z.2 this.1.1 this.1.2 h
        · rw [if_neg c5] at h
          exact E _ _ (Nat.le_refl _) n2.2 h
      · rw [cs_neg c3] at h; cases h
    · rw [if_pos c2] at h; cases h
theorem tkd_end {T : Tp} {a : Nat} (ha : a ≤ T.2) (h : T.2 ≤ a) : tkd T a = 0 := by
  have := pl_le ha
  unfold tkd bb
  rw [if_pos (Bt_out (by omega))]
/-- the class reads -/
theorem rmi6 : ∀ i, i < 36 → rmi (iI ((i : Nat) : Int)) (6 : Int32) = some (iI ((i % 6 : Nat) : Int)) := by decide +kernel
theorem c_clear {σ : Sto} {ρ : Rho} {s : Nat} (hr : Sr ρ s) : OK (MX8_clear σ ρ s) (fun s' => CS s' s D0 ∧ ∀ k i, k ≠ s → k ≠ s + 2 → s' k i = σ k i) := by
  obtain ⟨r2, r3, l8, l36⟩ := hr
  unfold MX8_clear
  rw [bn_eq, bn_eq, bn_eq]
  refine run_g (S := Sto) (call := fun (g : Sto → Int32 → Option Sto) s (k : Nat) => g s (iI k)) (N := 36) (I := fun k τ => τ s 0 = 7 ∧ τ s 1 = 0 ∧ (∀ i, i < k → τ (s + 2) i = iI (D0.2.2 i)) ∧ ∀ k i, k ≠ s → k ≠ s + 2 → τ k i = σ k i) (Post := fun o => OK o _) ?_ ?_ (by unfold FU; omega) (k0 := 0) (by omega) (s := su (su σ s 0 7) s 1 0) ⟨by rw [su_i (by decide), su_s], su_s, fun i hi => by omega, fun k i h1 h2 => by rw [su_k h1, su_k h1]⟩
  · intro g τ ⟨i1, i2, i3, i4⟩
    show OK (FX8_clear_13 ρ s g τ (iI (36 : Nat))) _
    unfold FX8_clear_13
    rw [r3, ob_some, l36, if_pos (by decide)]
    exact OK.so ⟨⟨i1, i2, i3, fun k hk => absurd hk (Nat.not_lt_zero _)⟩, i4⟩
  · intro g τ k ⟨i1, i2, i3, i4⟩ hk ih
    show OK (FX8_clear_13 ρ s g τ (iI k)) _
    have fin : ∀ v : Int32, v = iI (D0.2.2 k) → OK (BX8_clear_39 ρ s g τ (iI k) (s + 2) (iI k) v) (fun s' => CS s' s D0 ∧ ∀ k i, k ≠ s → k ≠ s + 2 → s' k i = σ k i) := by
      intro v hv
      unfold BX8_clear_39
      rw [ap_ok (by omega) (by rw [l36]; omega) (by rw [l36]; omega), ob_some, bn_eq, iI_succ, show ((k : Int)).toNat = k from rfl]
      refine ih _ ⟨by rw [su_k (by omega)]; exact i1, by rw [su_k (by omega)]; exact i2, fun i hi => ?_, fun k' i' h1 h2 => by rw [su_k h2]; exact i4 k' i' h1 h2⟩
      by_cases q : i = k
      · subst q; rw [su_s]; exact hv
      · rw [su_i q]; exact i3 i (by omega)
    unfold FX8_clear_13
    rw [r3, ob_some, l36, if_neg (by rw [show Int32.ofNat 36 = iI ((36 : Nat) : Int) from rfl, iI_leN (by omega) (by omega)]; omega), ob_some, rmi6 k hk, ob_some]
    by_cases c : k % 6 = 0
    · rw [if_pos (by rw [c]; rfl)]
      exact fin 1 (by show (1 : Int32) = iI (if k % 6 = 0 then 1 else 0); rw [if_pos c]; rfl)
    · rw [if_neg (by rw [w0, iI_eqN (by omega) (by omega)]; exact c)]
      exact fin 0 (by show (0 : Int32) = iI (if k % 6 = 0 then 1 else 0); rw [if_neg c]; rfl)
def TQ (σ : Sto) (r : Except Er (Sheet × Nat)) (o : Int32 × Sto) : Prop := match r with
  | .error e => o.1 = -1 ∧ o.2 53 1 = iI e.1 ∧ o.2 53 2 = iI e.2 ∧ Fr RK σ o.2
  | .ok d => o.1 = iI d.2 ∧ o.2 53 1 = 0 ∧ o.2 53 2 = -1 ∧ CS o.2 54 d.1 ∧ SOK d.1 ∧ d.2 ≤ 500 ∧ Fr RK σ o.2
theorem c_readAll {σ : Sto} {ρ : Rho} {T : Tp} (hD : Dk ρ) (hT : TOK T) (h : CXr σ T) : OK (MX7_read σ ρ 53 5) (TQ σ (pTxt T 500 D0 0 0)) := by
  have hl := hT.1
  unfold MX7_read
  rw [dk_53_0 hD, ob_some]
  refine OK.bi (c_clear (s := 54) (Sr_54 hD)) ?_
  intro s ⟨g1, g2⟩
  rw [bn_eq, bn_eq, bn_eq, bn_eq, bn_eq]
  have fr : ∀ k i, k ≠ 53 → su (su (su s 53 1 0) 53 2 (-1)) 53 5 0 k i = s k i := fun k i hk => by rw [su_k hk, su_k hk, su_k hk]
  have z1 : CS (su (su (su s 53 1 0) 53 2 (-1)) 53 5 0) 54 D0 := CS_k g1 (fun i => fr _ _ (by decide)) (fun i => fr _ _ (by decide)) (fun i => fr _ _ (by decide))
  have z2 : su (su (su s 53 1 0) 53 2 (-1)) 53 5 0 53 5 = iI ((0 : Nat) : Int) := su_s
  have z3 : su (su (su s 53 1 0) 53 2 (-1)) 53 5 0 53 1 = 0 := by rw [su_i (by decide), su_i (by decide), su_s]
  have z4 : su (su (su s 53 1 0) 53 2 (-1)) 53 5 0 53 2 = -1 := by rw [su_i (by decide), su_s]
  have z5 : Fr RK σ (su (su (su s 53 1 0) 53 2 (-1)) 53 5 0) := by
    intro k i hn
    by_cases c : k = 53
    · subst c
      have hi : i < 1 := by unfold RK at hn; omega
      rw [su_i (by omega), su_i (by omega), su_i (by omega)]; exact g2 _ _ (by decide) (by decide)
    · rw [fr k i c]; exact g2 k i (fun e => hn (by unfold RK; omega)) (fun e => hn (by unfold RK; omega))
  generalize su (su (su s 53 1 0) 53 2 (-1)) 53 5 0 = t0 at z1 z2 z3 z4 z5 ⊢
  generalize hR : pTxt T 500 D0 0 0 = R
  refine run_g (S := Sto × Sheet × Nat) (call := fun (g : Sto → Int32 → Int32 → Option (Int32 × Sto)) s (k : Nat) => g s.1 (iI k) (iI k)) (N := 500) (I := fun n z => R = pTxt T (500 - n) z.2.1 z.2.2 n ∧ CS z.1 54 z.2.1 ∧ SOK z.2.1 ∧ z.2.2 ≤ T.2 ∧ z.1 53 5 = iI z.2.2 ∧ z.1 53 1 = 0 ∧ z.1 53 2 = -1 ∧ Fr RK σ z.1) (Post := fun o => OK o (TQ σ R)) ?_ ?_ (by unfold FU; omega) (k0 := 0) (by omega) (s := (t0, D0, 0)) ⟨hR.symm, z1, SOK_D0, Nat.zero_le _, z2, z3, z4, z5⟩
  · intro g ⟨t, D, a⟩ ⟨i1, i2, i3, i4, i5, i6, i7, i8⟩
    show OK (FX7_read_26 ρ 53 5 g t (iI (500 : Nat)) (iI (500 : Nat))) _
    unfold FX7_read_26
    rw [if_pos (by decide), i1]
    exact OK.so ⟨rfl, i6, i7, i2, i3, Nat.le_refl _, i8⟩
  · intro g ⟨t, D, a⟩ n ⟨i1, i2, i3, i4, i5, i6, i7, i8⟩ hn ih
    dsimp only at i1 i2 i3 i4 i5 i6 i7 i8
    show OK (FX7_read_26 ρ 53 5 g t (iI n) (iI n)) _
    have hk5 := @tkd_le T a
    have hX : CXr t T := CX_k h (fun k i hk => i8 k i (by unfold RK; omega))
    unfold FX7_read_26
    rw [if_neg (iI_500 hn)]
    refine OK.bi (c_advance hD hT hX i4 i5) ?_
    intro s1 ⟨k1, k2⟩
    have f1 : Fr RK σ s1 := i8.tr (rk_rj (rj_53 k2))
    have hC1 : CS s1 54 D := CS_k i2 (fun i => k2 _ _ (by unfold R53; omega)) (fun i => k2 _ _ (by unfold R53; omega)) (fun i => k2 _ _ (by unfold R53; omega))
    have e1 : s1 53 1 = 0 := (k2 _ _ (by unfold R53; omega)).trans i6
    have e2 : s1 53 2 = -1 := (k2 _ _ (by unfold R53; omega)).trans i7
    rw [show 500 - n = (499 - n) + 1 by omega] at i1
    unfold pTxt at i1
    rw [k1.2.1]
    by_cases c : tkd T a = 0
    · rw [if_pos c] at i1
      rw [if_pos (by rw [c]; rfl), i1]
      exact OK.so ⟨rfl, e1, e2, hC1, i3, by show n ≤ 500; omega, f1⟩
    · rw [if_neg c] at i1
      rw [if_neg (by rw [w0, iI_eqN (by omega) (by omega)]; exact c)]
      refine OK.bi (c_readLine hD hT (CX_53 hX k2) i4 k1 hC1 i3) ?_
      rintro ⟨y, s2⟩ o
      cases hr : pLine T D a with
      | error e =>
        rw [hr] at o i1
        obtain ⟨o1, o2, o3, o4⟩ := o
        dsimp only at o1 i1 ⊢
        rw [o1, if_pos rfl, i1]
        exact OK.so ⟨rfl, o2, o3, f1.tr o4⟩
      | ok d =>
        rw [hr] at o i1
        obtain ⟨o1, o2, o3, o4⟩ := o
        have hd := pLine_ok i3 i4 hr
        dsimp only at o1 i1 ⊢
        rw [o1, if_neg ne10, bn_eq, bn_eq, iI_succ]
        refine ih (s2, d.1, d.2) ⟨?_, o2, hd.1, hd.2.2, o3, (o4 _ _ (by unfold RJ; omega)).trans e1, (o4 _ _ (by unfold RJ; omega)).trans e2, f1.tr (rk_rj o4)⟩
        rw [i1, show 500 - (n + 1) = 499 - n by omega]
noncomputable def aText (A : AS) : Int32 × AS := match pTxt (A.1.2.1, A.1.2.2.1) 500 D0 0 0 with
  | .error e => (-1, ((A.1.1, A.1.2.1, 0, iI e.1, iI e.2, A.1.2.2.2.2.2), A.2))
  | .ok d => (iI d.2, ((d.1, A.1.2.1, 0, 0, -1, A.1.2.2.2.2.2), [], A.2.2))
theorem k_text {σ : Sto} {ρ : Rho} {A : AS} (hD : Dk ρ) (hA : AOK A) (h : KR σ A) : OK (MX11_text σ ρ 0) (fun o => Kq σ (aText A) o ∧ AOK (aText A).2) := by
  have hT : TOK (A.1.2.1, A.1.2.2.1) := ⟨hA.1.2.1, hA.1.2.2⟩
  have hX : CXr σ (A.1.2.1, A.1.2.2.1) := ⟨h.1.2.1, h.1.2.2.1⟩
  unfold MX11_text aText
  rw [dk_0_4 hD, ob_some, dk_0_0 hD, ob_some, dk_1_1 hD, ob_some]
  refine OK.bi (c_readAll hD hT hX) ?_
  rintro ⟨y, s⟩ o
  rw [bn_eq, ob_some, dk_1_1 hD, ob_some, bn_eq, ob_some, ob_some, bn_eq, ob_some, ob_some, bn_eq]
  dsimp only
  rw [su_k (show (53 : Nat) ≠ 5 by decide), su_k (show (53 : Nat) ≠ 1 by decide), su_k (show (53 : Nat) ≠ 5 by decide)]
  obtain ⟨hm, hp, hi⟩ := id h
  have fr : ∀ k i, k ≠ 1 → k ≠ 5 → su (su (su s 5 1 0) 1 2 (s 53 1)) 1 3 (s 53 2) k i = s k i := fun k i h1 h5 => by rw [su_k h1, su_k h1, su_k h5]
  have t12 : su (su (su s 5 1 0) 1 2 (s 53 1)) 1 3 (s 53 2) 1 2 = s 53 1 := by rw [su_i (by decide), su_s]
  have t13 : su (su (su s 5 1 0) 1 2 (s 53 1)) 1 3 (s 53 2) 1 3 = s 53 2 := su_s
  have t14 : ∀ i, i ≠ 2 → i ≠ 3 → su (su (su s 5 1 0) 1 2 (s 53 1)) 1 3 (s 53 2) 1 i = s 1 i := fun i h2 h3 => by rw [su_i h3, su_i h2, su_k (by decide)]
  have t51 : su (su (su s 5 1 0) 1 2 (s 53 1)) 1 3 (s 53 2) 5 1 = 0 := by rw [su_k (by decide), su_k (by decide), su_s]
  generalize su (su (su s 5 1 0) 1 2 (s 53 1)) 1 3 (s 53 2) = t at fr t12 t13 t14 t51 ⊢
  cases hr : pTxt (A.1.2.1, A.1.2.2.1) 500 D0 0 0 with
  | error e =>
    rw [hr] at o
    obtain ⟨o1, o2, o3, o4⟩ := o
    dsimp only at o1 o2 o3 o4 ⊢
    have F : ∀ k i, k ≠ 1 → k ≠ 5 → (k < 53 ∨ 58 < k) → t k i = σ k i := fun k i h1 h5 h53 => (fr k i h1 h5).trans (o4 k i (by unfold RK; omega))
    rw [o1, if_pos rfl]
    have key : KR t ((A.1.1, A.1.2.1, 0, iI e.1, iI e.2, A.1.2.2.2.2.2), A.2) := by
      refine ⟨⟨CS_k hm.1 (fun i => F _ _ (by decide) (by decide) (by omega)) (fun i => F _ _ (by decide) (by decide) (by omega)) (fun i => F _ _ (by decide) (by decide) (by omega)), t51, fun i hi => by rw [F _ _ (by decide) (by decide) (by omega)]; exact hm.2.2.1 i hi, t12.trans o2, t13.trans o3, ?_, ?_⟩, KP_fr (L := A.2.1) hp (fun k i a b => F k i (by omega) (by omega) (by omega)), KI_fr (im := A.2.2) hi (fun k i a b => F k i (by omega) (by omega) (by omega))⟩
      · show t 1 4 = A.1.2.2.2.2.2.1
        rw [t14 4 (by decide) (by decide), o4 1 4 (by unfold RK; omega)]; exact hm.2.2.2.2.2.1
      · show t 1 5 = A.1.2.2.2.2.2.2
        rw [t14 5 (by decide) (by decide), o4 1 5 (by unfold RK; omega)]; exact hm.2.2.2.2.2.2
    have key2 : AOK ((A.1.1, A.1.2.1, 0, iI e.1, iI e.2, A.1.2.2.2.2.2), A.2) := ⟨⟨hA.1.1, Nat.zero_le _, hA.1.2.2⟩, hA.2⟩
    exact OK.so ⟨⟨rfl, key, fun k i hk => F k i (by unfold CL at hk; omega) (by unfold CL at hk; omega) (by unfold CL at hk; omega)⟩, key2⟩
  | ok d =>
    rw [hr] at o
    obtain ⟨o1, o2, o3, o4, o5, o6, o7⟩ := o
    dsimp only at o1 o2 o3 o4 o5 o6 o7 ⊢
    have F : ∀ k i, k ≠ 1 → k ≠ 5 → (k < 53 ∨ 58 < k) → t k i = σ k i := fun k i h1 h5 h53 => (fr k i h1 h5).trans (o7 k i (by unfold RK; omega))
    rw [o1, if_neg (by rw [show (-1 : Int32) = iI (-1) from rfl, iI_eq ⟨by omega, by omega⟩ ⟨by omega, by omega⟩]; omega), ob_some, dk_1_0 hD, ob_some, ob_some, dk_53_0 hD, ob_some]
    have hC : CS t 54 d.1 := CS_k o4 (fun i => fr _ _ (by decide) (by decide)) (fun i => fr _ _ (by decide) (by decide)) (fun i => fr _ _ (by decide) (by decide))
    refine OK.bi (c_copyS (d := 2) (s := 54) (Sr_54 hD) (Sr_2 hD) (by omega) o5.2.1 hC) ?_
    intro u ⟨u1, u2⟩
    unfold MX5_forget
    rw [dk_0_1 hD, ob_some, bn_eq, ob_some]
    have G : ∀ k i, k ≠ 1 → k ≠ 5 → k ≠ 7 → ¬ (2 ≤ k ∧ k ≤ 4) → (k < 53 ∨ 58 < k) → su u 7 2 0 k i = σ k i := fun k i h1 h5 h7 h2 h53 => by rw [su_k h7, u2 k i (by omega) (by omega) (by omega)]; exact F k i h1 h5 h53
    have U : ∀ k i, k ≠ 7 → ¬ (2 ≤ k ∧ k ≤ 4) → su u 7 2 0 k i = t k i := fun k i h7 h2 => by rw [su_k h7, u2 k i (by omega) (by omega) (by omega)]
    obtain ⟨nx', p1, p2, p3, p4⟩ := hp
    have key : KR (su u 7 2 0) ((d.1, A.1.2.1, 0, 0, -1, A.1.2.2.2.2.2), [], A.2.2) := by
      refine ⟨⟨CS_k u1 (fun i => su_k (by decide)) (fun i => su_k (by decide)) (fun i => su_k (by decide)), (U _ _ (by decide) (by omega)).trans t51, fun i hi => ?_, ?_, ?_, ?_, ?_⟩, ⟨nx', p1, ?_, su_s, fun i hi => absurd hi (Nat.not_lt_zero _)⟩, KI_fr (im := A.2.2) hi (fun k i a b => G k i (by omega) (by omega) (by omega) (by omega) (by omega))⟩
      · show su u 7 2 0 6 i &&& 255 = _
        rw [G _ _ (by decide) (by decide) (by decide) (by omega) (by omega)]; exact hm.2.2.1 i hi
      · show su u 7 2 0 1 2 = 0
        rw [U _ _ (by decide) (by omega), t12]; exact o2
      · show su u 7 2 0 1 3 = -1
        rw [U _ _ (by decide) (by omega), t13]; exact o3
      · show su u 7 2 0 1 4 = A.1.2.2.2.2.2.1
        rw [U _ _ (by decide) (by omega), t14 4 (by decide) (by decide), o7 1 4 (by unfold RK; omega)]; exact hm.2.2.2.2.2.1
      · show su u 7 2 0 1 5 = A.1.2.2.2.2.2.2
        rw [U _ _ (by decide) (by omega), t14 5 (by decide) (by decide), o7 1 5 (by unfold RK; omega)]; exact hm.2.2.2.2.2.2
      · rw [su_i (by decide), u2 7 1 (by decide) (by decide) (by decide)]
        exact (F 7 1 (by decide) (by decide) (by omega)).trans p2
    have key2 : AOK ((d.1, A.1.2.1, 0, 0, -1, A.1.2.2.2.2.2), [], A.2.2) := ⟨⟨o5, Nat.zero_le _, hA.1.2.2⟩, fun S hS => absurd hS List.not_mem_nil, Nat.zero_le _, hA.2.2.2⟩
    exact OK.so ⟨⟨rfl, key, fun k i hk => G k i (by unfold CL at hk; omega) (by unfold CL at hk; omega) (by unfold CL at hk; omega) (by unfold CL at hk; omega) (by unfold CL at hk; omega)⟩, key2⟩
