/-! TEXT: the class's lines, the rest -/
theorem Sr_54 {ρ : Rho} (h : Dk ρ) : Sr ρ 54 := ⟨dk_54_2 h, dk_54_3 h, by decide +kernel, by decide +kernel⟩
theorem bd_0 : bd 0 99 := ⟨by omega, by omega⟩
def K5 (k _i : Nat) : Prop := 54 ≤ k ∧ k ≤ 58
theorem rj_K5 {σ s : Sto} (h : Fr K5 σ s) : Fr RJ σ s := h.mo (fun k i h => by unfold K5 at h; unfold RJ; omega)
theorem c_canBe {σ : Sto} {ρ : Rho} {D : Sheet} {w : Nat} {x : Int} (hD : Dk ρ) (hC : CS σ 54 D) (hS : SOK D) (hw : w < 4) (hx : 0 ≤ x ∧ x ≤ 999) : (can D w x ∧ OK (MX7_canBe σ ρ 53 (iI w) (iI x)) (fun o => o.1 = 1 ∧ ∀ k i, k ≠ 58 → o.2 k i = σ k i)) ∨ (¬ can D w x ∧ OK (MX7_canBe σ ρ 53 (iI w) (iI x)) (fun o => o.1 = 0 ∧ ∀ k i, k ≠ 58 → o.2 k i = σ k i)) := by
  have hr : rg32 x := ⟨by omega, by omega⟩
  unfold MX7_canBe can
  by_cases c0 : w = 0
  · rw [if_pos (show iI (w : Int) = (0 : Int32) by rw [c0]; rfl), if_pos c0]
    rcases k_isPrime hr with ⟨a, e⟩ | ⟨a, e⟩
    · rw [e, ob_some, zr1]; exact Or.inl ⟨a, OK.so ⟨rfl, fun _ _ _ => rfl⟩⟩
    · rw [e, ob_some, zr0]; exact Or.inr ⟨a, OK.so ⟨rfl, fun _ _ _ => rfl⟩⟩
  · rw [if_neg (show ¬ (iI (w : Int) = (0 : Int32)) by rw [w0, iI_eqN (by omega) (by omega)]; exact c0), if_neg c0]
    by_cases c1 : w = 1
    · rw [if_pos (show iI (w : Int) = (1 : Int32) by rw [c1]; rfl), if_pos c1, dk_53_4 hD, ob_some, dk_53_0 hD, ob_some, hC.1]
      rcases k_take (σ := σ) (t := 58) hS.1 hr with ⟨a, e⟩ | ⟨a, e⟩
      · rw [e, ob_some, zr1]; exact Or.inl ⟨a.2, OK.so ⟨rfl, fun k i hk => T3_k hk⟩⟩
      · rw [e, ob_some, zr0]; exact Or.inr ⟨fun z => a ⟨hx.1, z⟩, OK.so ⟨rfl, fun _ _ _ => rfl⟩⟩
    · rw [if_neg (show ¬ (iI (w : Int) = (1 : Int32)) by rw [w1, iI_eqN (by omega) (by omega)]; exact c1), if_neg c1]
      rcases k_isConic hr with ⟨a, e⟩ | ⟨a, e⟩
      · rw [e, ob_some, zr1]; exact Or.inl ⟨a.2, OK.so ⟨rfl, fun _ _ _ => rfl⟩⟩
      · rw [e, ob_some, zr0]; exact Or.inr ⟨fun z => a ⟨hx.1, z⟩, OK.so ⟨rfl, fun _ _ _ => rfl⟩⟩
def YQ (σ : Sto) (r : Option Sheet) (o : Int32 × Sto) : Prop := Fr K5 σ o.2 ∧ match r with
  | none => o.1 = 0
  | some D' => o.1 = 1 ∧ CS o.2 54 D'
theorem mulV_rg {v : Nat → Int} (h : ∀ i, bd (v i) 99) : ∀ i, i < 6 → rg32 (mulV v i) := by
  intro i hi
  unfold mulV
  rcases six hi with rfl | rfl | rfl | rfl | rfl | rfl
  · exact bd_rg (bd_mul (h 0) (h 3)) (by decide)
  · exact bd_rg (bd_mul (h 1) (h 4)) (by decide)
  · exact bd_rg (bd_mul (h 2) (h 5)) (by decide)
  · exact bd_rg (bd_add (bd_mul (h 1) (h 5)) (bd_mul (h 2) (h 4))) (by decide)
  · exact bd_rg (bd_add (bd_mul (h 0) (h 5)) (bd_mul (h 2) (h 3))) (by decide)
  · exact bd_rg (bd_add (bd_mul (h 0) (h 4)) (bd_mul (h 1) (h 3))) (by decide)
theorem c_multiply {σ : Sto} {k : Nat} {v : Nat → Int} (h : FI σ k v) : MX3_multiply σ k = some (F6 σ k (mulV v)) := by
  unfold MX3_multiply MX3_fill
  rw [h 0 (by omega), h 1 (by omega), h 2 (by omega), h 3 (by omega), h 4 (by omega), h 5 (by omega), iI_mul, iI_mul, iI_mul, iI_mul, iI_mul, iI_mul, iI_mul, iI_mul, iI_mul, iI_add, iI_add, iI_add]
  rfl
theorem can_6 {D : Sheet} {w : Nat} {x : Int} (h : can D w x) (h0 : w ≠ 0) (h1 : w ≠ 1) : x < 6 := by
  unfold can at h
  rw [if_neg h0, if_neg h1] at h; exact h
theorem c_put {σ : Sto} {ρ : Rho} {D : Sheet} {x : Int} {w : Int32} {v : Nat → Int} (hD : Dk ρ) (hC : CS σ 54 D) (hf : FI σ 57 v) (hr : ∀ i, i < 6 → rg32 (v i)) (hx : 0 ≤ x ∧ x < 6) : OK (BX7_carryOut_74 ρ 53 w (iI x) σ) (YQ σ (putV D x.toNat v)) := by
  unfold BX7_carryOut_74 BX7_carryOut_98 BX7_carryOut_99 putV
  have hz0 := c_isZero hf hr
  have ez : (if v 0 = 0 ∧ v 1 = 0 ∧ v 2 = 0 ∧ v 3 = 0 ∧ v 4 = 0 ∧ v 5 = 0 then (1 : Int32) else 0) = b32 (zerB v) := by
    unfold b32 zerB
    by_cases c : v 0 = 0 ∧ v 1 = 0 ∧ v 2 = 0 ∧ v 3 = 0 ∧ v 4 = 0 ∧ v 5 = 0
    · rw [if_pos c, decide_eq_true c]; rfl
    · rw [if_neg c, decide_eq_false c]; rfl
  rw [dk_53_3 hD, ob_some, hz0, ob_some, ez]
  cases zerB v with
  | true =>
    rw [if_neg (show ¬ b32 true = 0 by decide), bn_eq, if_pos rfl, zr0, if_pos rfl]
    exact OK.so ⟨Fr.rf, rfl⟩
  | false =>
    rw [if_pos (show b32 false = 0 from rfl), ob_some, c_limit hf hr, ob_some, if_neg (show ¬ (false = true) by decide)]
    cases limB v with
    | false =>
      rw [if_neg (show ¬ (false = true) by decide), if_pos rfl, bn_eq, if_pos rfl, zr0, if_neg (show ¬ (false = true) by decide)]
      exact OK.so ⟨Fr.rf, rfl⟩
    | true =>
      rw [if_pos rfl, if_neg ne10, bn_eq, if_neg ne10, dk_53_0 hD, ob_some, ob_some, if_pos rfl]
      obtain ⟨n, rfl⟩ : ∃ n : Nat, x = n := ⟨x.toNat, by omega⟩
      refine OK.bi (c_write (s := 54) (Sr_54 hD) hC (by omega) hf (by omega)) ?_
      intro s ⟨g1, g2⟩
      rw [zr1]
      exact OK.so ⟨fun k i hn => g2 k i (fun e => hn (by unfold K5; omega)), rfl, g1⟩
theorem c_carry {σ : Sto} {ρ : Rho} {D : Sheet} {w : Nat} {x : Int} {v : Nat → Int} (hD : Dk ρ) (hC : CS σ 54 D) (hS : SOK D) (hw : w < 4) (hx : 0 ≤ x ∧ x ≤ 999) (hc : can D w x) (hf : w = 2 ∨ w = 3 → FI σ 57 v) (hb : ∀ i, bd (v i) 99) : OK (MX7_carryOut σ ρ 53 (iI w) (iI x)) (YQ σ (carry D w x v)) := by
  have hr : rg32 x := ⟨by omega, by omega⟩
  have hp := hS.1.le
  unfold MX7_carryOut carry
  by_cases c0 : w = 0
  · rw [if_pos (by rw [c0]; rfl), if_pos c0, dk_53_0 hD, ob_some]
    unfold can at hc
    rw [if_pos c0] at hc
    unfold MX8_changePrime
    have hx2 := (isPr_PR hc).2
    rw [hC.1]
    by_cases q : x.toNat = D.1
    · rw [if_pos (by rw [iI_eq hr ⟨by omega, by omega⟩]; omega), if_pos q, ob_some, zr1]
      exact OK.so ⟨Fr.rf, rfl, hC⟩
    · rw [if_neg (by rw [iI_eq hr ⟨by omega, by omega⟩]; omega), if_neg q, bn_eq, bn_eq, ob_some, zr1]
      have key : CS (su (su σ 54 0 (iI x)) 54 1 0) 54 (x.toNat, [], D.2.2) := by
        refine ⟨?_, ?_, fun i hi => ?_, fun k hk => absurd hk (Nat.not_lt_zero _)⟩
        · rw [su_i (by decide), su_s, hx2]
        · rw [su_s]; rfl
        · rw [su_k (by decide), su_k (by decide)]; exact hC.2.2.1 i hi
      exact OK.so ⟨(Fr.su (by unfold K5; omega)).tr (Fr.su (by unfold K5; omega)), rfl, key⟩
  · rw [if_neg (by rw [w0, iI_eqN (by omega) (by omega)]; exact c0), if_neg c0]
    by_cases c1 : w = 1
    · rw [if_pos (by rw [c1]; rfl), if_pos c1, dk_53_0 hD, ob_some]
      unfold can at hc
      rw [if_neg c0, if_pos c1] at hc
      have hNP := NP_le hS.1
      obtain ⟨n, rfl⟩ : ∃ n : Nat, x = n := ⟨x.toNat, by omega⟩
      simp only [cs_tn]
      rw [c_isMarked (q := n) (Sr_54 hD) hC hS.2.1 (mk_le hS) (by omega), ob_some]
      unfold BX7_carryOut_46 BX7_carryOut_47
      have hl := hS.2.1
      cases mkF D.2.1 n with
      | some k =>
        simp only [Option.isSome_some, if_true]
        rw [if_neg ne10, bn_eq, if_pos rfl, zr0]
        exact OK.so ⟨Fr.rf, rfl⟩
      | none =>
        simp only [Option.isSome_none, Bool.false_eq_true, if_false]
        rw [if_pos True.intro, ob_some, hC.2.1]
        by_cases c : D.2.1.length < 8
        · rw [if_neg (by rw [w8, iI_leN (by omega) (by omega)]; omega), bn_eq, if_neg ne10, dk_53_0 hD, ob_some, if_pos c]
          refine OK.bi (c_addMark (s := 54) (Sr_54 hD) hC c) ?_
          intro s ⟨g1, g2⟩
          rw [zr1]
          exact OK.so ⟨fun k i hn => g2 k i (fun e => hn (by unfold K5; omega)) (fun e => hn (by unfold K5; omega)), rfl, g1⟩
        · rw [if_pos (by rw [w8, iI_leN (by omega) (by omega)]; omega), bn_eq, if_pos rfl, zr0, if_neg c]
          exact OK.so ⟨Fr.rf, rfl⟩
    · rw [if_neg (by rw [w1, iI_eqN (by omega) (by omega)]; exact c1), if_neg c1]
      have hx6 := can_6 hc c0 c1
      by_cases c3 : w = 3
      · rw [if_pos (by rw [c3]; rfl), if_pos c3, dk_53_3 hD, ob_some, c_multiply (hf (Or.inr c3)), ob_some]
        have hC' : CS (F6 σ 57 (mulV v)) 54 D := CS_k hC (fun i => F6_k (by decide)) (fun i => F6_k (by decide)) (fun i => F6_k (by decide))
        refine OK.mo (c_put hD hC' F6_FI (mulV_rg hb) ⟨hx.1, hx6⟩) ?_
        intro o ⟨o1, o2⟩
        exact ⟨Fr.tr (fun k i hn => F6_k (fun e => hn (by unfold K5; omega))) o1, o2⟩
      · rw [if_neg (by rw [w3, iI_eqN (by omega) (by omega)]; exact c3), if_neg c3]
        exact c_put hD hC (hf (Or.inl (by omega))) (fun i _ => bd_rg (hb i) (by decide)) ⟨hx.1, hx6⟩
theorem c_line95 {σ σ0 : Sto} {ρ : Rho} {T : Tp} {D : Sheet} {a w c : Nat} {x : Int} {v : Nat → Int} (hD : Dk ρ) (hT : TOK T) (h : CXr σ T) (hc : c ≤ T.2) (h5 : σ 53 5 = iI c) (hC : CS σ 54 D) (hS : SOK D) (hw : w < 4) (hx : 0 ≤ x ∧ x ≤ 999) (hcan : can D w x) (hv : w = 2 ∨ w = 3 → FI σ 57 v) (hb : ∀ i, bd (v i) 99) (hf : Fr RJ σ0 σ) : OK (BX7_readLine_95 ρ 53 5 σ (iI (pl T a)) (iI w) (iI x)) (LQ σ0 (pEnd T D a w x (.ok (v, c)))) := by
  unfold BX7_readLine_95 pEnd
  refine OK.bi (c_advance hD hT h hc h5) ?_
  intro s ⟨g1, g2⟩
  have hk5 := @tkd_le T c
  have fs : Fr RJ σ0 s := hf.tr (rj_53 g2)
  rw [g1.2.1]
  dsimp only
  by_cases c4 : tkd T c = 4
  · have hC' : CS s 54 D := CS_k hC (fun i => g2 _ _ (by unfold R53; omega)) (fun i => g2 _ _ (by unfold R53; omega)) (fun i => g2 _ _ (by unfold R53; omega))
    rw [if_pos (by rw [c4]; rfl), if_neg (show ¬ (tkd T c ≠ 4) from fun z => z c4)]
    refine OK.bi (c_carry hD hC' hS hw hx hcan (fun z => FI_k (hv z) (fun i => g2 _ _ (by unfold R53; omega))) hb) ?_
    rintro ⟨y, s2⟩ ⟨o1, o2⟩
    dsimp only at o1 o2 ⊢
    cases hr : carry D w x v with
    | none =>
      rw [hr] at o2
      dsimp only at o2
      rw [o2, if_pos rfl]
      refine OK.bi (c_fail (f := 3) (p := pl T a) rfl rfl (fs.tr (rj_K5 o1))) ?_
      rintro ⟨y3, s3⟩ ⟨p1, p2, p3, p4⟩
      dsimp only at p1
      rw [p1, if_pos rfl, zr0]
      exact OK.so ⟨rfl, p2, p3, p4⟩
    | some D' =>
      rw [hr] at o2
      dsimp only at o2
      rw [o2.1, if_neg ne10, zr1]
      exact OK.so ⟨rfl, o2.2, (o1 53 5 (by unfold K5; omega)).trans g1.1, fs.tr (rj_K5 o1)⟩
  · rw [if_neg (by rw [w4, iI_eqN (by omega) (by omega)]; exact c4), if_pos c4]
    exact wr0 (c_fail (f := 1) (p := pl T c) rfl g1.2.2.1 fs) (fun a h => h.1)
theorem c_readLine {σ : Sto} {ρ : Rho} {T : Tp} {D : Sheet} {a : Nat} (hD : Dk ρ) (hT : TOK T) (h : CXr σ T) (ha : a ≤ T.2) (ht : TC σ T a) (hC : CS σ 54 D) (hS : SOK D) : OK (MX7_readLine σ ρ 53 5) (LQ σ (pLine T D a)) := by
  unfold MX7_readLine pLine
  rw [bn_eq, c_lineKind hD hT h ha ht, ob_some, bn_eq, ht.2.2.1]
  cases hw : wkO T a with
  | none =>
    rw [if_pos (show iI (oI none) = (-1 : Int32) from rfl)]
    exact wr0 (c_fail (f := 1) (p := pl T a) rfl rfl Fr.rf) (fun a h => h.1)
  | some w =>
    have w4 := wkO_lt hw
    have hn := nx_le ha
    have hk5 := @tkd_le T (nx T a)
    dsimp only
    rw [show oI (some w) = ((w : Nat) : Int) from rfl, if_neg (by rw [show (-1 : Int32) = iI (-1) from rfl, iI_eq ⟨by omega, by omega⟩ ⟨by omega, by omega⟩]; omega)]
    refine OK.bi (c_advance hD hT h hn.2 ht.1) ?_
    intro s ⟨g1, g2⟩
    have fs : Fr RJ σ s := rj_53 g2
    have hC' : CS s 54 D := CS_k hC (fun i => g2 _ _ (by unfold R53; omega)) (fun i => g2 _ _ (by unfold R53; omega)) (fun i => g2 _ _ (by unfold R53; omega))
    have hX := CX_rj h fs
    rw [g1.2.1]
    by_cases c2 : tkd T (nx T a) = 2
    · have hv := vl_bd hn.2 c2
      have hn2 := nx_le hn.2
      have hnn := pl_le hn.2
      rw [if_pos (by rw [c2]; rfl), if_neg (show ¬ (tkd T (nx T a) ≠ 2) from fun z => z c2), bn_eq, g1.2.2.2 c2]
      generalize vl T (nx T a) = x at hv ⊢
      rcases c_canBe hD hC' hS w4 hv with ⟨q, e⟩ | ⟨q, e⟩
      · rw [cs_pos q]
        refine OK.bi e ?_
        rintro ⟨y, s2⟩ ⟨o1, o2⟩
        dsimp only at o1 o2 ⊢
        have f2 : Fr RJ σ s2 := fs.tr (fun k i hn => o2 k i (fun e => hn (by unfold RJ; omega)))
        have hC2 : CS s2 54 D := CS_k hC' (fun i => o2 _ _ (by decide)) (fun i => o2 _ _ (by decide)) (fun i => o2 _ _ (by decide))
        have h52 : s2 53 5 = iI (nx T (nx T a)) := (o2 _ _ (by decide)).trans g1.1
        have six : w = 2 ∨ w = 3 → OK (BX7_readLine_85 ρ 53 5 s2 (iI (pl T a)) (iI w) (iI x)) (LQ σ (pEnd T D a w x (if w = 2 ∨ w = 3 then pSix T (nx T (nx T a)) 6 else .ok (fun _ => 0, nx T (nx T a))))) := by
          intro hw2
          unfold BX7_readLine_85
          rw [if_pos hw2]
          refine OK.bi (c_six hD hT (CX_rj h f2) hn2.2 h52) ?_
          rintro ⟨y, s3⟩ o3
          cases hr : pSix T (nx T (nx T a)) 6 with
          | error e =>
            rw [hr] at o3
            obtain ⟨p1, p2, p3, p4⟩ := o3
            dsimp only at p1 ⊢
            rw [p1, if_pos rfl, zr0]
            exact OK.so ⟨rfl, p2, p3, (rk_rj f2).tr p4⟩
          | ok d =>
            rw [hr] at o3
            obtain ⟨p1, p2, p3, p4, p5⟩ := o3
            have hd := pSix_v hr hn2.2
            dsimp only at p1 ⊢
            rw [p1, if_neg ne10]
            exact c_line95 hD hT (CX_rj h (f2.tr p4)) hd.1.2 p3 (CS_k hC2 (fun i => (p5 i).1) (fun i => (p5 i).2.1) (fun i => (p5 i).2.2)) hS w4 hv q (fun _ => p2) hd.2 (f2.tr p4)
        rw [o1, if_neg ne10]
        by_cases e2 : w = 2
        · rw [if_pos (by rw [e2]; rfl)]; exact six (Or.inl e2)
        · rw [if_neg (by rw [w2, iI_eqN (by omega) (by omega)]; exact e2)]
          by_cases e3 : w = 3
          · rw [if_pos (by rw [e3]; rfl)]; exact six (Or.inr e3)
          · rw [if_neg (by rw [w3, iI_eqN (by omega) (by omega)]; exact e3), if_neg (by omega)]
            exact c_line95 hD hT (CX_rj h f2) hn2.2 h52 hC2 hS w4 hv q (fun z => absurd z (by omega)) (fun _ => bd_0) f2
      · rw [cs_neg q]
        refine OK.bi e ?_
        rintro ⟨y, s2⟩ ⟨o1, o2⟩
        dsimp only at o1 o2 ⊢
        have f2 : Fr RJ σ s2 := fs.tr (fun k i hn => o2 k i (fun e => hn (by unfold RJ; omega)))
        rw [o1, if_pos rfl]
        exact wr0 (c_fail (f := 2) (p := pl T (nx T a)) rfl ((o2 _ _ (by decide)).trans g1.2.2.1) f2) (fun a h => h.1)
    · rw [if_neg (by rw [w2, iI_eqN (by omega) (by omega)]; exact c2), if_pos c2]
      exact wr0 (c_fail (f := 1) (p := pl T (nx T a)) rfl g1.2.2.1 fs) (fun a h => h.1)
