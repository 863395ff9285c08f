/-! ACTS: turn, twist, through -/
theorem mk_PM {σ s : Sto} (h : Fr PM σ s) : Fr MK σ s := h.mo (fun k i h => by unfold PM at h; unfold MK SC; omega)
theorem mk_QX {σ s : Sto} (h : Fr QX σ s) : Fr MK σ s := h.mo (fun k i h => by unfold QX PX RX at h; unfold MK SC; omega)
theorem mk_RX {σ s : Sto} (h : Fr RX σ s) : Fr MK σ s := h.mo (fun k i h => by unfold RX at h; unfold MK SC; omega)
theorem mk_QP {σ s : Sto} (h : Fr QP σ s) : Fr MK σ s := h.mo (fun k i h => by unfold QP PX RX at h; unfold MK SC; omega)
theorem mk_QO {σ s : Sto} (h : Fr QO σ s) : Fr MK σ s := h.mo (fun k i h => by unfold QO QP PX RX at h; unfold MK SC; omega)
theorem m_layN {σ : Sto} {ρ : Rho} {S : Sheet} {c : Nat} (hρ : Md ρ) (hS : SOK S) (hM : MS σ 0 S) (hc : c < 6) : OK (MX12_laysConic σ ρ 92 (0 : Int32) (iI c)) (fun s => Mm s S.1 (cm S c) ∧ Fr PM σ s) := m_laysConic hρ hS hM hc
theorem Mm_98 {σ : Sto} {p j : Nat} {m : Nat → Int} {x : Int32} (h : Mm σ p m) : Mm (su σ 98 j x) p m := ⟨by rw [su_k (by decide)]; exact h.1, fun i hi => by rw [su_k (by decide)]; exact h.2.1 i hi, h.2.2⟩
theorem tn4 {σ : Sto} {ρ : Rho} {p : Nat} {m : Nat → Int} {f : Sto → Option (Int32 × Sto)} {Q : Int32 × Sto → Prop} (hρ : Md ρ) (hp : PR p) (hm : Mm σ p m) (j a b c : Nat) (hj : j < 6) (ha : a < 6) (hb : b < 6) (hc : c < 6) (k : OK (f (su σ 98 j (iI ((4 * m a * m b - m c * m c) % p)))) Q) :
    OK (Option.bind (ρ 92 13) fun u => Option.bind (ρ 92 11) fun j1 => Option.bind (ag σ j1 (OfNat.ofNat a : Int32)) fun x => Option.bind (ρ 92 11) fun j2 => Option.bind (ag σ j2 (OfNat.ofNat b : Int32)) fun y => Option.bind (ρ 92 11) fun j3 => Option.bind (ag σ j3 (OfNat.ofNat c : Int32)) fun z => Option.bind (ρ 92 11) fun j4 => Option.bind (ag σ j4 (OfNat.ofNat c : Int32)) fun w => Option.bind (MX12_rest σ 92 (((4 : Int32) * x) * y - z * w)) fun v => Option.bind (ap σ u (OfNat.ofNat j : Int32) v) f) Q := by
  obtain ⟨h7, h96, hb0⟩ := hm
  have hp3 := hp.le
  have bb : ∀ i, i < 6 → bd (m i) 23 := fun i hi => bd_of (hb0 i hi).1 (by have := (hb0 i hi).2; omega)
  rw [hρ.2.2.2.2.2.1, ob_some, hρ.2.2.2.1, ob_some, ag96 a ha, ob_some, ob_some, ag96 b hb, ob_some, ob_some, ag96 c hc, ob_some, ob_some, ag96 c hc, ob_some, h96 a ha, h96 b hb, h96 c hc, show (4 : Int32) = iI 4 from rfl, iI_mul, iI_mul, iI_mul, iI_sub, m_rest hp h7 (bd_rg (bd_sub (bd_mul (bd_mul (bd_lit 4) (bb a ha)) (bb b hb)) (bd_mul (bb c hc) (bb c hc))) (by decide)), ob_some, ap98 j hj, ob_some]
  exact k
theorem tn2 {σ : Sto} {ρ : Rho} {p : Nat} {m : Nat → Int} {f : Sto → Option (Int32 × Sto)} {Q : Int32 × Sto → Prop} (hρ : Md ρ) (hp : PR p) (hm : Mm σ p m) (j a b c d : Nat) (hj : j < 6) (ha : a < 6) (hb : b < 6) (hc : c < 6) (hd : d < 6) (k : OK (f (su σ 98 j (iI ((2 * (m a * m b - 2 * m c * m d)) % p)))) Q) :
    OK (Option.bind (ρ 92 13) fun u => Option.bind (ρ 92 11) fun j1 => Option.bind (ag σ j1 (OfNat.ofNat a : Int32)) fun x => Option.bind (ρ 92 11) fun j2 => Option.bind (ag σ j2 (OfNat.ofNat b : Int32)) fun y => Option.bind (ρ 92 11) fun j3 => Option.bind (ag σ j3 (OfNat.ofNat c : Int32)) fun z => Option.bind (ρ 92 11) fun j4 => Option.bind (ag σ j4 (OfNat.ofNat d : Int32)) fun w => Option.bind (MX12_rest σ 92 ((2 : Int32) * (x * y - ((2 : Int32) * z) * w))) fun v => Option.bind (ap σ u (OfNat.ofNat j : Int32) v) f) Q := by
  obtain ⟨h7, h96, hb0⟩ := hm
  have hp3 := hp.le
  have bb : ∀ i, i < 6 → bd (m i) 23 := fun i hi => bd_of (hb0 i hi).1 (by have := (hb0 i hi).2; omega)
  rw [hρ.2.2.2.2.2.1, ob_some, hρ.2.2.2.1, ob_some, ag96 a ha, ob_some, ob_some, ag96 b hb, ob_some, ob_some, ag96 c hc, ob_some, ob_some, ag96 d hd, ob_some, h96 a ha, h96 b hb, h96 c hc, h96 d hd, show (2 : Int32) = iI 2 from rfl, iI_mul, iI_mul, iI_mul, iI_sub, iI_mul, m_rest hp h7 (bd_rg (bd_mul (bd_lit 2) (bd_sub (bd_mul (bb a ha) (bb b hb)) (bd_mul (bd_mul (bd_lit 2) (bb c hc)) (bb d hd)))) (by decide)), ob_some, ap98 j hj, ob_some]
  exact k
/-- turn -/
noncomputable def aTurn (A : AS) (c a : Int) : Int32 × AS := cs (inC c ∧ inC a) (cs (kdm A.1.1.1 (cm A.1.1 a.toNat) = 4) (aBec A c.toNat (fun i => du (cm A.1.1 a.toNat) i % A.1.1.1)) (5, refA A 5 (6 + iI (kdm A.1.1.1 (cm A.1.1 a.toNat) : Nat)))) (1, refA A 1 0)
theorem md_rg {p : Nat} {x : Int} (hp : PR p) : rg32 (x % p) := by
  have := emod_nn (p := p) (x := x) (by have := hp.le; omega)
  have := hp.le
  exact ⟨by omega, by omega⟩
theorem k_turn {σ : Sto} {ρ : Rho} {A : AS} {c a : Int} (hD : Dk ρ) (hA : AOK A) (h : KR σ A) (hc : rg32 c) (ha : rg32 a) : OK (MX11_turn σ ρ 0 (iI c) (iI a)) (Kq σ (aTurn A c a)) := by
  unfold MX11_turn BX11_turn_14 aTurn
  rcases k_isConic hc with ⟨q1, e⟩ | ⟨q1, e⟩
  · rw [e, ob_some, if_neg ne10]
    rcases k_isConic ha with ⟨q2, e⟩ | ⟨q2, e⟩
    · rw [e, ob_some, if_neg ne10, cs_pos ⟨q1, q2⟩]
      obtain ⟨c, rfl, c6⟩ := inC_nat q1
      obtain ⟨a, rfl, a6⟩ := inC_nat q2
      simp only [cs_tn]
      have hp := hA.1.1.1
      rw [dk_0_7 hD, ob_some, dk_0_0 hD, ob_some, dk_1_0 hD, ob_some]
      refine OK.bi (c_take (k := 83) (dk_83_0 hD) (by omega) (Sr_2 hD) hA.1.1 h.1.1 a6) ?_
      intro s ⟨g1, g2⟩
      have fs : Fr CK σ s := ck_C2 g2 (by omega)
      rw [ob_some, c_kind (dk_83_0 hD) hp g1, ob_some, bn_eq]
      by_cases q : kdm A.1.1.1 (cm A.1.1 a) = 4
      · rw [cs_pos q, if_pos (by rw [q]; rfl), dk_0_8 hD, ob_some, ob_some]
        refine OK.bi (c_dual (k := 85) (dk_85_0 hD) (dk_83_0 hD) (by omega) hp g1) ?_
        intro s2 ⟨g3, g4⟩
        rw [ob_some, dk_85_0 hD, ob_some]
        exact k_be hD hA h (fs.tr (ck_C2 g4 (by omega))) c6 g3.2.1 (by omega) (fun i _ => md_rg hp)
      · rw [cs_neg q, if_neg (by rw [w4, iI_eqN (by have := @kdm_le A.1.1.1 (cm A.1.1 a); omega) (by omega)]; exact q)]
        exact k_no hD h fs
    · rw [e, ob_some, if_pos rfl, cs_neg (fun z => q2 z.2)]; exact k_no hD h Fr.rf
  · rw [e, ob_some, if_pos rfl, cs_neg (fun z => q1 z.1)]; exact k_no hD h Fr.rf
theorem m_turn {σ : Sto} {ρ : Rho} {A : AS} {c a : Int} (hρ : Md ρ) (hA : AOK A) (h : MR σ A) (hc : rg32 c) (ha : rg32 a) : OK (MX12_turn σ ρ 92 (iI c) (iI a)) (Mq σ (aTurn A c a)) := by
  unfold MX12_turn BX12_turn_14 aTurn
  rcases m_isConic hc with ⟨q1, e⟩ | ⟨q1, e⟩
  · rw [e, ob_some, if_neg ne10]
    rcases m_isConic ha with ⟨q2, e⟩ | ⟨q2, e⟩
    · rw [e, ob_some, if_neg ne10, cs_pos ⟨q1, q2⟩]
      obtain ⟨c, rfl, c6⟩ := inC_nat q1
      obtain ⟨a, rfl, a6⟩ := inC_nat q2
      simp only [cs_tn]
      have hp := hA.1.1.1
      refine OK.bi (m_layN hρ hA.1.1 h.1.1 a6) ?_
      intro s ⟨g1, g2⟩
      refine OK.bi (m_kindOf hρ hp g1) ?_
      rintro ⟨v, s2⟩ ⟨g3, g4⟩
      dsimp only at g3 g4 ⊢
      have hm := Mm_qx g1 g4
      have fs : Fr MK σ s2 := (mk_PM g2).tr (mk_QX g4)
      rw [bn_eq, g3]
      by_cases q : kdm A.1.1.1 (cm A.1.1 a) = 4
      · rw [cs_pos q, if_pos (by rw [q]; rfl)]
        generalize hmm : cm A.1.1 a = m at *
        refine tn4 hρ hp hm 0 1 2 3 (by omega) (by omega) (by omega) (by omega) ?_
        have hm := Mm_98 (j := 0) (x := iI ((4 * m 1 * m 2 - m 3 * m 3) % A.1.1.1)) hm
        refine tn4 hρ hp hm 1 0 2 4 (by omega) (by omega) (by omega) (by omega) ?_
        have hm := Mm_98 (j := 1) (x := iI ((4 * m 0 * m 2 - m 4 * m 4) % A.1.1.1)) hm
        refine tn4 hρ hp hm 2 0 1 5 (by omega) (by omega) (by omega) (by omega) ?_
        have hm := Mm_98 (j := 2) (x := iI ((4 * m 0 * m 1 - m 5 * m 5) % A.1.1.1)) hm
        refine tn2 hρ hp hm 3 4 5 0 3 (by omega) (by omega) (by omega) (by omega) (by omega) ?_
        have hm := Mm_98 (j := 3) (x := iI ((2 * (m 4 * m 5 - 2 * m 0 * m 3)) % A.1.1.1)) hm
        refine tn2 hρ hp hm 4 3 5 1 4 (by omega) (by omega) (by omega) (by omega) (by omega) ?_
        have hm := Mm_98 (j := 4) (x := iI ((2 * (m 3 * m 5 - 2 * m 1 * m 4)) % A.1.1.1)) hm
        refine tn2 hρ hp hm 5 3 4 2 5 (by omega) (by omega) (by omega) (by omega) (by omega) ?_
        refine m_be hρ hA h (fs.tr (mk_98 fun k i hk => by rw [su_k hk, su_k hk, su_k hk, su_k hk, su_k hk, su_k hk])) c6 ?_ (fun i _ => md_rg hp)
        exact F6_FI (v := fun i => du m i % A.1.1.1)
      · rw [cs_neg q, if_neg (by rw [w4, iI_eqN (by have := @kdm_le A.1.1.1 (cm A.1.1 a); omega) (by omega)]; exact q)]
        exact m_no hρ hA h fs
    · rw [e, ob_some, if_pos rfl, cs_neg (fun z => q2 z.2)]; exact m_no hρ hA h Fr.rf
  · rw [e, ob_some, if_pos rfl, cs_neg (fun z => q1 z.1)]; exact m_no hρ hA h Fr.rf
/-- through -/
noncomputable def aThru (A : AS) (c : Int) : Int32 × AS := cs (inC c) (cs (frN A.1.1 = 1) (aBec A c.toNat (oneW A.1.1)) (10, refA A 10 (if frN A.1.1 ≤ 1 then 12 else 11))) (1, refA A 1 0)
theorem oneW_rg {S : Sheet} {w : Nat → Int} (hp : PR S.1) (hf : frP S 1) (h : One S.1 (Vm S.1 S.2.1) w) : ∀ i, i < 6 → rg32 (oneW S i) := fun i hi => by
  rw [← oneW_eq hp hf h i hi]
  have := h.2.1 i hi
  have := hp.le
  exact ⟨by omega, by omega⟩
theorem k_through {σ : Sto} {ρ : Rho} {A : AS} {c : Int} (hD : Dk ρ) (hP : Pm ρ) (hA : AOK A) (h : KR σ A) (hc : rg32 c) : OK (MX11_through σ ρ 0 (iI c)) (fun o => Kq σ (aThru A c) (o.1, o.2.1) ∧ RFr ρ o.2.2 ∧ Pm o.2.2) := by
  have wk : ∀ (ρ' : Rho) (o : Option (Int32 × Sto)) (a : Int32 × AS), RFr ρ ρ' → Pm ρ' → OK (Option.bind o fun c => some (c.1, c.2)) (Kq σ a) → OK (Option.bind o fun c => some (c.1, c.2, ρ')) (fun o => Kq σ a (o.1, o.2.1) ∧ RFr ρ o.2.2 ∧ Pm o.2.2) := by
    intro ρ' o a r1 r2 hO
    obtain ⟨x, e1, e2⟩ := hO
    cases o with
    | none => rw [ob_none] at e1; cases e1
    | some y =>
      rw [ob_some] at e1 ⊢
      have e3 := Option.some.inj e1
      exact OK.so ⟨by rw [← e3] at e2; exact e2, r1, r2⟩
  unfold MX11_through BX11_through_60 aThru
  rcases k_isConic hc with ⟨q1, e⟩ | ⟨q1, e⟩
  · rw [e, ob_some, if_neg ne10, cs_pos q1]
    obtain ⟨c, rfl, c6⟩ := inC_nat q1
    simp only [cs_tn]
    have hp := hA.1.1.1
    rw [dk_0_6 hD, ob_some, dk_0_0 hD, ob_some, dk_1_0 hD, ob_some]
    refine OK.bi (c_gather hD hP hA.1.1 h.1.1) ?_
    rintro ⟨s2, ρ2⟩ ⟨f, B, g1, g2, g3, g4⟩
    dsimp only at g1 g3 g4 ⊢
    have hD2 := hD.fr g3
    have f2 : Fr CK σ s2 := g4.mo (fun k i h => by unfold FX at h; unfold CK; omega)
    have ef : frN A.1.1 = f := frN_eq hp ⟨B, g2⟩
    have hf6 := g1.1
    have q1' : (s2 68 2 = (1 : Int32)) ↔ f = 1 := by rw [g1.2.1, w1, iI_eqN (by omega) (by omega)]
    have q2' : (s2 68 2 ≤ (1 : Int32)) ↔ f ≤ 1 := by rw [g1.2.1, w1, iI_leN (by omega) (by omega)]
    rw [dk_0_6 hD2, ob_some, ef]
    by_cases c1 : f = 1
    · rw [if_pos (q1'.mpr c1), cs_pos c1]
      subst c1
      rw [ob_some, dk_0_9 hD2, ob_some]
      refine OK.bi (c_readOne (k := 87) hD2 hp g1 g2 Vm_Lin (by omega)) ?_
      intro s3 ⟨w, t1, t2, t3⟩
      rw [ob_some]
      exact wk _ _ _ g3 g1.pm (k_be hD2 hA h (f2.tr (t3.mo (fun k i h => by unfold CK; omega))) c6 (FI_cg t2 (oneW_eq hp ⟨B, g2⟩ t1)) (by omega) (oneW_rg hp ⟨B, g2⟩ t1))
    · rw [if_neg (fun z => c1 (q1'.mp z)), cs_neg c1, ob_some]
      by_cases c2 : f ≤ 1
      · rw [if_pos (q2'.mpr c2), if_pos c2]
        exact wk _ _ _ g3 g1.pm (k_no hD2 h f2)
      · rw [if_neg (fun z => c2 (q2'.mp z)), if_neg c2]
        exact wk _ _ _ g3 g1.pm (k_no hD2 h f2)
  · rw [e, ob_some, if_pos rfl, cs_neg q1]; exact wk _ _ _ (fun _ _ _ => rfl) hP (k_no hD h Fr.rf)
theorem m_through {σ : Sto} {ρ : Rho} {A : AS} {c : Int} (hρ : Md ρ) (hA : AOK A) (hF : frP A.1.1 (frN A.1.1) ∧ frN A.1.1 ≤ 6) (h : MR σ A) (hc : rg32 c) : OK (MX12_through σ ρ 92 (iI c)) (Mq σ (aThru A c)) := by
  unfold MX12_through BX12_through_40 aThru
  rcases m_isConic hc with ⟨q1, e⟩ | ⟨q1, e⟩
  · rw [e, ob_some, if_neg ne10, cs_pos q1]
    obtain ⟨c, rfl, c6⟩ := inC_nat q1
    simp only [cs_tn]
    have hp := hA.1.1.1
    refine OK.bi (m_hasOne hρ hA.1.1 h.1.1) ?_
    rintro ⟨v, s2⟩ ⟨r1, n, M', r2, r3⟩
    have hnf := RI_fr hp r2 hF.1
    have f2 : Fr MK σ s2 := mk_QO r1
    dsimp only at r3 ⊢
    rcases r3 with ⟨n5, e⟩ | ⟨n5, e, w, t1, t2⟩
    · rw [e, if_pos rfl, cs_neg (by omega)]
      refine OK.bi (m_rank0 hρ hA.1.1 (MR_mk hA h f2).1.1) ?_
      rintro ⟨v3, s3⟩ ⟨n', M'', u1, u2, -, -, u3⟩
      have hnf' := RI_fr hp u2 hF.1
      dsimp only at u1 u3 ⊢
      have f3 : Fr MK σ s3 := f2.tr (mk_QP u3)
      have : n' ≤ 6 := by omega
      rw [u1]
      by_cases c2 : frN A.1.1 ≤ 1
      · rw [if_pos (by rw [w5, iI_leN (by omega) (by omega)]; omega), if_pos c2]
        exact m_no hρ hA h f3
      · rw [if_neg (by rw [w5, iI_leN (by omega) (by omega)]; omega), if_neg c2]
        exact m_no hρ hA h f3
    · have hf1 : frN A.1.1 = 1 := by omega
      have hfp := hF.1
      rw [hf1] at hfp
      rw [e, if_neg ne10, cs_pos hf1]
      exact m_be hρ hA h f2 c6 (FI_cg t2 (oneW_eq hp hfp t1)) (oneW_rg hp hfp t1)
  · rw [e, ob_some, if_pos rfl, cs_neg q1]; exact m_no hρ hA h Fr.rf
