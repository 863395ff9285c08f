/-! ACTS on conics -/
def Kq (σ : Sto) (a : Int32 × AS) (o : Int32 × Sto) : Prop := o.1 = a.1 ∧ KR o.2 a.2 ∧ Fr CL σ o.2
def Mq (σ : Sto) (a : Int32 × AS) (o : Int32 × Sto) : Prop := o.1 = a.1 ∧ MR o.2 a.2 ∧ Fr ML σ o.2
def CK (k _i : Nat) : Prop := 53 ≤ k ∧ k < 92
def MK (k i : Nat) : Prop := 92 ≤ k ∧ SC k i
theorem KR_ck {σ s : Sto} {A : AS} (h : KR σ A) (hf : Fr CK σ s) : KR s A := KR_fr h (fun k i hk => hf k i (by unfold CK; omega))
theorem MR_mk {σ s : Sto} {A : AS} (hA : AOK A) (h : MR σ A) (hf : Fr MK σ s) : MR s A := MR_fr hA h (fun k i _ hn => hf k i (fun z => hn z.2))
theorem cl_ck {σ s : Sto} (hf : Fr CK σ s) : Fr CL σ s := hf.mo (fun k i h => by unfold CK at h; unfold CL; omega)
theorem ml_mk {σ s : Sto} (hf : Fr MK σ s) : Fr ML σ s := hf.mo (fun k i h => by unfold MK at h; unfold ML; omega)
theorem wr {o : Option (Int32 × Sto)} {Q : Int32 × Sto → Prop} (h : OK o Q) : OK (Option.bind o fun c => some (c.1, c.2)) Q := OK.bi h (fun _ ha => OK.so ha)
theorem k_no {σ s : Sto} {ρ : Rho} {A : AS} {r c : Int32} (hD : Dk ρ) (h : KR σ A) (hf : Fr CK σ s) : OK (Option.bind (MX11_refuse s ρ 0 r c) fun c => some (c.1, c.2)) (Kq σ (r, refA A r c)) :=
  wr ((k_refuse hD (KR_ck h hf)).mo fun _ ⟨a, b, c⟩ => ⟨a, b, (cl_ck hf).tr c⟩)
theorem m_no {σ s : Sto} {ρ : Rho} {A : AS} {r c : Int32} (hρ : Md ρ) (hA : AOK A) (h : MR σ A) (hf : Fr MK σ s) : OK (Option.bind (MX12_refused s ρ 92 r c) fun c => some (c.1, c.2)) (Mq σ (r, refA A r c)) :=
  wr ((m_refused hρ hA (MR_mk hA h hf)).mo fun _ ⟨a, b, c⟩ => ⟨a, b, (ml_mk hf).tr c⟩)
theorem k_be {σ s : Sto} {ρ : Rho} {A : AS} {c f : Nat} {v : Nat → Int} (hD : Dk ρ) (hA : AOK A) (h : KR σ A) (hf : Fr CK σ s) (hc : c < 6) (hv : FI s f v) (hf2 : 53 ≤ f) (hr : ∀ i, i < 6 → rg32 (v i)) : OK (Option.bind (MX11_become s ρ 0 (iI c) f) fun c => some (c.1, c.2)) (Kq σ (aBec A c v)) :=
  wr ((k_become hD hA (KR_ck h hf) hc hv hf2 hr).mo fun _ ⟨a, b, c⟩ => ⟨a, b, (cl_ck hf).tr c⟩)
theorem m_be {σ s : Sto} {ρ : Rho} {A : AS} {c : Nat} {v : Nat → Int} (hρ : Md ρ) (hA : AOK A) (h : MR σ A) (hf : Fr MK σ s) (hc : c < 6) (hv : FI s 98 v) (hr : ∀ i, i < 6 → rg32 (v i)) : OK (Option.bind (MX12_becomes s ρ 92 (iI c)) fun c => some (c.1, c.2)) (Mq σ (aBec A c v)) :=
  wr ((m_becomes hρ hA (MR_mk hA h hf) hc hv hr).mo fun _ ⟨a, b, c⟩ => ⟨a, b, (ml_mk hf).tr c⟩)
theorem ck_F6 {σ : Sto} {k : Nat} {v : Nat → Int} (h : 53 ≤ k ∧ k < 92) : Fr CK σ (F6 σ k v) := fun k' i hn => F6_k (fun e => hn (by unfold CK; omega))
theorem ck_su {σ : Sto} {k i : Nat} {v : Int32} (h : 53 ≤ k ∧ k < 92) : Fr CK σ (su σ k i v) := Fr.su h
theorem ck_C2 {σ σ' : Sto} {k : Nat} (h : Fr (C2 k) σ σ') (hk : 53 ≤ k ∧ k < 91) : Fr CK σ σ' := h.mo (fun k' i hn => by unfold C2 at hn; unfold CK; omega)
theorem FI_cg {σ : Sto} {k : Nat} {v w : Nat → Int} (h : FI σ k v) (e : ∀ i, i < 6 → v i = w i) : FI σ k w := fun i hi => by rw [← e i hi]; exact h i hi
theorem vset_rg {v : Nat → Int} {j : Nat} {x : Int} (h : ∀ i, i < 6 → rg32 (v i)) (hx : rg32 x) : ∀ i, i < 6 → rg32 (vset v j x i) := fun i hi => by
  unfold vset
  by_cases c : i = j
  · rw [if_pos c]; exact hx
  · rw [if_neg c]; exact h i hi
theorem m_num {σ : Sto} {S : Sheet} {c i : Nat} (hM : MS σ 0 S) (hc : c < 6) (hi : i < 6) : ag σ 93 ((6 : Int32) * iI c + iI i) = some (iI (cn S c i)) := by
  rw [show (6 : Int32) = iI 6 from rfl, iI_mul, iI_add, ag93i (by omega) (by omega), show (6 * (c : Int) + i).toNat = 0 + (6 * c + i) by omega, hM.2.2.1 _ (by omega)]
  rfl
theorem cn_rg {S : Sheet} {c : Nat} (hS : SOK S) (hc : c < 6) : ∀ i, i < 6 → rg32 (cn S c i) := fun i hi => bd_rg (cn_bd hS hc hi) (by decide)
theorem m_laysIts {σ : Sto} {ρ : Rho} {S : Sheet} {c : Nat} (hρ : Md ρ) (hM : MS σ 0 S) (hc : c < 6) : OK (MX12_laysIts σ ρ 92 (iI c)) (fun s => FI s 98 (cn S c) ∧ ∀ k i, k ≠ 98 → s k i = σ k i) := by
  unfold MX12_laysIts
  rw [bn_eq]
  refine run_g (S := Sto) (call := fun (g : Sto → Int32 → Option Sto) s (k : Nat) => g s (iI k)) (N := 6) (I := fun k τ => (∀ i, i < k → τ 98 i = iI (cn S c i)) ∧ ∀ k i, k ≠ 98 → τ k i = σ k i) (Post := fun o => OK o _) ?_ ?_ (by unfold FU; omega) (k0 := 0) (by omega) (s := σ) ⟨fun i hi => by omega, fun _ _ _ => rfl⟩
  · intro g τ ⟨i1, i2⟩
    unfold FX12_laysIts_2
    rw [if_pos (by decide)]
    exact OK.so ⟨i1, i2⟩
  · intro g τ k ⟨i1, i2⟩ hk ih
    show OK (FX12_laysIts_2 ρ 92 (iI c) g τ (iI k)) _
    unfold FX12_laysIts_2
    have hM' : MS τ 0 S := ⟨(i2 _ _ (by decide)).trans hM.1, (i2 _ _ (by decide)).trans hM.2.1, fun i hi => (i2 _ _ (by decide)).trans (hM.2.2.1 i hi), fun k hk => (i2 _ _ (by decide)).trans (hM.2.2.2 k hk)⟩
    rw [if_neg (by rw [w6, iI_leN (by omega) (by omega)]; omega), hρ.2.2.2.2.2.1, ob_some, hρ.1, ob_some, m_num hM' hc hk, ob_some, ap98i (by omega) (by omega), ob_some, bn_eq, iI_succ, show ((k : Int)).toNat = k from rfl]
    refine ih _ ⟨fun i hi => ?_, fun k' i' hk' => by rw [su_k hk']; exact i2 k' i' hk'⟩
    by_cases q : i = k
    · subst q; rw [su_s]
    · rw [su_i q]; exact i1 i (by omega)
theorem mk_98 {σ s : Sto} (h : ∀ k i, k ≠ 98 → s k i = σ k i) : Fr MK σ s := fun k i hn => h k i (fun e => hn (by unfold MK SC; omega))
theorem inC_nat {c : Int} (h : inC c) : ∃ n : Nat, c = n ∧ n < 6 := ⟨c.toNat, by unfold inC at h; omega, by unfold inC at h; omega⟩
theorem m_isN {i : Int} (hi : rg32 i) : (inC i ∧ MX12_isIn (iI i) (0 : Int32) (5 : Int32) = some 1) ∨ (¬ inC i ∧ MX12_isIn (iI i) (0 : Int32) (5 : Int32) = some 0) := by
  unfold inC
  rw [show (0 : Int32) = iI 0 from rfl, show (5 : Int32) = iI 5 from rfl]
  rcases m_isIn (a := i) (b := 0) (c := 5) hi ⟨by omega, by omega⟩ ⟨by omega, by omega⟩ with ⟨a, b, e⟩ | ⟨a, e⟩
  · exact Or.inl ⟨by omega, e⟩
  · exact Or.inr ⟨by omega, e⟩
theorem cs_tn {n : Nat} : ((n : Int)).toNat = n := rfl
/-- set -/
noncomputable def aSet (A : AS) (c i v : Int) : Int32 × AS := cs (inC c ∧ inC i ∧ (-99 ≤ v ∧ v ≤ 99)) (cs (cn A.1.1 c.toNat i.toNat = v) (2, refA A 2 0) (aBec A c.toNat (vset (cn A.1.1 c.toNat) i.toNat v))) (1, refA A 1 0)
theorem k_set {σ : Sto} {ρ : Rho} {A : AS} {c i v : Int} (hD : Dk ρ) (hA : AOK A) (h : KR σ A) (hc : rg32 c) (hi : rg32 i) (hv : rg32 v) : OK (MX11_set σ ρ 0 (iI c) (iI i) (iI v)) (Kq σ (aSet A c i v)) := by
  unfold MX11_set BX11_set_21 aSet
  rcases k_isConic hc with ⟨a, e⟩ | ⟨a, e⟩
  · rw [e, ob_some, if_neg ne10]
    rcases k_isNumber hi with ⟨b, e⟩ | ⟨b, e⟩
    · rw [e, ob_some, if_neg ne10, c_beyond hv, ob_some]
      by_cases d : -99 ≤ v ∧ v ≤ 99
      · rw [if_pos d, if_pos rfl, cs_pos ⟨a, b, d⟩]
        obtain ⟨c, rfl, c6⟩ := inC_nat a
        obtain ⟨i, rfl, i6⟩ := inC_nat b
        simp only [cs_tn]
        have hn := cn_rg hA.1.1 c6
        have h1 : FI (F6 σ 87 (cn A.1.1 c)) 87 (cn A.1.1 c) := F6_FI
        rw [dk_0_0 hD, ob_some, dk_1_0 hD, ob_some, dk_0_9 hD, ob_some, c_read (Sr_2 hD) h.1.1 c6]
        show OK (Option.bind (some (F6 σ 87 (cn A.1.1 c))) _) _
        rw [ob_some, ob_some, c_nth h1 i6, ob_some]
        by_cases q : cn A.1.1 c i = v
        · rw [if_pos (by rw [q]), cs_pos q]; exact k_no hD h (ck_F6 (by omega))
        · rw [if_neg (by rw [iI_eq (hn i i6) hv]; exact q), cs_neg q, ob_some, c_change i6, ob_some, ob_some]
          exact k_be hD hA h ((ck_F6 (by omega)).tr (ck_su (by omega))) c6 (FI_set h1) (by omega) (vset_rg hn hv)
      · rw [if_neg d, if_neg ne10, cs_neg (fun z => d z.2.2)]; exact k_no hD h Fr.rf
    · rw [e, ob_some, if_pos rfl, cs_neg (fun z => b z.2.1)]; exact k_no hD h Fr.rf
  · rw [e, ob_some, if_pos rfl, cs_neg (fun z => a z.1)]; exact k_no hD h Fr.rf
theorem m_set {σ : Sto} {ρ : Rho} {A : AS} {c i v : Int} (hρ : Md ρ) (hA : AOK A) (h : MR σ A) (hc : rg32 c) (hi : rg32 i) (hv : rg32 v) : OK (MX12_set σ ρ 92 (iI c) (iI i) (iI v)) (Mq σ (aSet A c i v)) := by
  unfold MX12_set BX12_set_23 aSet
  rcases m_isConic hc with ⟨a, e⟩ | ⟨a, e⟩
  · rw [e, ob_some, if_neg ne10]
    rcases m_isN hi with ⟨b, e⟩ | ⟨b, e⟩
    · rw [e, ob_some, if_neg ne10, m_isShort hv, ob_some]
      by_cases d : -99 ≤ v ∧ v ≤ 99
      · rw [if_pos d, if_neg ne10, cs_pos ⟨a, b, d⟩]
        obtain ⟨c, rfl, c6⟩ := inC_nat a
        obtain ⟨i, rfl, i6⟩ := inC_nat b
        simp only [cs_tn]
        have hn := cn_rg hA.1.1 c6
        rw [hρ.1, ob_some, m_num h.1.1 c6 i6, ob_some]
        by_cases q : cn A.1.1 c i = v
        · rw [if_pos (by rw [q]), cs_pos q]; exact m_no hρ hA h Fr.rf
        · rw [if_neg (by rw [iI_eq (hn i i6) hv]; exact q), cs_neg q]
          refine OK.bi (m_laysIts hρ h.1.1 c6) ?_
          intro s ⟨f1, f2⟩
          rw [hρ.2.2.2.2.2.1, ob_some, ap98i (by omega) (by omega), ob_some, show ((i : Int)).toNat = i from rfl]
          exact m_be hρ hA h (mk_98 (fun k i hk => by rw [su_k hk]; exact f2 k i hk)) c6 (FI_set f1) (vset_rg hn hv)
      · rw [if_neg d, if_pos rfl, cs_neg (fun z => d z.2.2)]; exact m_no hρ hA h Fr.rf
    · rw [e, ob_some, if_pos rfl, cs_neg (fun z => b z.2.1)]; exact m_no hρ hA h Fr.rf
  · rw [e, ob_some, if_pos rfl, cs_neg (fun z => a z.1)]; exact m_no hρ hA h Fr.rf
/-- sum -/
def sumV (S : Sheet) (a : Nat) (x : Int) (b : Nat) (y : Int) (i : Nat) : Int := x * cn S a i + y * cn S b i
noncomputable def aSum (A : AS) (c a x b y : Int) : Int32 × AS := cs (inC c ∧ inC a ∧ inC b ∧ (-99 ≤ x ∧ x ≤ 99) ∧ (-99 ≤ y ∧ y ≤ 99)) (aBec A c.toNat (sumV A.1.1 a.toNat x b.toNat y)) (1, refA A 1 0)
theorem sumV_rg {S : Sheet} {a b : Nat} {x y : Int} (hS : SOK S) (ha : a < 6) (hb : b < 6) (hx : -99 ≤ x ∧ x ≤ 99) (hy : -99 ≤ y ∧ y ≤ 99) : ∀ i, i < 6 → rg32 (sumV S a x b y i) := fun i hi =>
  bd_rg (bd_add (bd_mul (show bd x 99 from hx) (cn_bd hS ha hi)) (bd_mul (show bd y 99 from hy) (cn_bd hS hb hi))) (by decide)
theorem k_sum {σ : Sto} {ρ : Rho} {A : AS} {c a x b y : Int} (hD : Dk ρ) (hA : AOK A) (h : KR σ A) (hc : rg32 c) (ha : rg32 a) (hx : rg32 x) (hb : rg32 b) (hy : rg32 y) : OK (MX11_sum σ ρ 0 (iI c) (iI a) (iI x) (iI b) (iI y)) (Kq σ (aSum A c a x b y)) := by
  unfold MX11_sum BX11_sum_37 aSum
  rcases k_isConic hc with ⟨q1, e⟩ | ⟨q1, e⟩
  · rw [e, ob_some, if_neg ne10]
    rcases k_isConic ha with ⟨q2, e⟩ | ⟨q2, e⟩
    · rw [e, ob_some, if_neg ne10]
      rcases k_isConic hb with ⟨q3, e⟩ | ⟨q3, e⟩
      · rw [e, ob_some, if_neg ne10, c_beyond hx, ob_some]
        by_cases q4 : -99 ≤ x ∧ x ≤ 99
        · rw [if_pos q4, if_pos rfl, c_beyond hy, ob_some]
          by_cases q5 : -99 ≤ y ∧ y ≤ 99
          · rw [if_pos q5, if_pos rfl, cs_pos ⟨q1, q2, q3, q4, q5⟩]
            obtain ⟨c, rfl, c6⟩ := inC_nat q1
            obtain ⟨a, rfl, a6⟩ := inC_nat q2
            obtain ⟨b, rfl, b6⟩ := inC_nat q3
            have h1 : FI (F6 σ 87 (cn A.1.1 a)) 87 (cn A.1.1 a) := F6_FI
            have hC1 : CS (F6 σ 87 (cn A.1.1 a)) 2 A.1.1 := CS_k h.1.1 (fun i => F6_k (by decide)) (fun i => F6_k (by decide)) (fun i => F6_k (by decide))
            rw [dk_0_0 hD, ob_some, dk_1_0 hD, ob_some, dk_0_9 hD, ob_some, c_read (Sr_2 hD) h.1.1 a6]
            show OK (Option.bind (some (F6 σ 87 (cn A.1.1 a))) _) _
            rw [ob_some, ob_some, dk_1_0 hD, ob_some, dk_0_10 hD, ob_some, c_read (Sr_2 hD) hC1 b6]
            show OK (Option.bind (some (F6 (F6 σ 87 (cn A.1.1 a)) 88 (cn A.1.1 b))) _) _
            rw [ob_some, ob_some, ob_some, c_blend (FI_k h1 (fun i => F6_k (by decide))) F6_FI]
            show OK (Option.bind (some (F6 (F6 (F6 σ 87 (cn A.1.1 a)) 88 (cn A.1.1 b)) 87 (sumV A.1.1 a x b y))) _) _
            rw [ob_some, ob_some]
            exact k_be hD hA h (((ck_F6 (by omega)).tr (ck_F6 (by omega))).tr (ck_F6 (by omega))) c6 F6_FI (by omega) (sumV_rg hA.1.1 a6 b6 q4 q5)
          · rw [if_neg q5, if_neg ne10, cs_neg (fun z => q5 z.2.2.2.2)]; exact k_no hD h Fr.rf
        · rw [if_neg q4, if_neg ne10, cs_neg (fun z => q4 z.2.2.2.1)]; exact k_no hD h Fr.rf
      · rw [e, ob_some, if_pos rfl, cs_neg (fun z => q3 z.2.2.1)]; exact k_no hD h Fr.rf
    · rw [e, ob_some, if_pos rfl, cs_neg (fun z => q2 z.2.1)]; exact k_no hD h Fr.rf
  · rw [e, ob_some, if_pos rfl, cs_neg (fun z => q1 z.1)]; exact k_no hD h Fr.rf
theorem m_sum {σ : Sto} {ρ : Rho} {A : AS} {c a x b y : Int} (hρ : Md ρ) (hA : AOK A) (h : MR σ A) (hc : rg32 c) (ha : rg32 a) (hx : rg32 x) (hb : rg32 b) (hy : rg32 y) : OK (MX12_sum σ ρ 92 (iI c) (iI a) (iI x) (iI b) (iI y)) (Mq σ (aSum A c a x b y)) := by
  unfold MX12_sum BX12_sum_37 aSum
  rcases m_isConic hc with ⟨q1, e⟩ | ⟨q1, e⟩
  · rw [e, ob_some, if_neg ne10]
    rcases m_isConic ha with ⟨q2, e⟩ | ⟨q2, e⟩
    · rw [e, ob_some, if_neg ne10]
      rcases m_isConic hb with ⟨q3, e⟩ | ⟨q3, e⟩
      · rw [e, ob_some, if_neg ne10, m_isShort hx, ob_some]
        by_cases q4 : -99 ≤ x ∧ x ≤ 99
        · rw [if_pos q4, if_neg ne10, m_isShort hy, ob_some]
          by_cases q5 : -99 ≤ y ∧ y ≤ 99
          · rw [if_pos q5, if_neg ne10, cs_pos ⟨q1, q2, q3, q4, q5⟩, bn_eq]
            obtain ⟨c, rfl, c6⟩ := inC_nat q1
            obtain ⟨a, rfl, a6⟩ := inC_nat q2
            obtain ⟨b, rfl, b6⟩ := inC_nat q3
            have hM := h.1.1
            refine run_g (S := Sto) (call := fun (g : Sto → Int32 → Option (Int32 × Sto)) s (k : Nat) => g s (iI k)) (N := 6) (I := fun k τ => (∀ i, i < k → τ 98 i = iI (sumV A.1.1 a x b y i)) ∧ ∀ k i, k ≠ 98 → τ k i = σ k i) (Post := fun o => OK o _) ?_ ?_ (by unfold FU; omega) (k0 := 0) (by omega) (s := σ) ⟨fun i hi => by omega, fun _ _ _ => rfl⟩
            · intro g τ ⟨i1, i2⟩
              unfold FX12_sum_47 BX12_sum_98
              rw [if_pos (by decide)]
              exact m_be hρ hA h (mk_98 i2) c6 i1 (sumV_rg hA.1.1 a6 b6 q4 q5)
            · intro g τ k ⟨i1, i2⟩ hk ih
              show OK (FX12_sum_47 ρ 92 (iI c) (iI a) (iI x) (iI b) (iI y) _ g τ (iI k)) _
              unfold FX12_sum_47
              have hM' : MS τ 0 A.1.1 := ⟨(i2 _ _ (by decide)).trans hM.1, (i2 _ _ (by decide)).trans hM.2.1, fun i hi => (i2 _ _ (by decide)).trans (hM.2.2.1 i hi), fun k hk => (i2 _ _ (by decide)).trans (hM.2.2.2 k hk)⟩
              rw [if_neg (by rw [w6, iI_leN (by omega) (by omega)]; omega), hρ.2.2.2.2.2.1, ob_some, hρ.1, ob_some, m_num hM' a6 hk, ob_some, ob_some, m_num hM' b6 hk, ob_some, iI_mul, iI_mul, iI_add, ap98i (by omega) (by omega), ob_some, bn_eq, iI_succ, show ((k : Int)).toNat = k from rfl]
              refine ih _ ⟨fun i hi => ?_, fun k' i' hk' => by rw [su_k hk']; exact i2 k' i' hk'⟩
              by_cases q : i = k
              · subst q; rw [su_s]; rfl
              · rw [su_i q]; exact i1 i (by omega)
          · rw [if_neg q5, if_pos rfl, cs_neg (fun z => q5 z.2.2.2.2)]; exact m_no hρ hA h Fr.rf
        · rw [if_neg q4, if_pos rfl, cs_neg (fun z => q4 z.2.2.2.1)]; exact m_no hρ hA h Fr.rf
      · rw [e, ob_some, if_pos rfl, cs_neg (fun z => q3 z.2.2.1)]; exact m_no hρ hA h Fr.rf
    · rw [e, ob_some, if_pos rfl, cs_neg (fun z => q2 z.2.1)]; exact m_no hρ hA h Fr.rf
  · rw [e, ob_some, if_pos rfl, cs_neg (fun z => q1 z.1)]; exact m_no hρ hA h Fr.rf
