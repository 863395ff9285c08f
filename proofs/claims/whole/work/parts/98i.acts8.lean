/-! COUNT; FEED -/
def prB (S : Sheet) (c : Nat) : Bool := decide (e6m (cm S c) % S.1 ≠ 0)
theorem k_proper {σ : Sto} {ρ : Rho} {S : Sheet} (h : QV σ ρ S) : OK (MX11_properConics σ ρ 0) (fun o => o.1 = iI (ct (prB S) 6 : Nat) ∧ Fr SC σ o.2) := by
  obtain ⟨hD, hρ, -, hS, hC, hM⟩ := id h
  unfold MX11_properConics
  rw [bn_eq, bn_eq]
  refine cnt_g (S := Sto) (call := fun (g : Sto → Int32 → Int32 → Option (Int32 × Sto)) s (v k : Nat) => g s (iI v) (iI k)) (N := 6) (P := prB S) (I := fun s => Fr SC σ s) (Post := fun r => OK r _) ?_ ?_ (by unfold FU; omega) (s := σ) Fr.rf
  · intro g s i1
    unfold FX11_properConics_4
    rw [if_pos (by decide)]
    exact OK.so ⟨rfl, i1⟩
  · intro g s v k i1 hk hv
    obtain ⟨s2, e, r1, r2⟩ := c_take (k := 83) (dk_83_0 hD) (by omega) (Sr_2 hD) hS (QV_fr h i1).2.2.2.2.1 hk
    refine ⟨s2, i1.tr (sc_C2 r2 (by omega)), ?_⟩
    unfold FX11_properConics_4 BX11_properConics_39
    rw [if_neg (by rw [w6, iI_leN (by omega) (by omega)]; omega), dk_0_7 hD, ob_some, dk_0_0 hD, ob_some, dk_1_0 hD, ob_some, e, ob_some, ob_some, c_kind (dk_83_0 hD) hS.1 r1, ob_some]
    unfold prB
    by_cases q : e6m (cm S k) % S.1 ≠ 0
    · rw [if_pos (by rw [kdm_4.mpr q]; rfl), decide_eq_true q, bn_eq, bn_eq, iI_succ, iI_succ]; rfl
    · have : kdm S.1 (cm S k) ≤ 4 := kdm_le
      rw [if_neg (by rw [w4, iI_eqN (by omega) (by omega)]; exact fun z => q (kdm_4.mp z)), decide_eq_false q, bn_eq, iI_succ]; rfl
theorem m_proper {σ : Sto} {ρ : Rho} {S : Sheet} (h : QV σ ρ S) : OK (MX12_proper σ ρ 92) (fun o => o.1 = iI (ct (prB S) 6 : Nat) ∧ Fr SC σ o.2) := by
  obtain ⟨hD, hρ, -, hS, hC, hM⟩ := id h
  unfold MX12_proper
  rw [bn_eq, bn_eq]
  refine cnt_g (S := Sto) (call := fun (g : Sto → Int32 → Int32 → Option (Int32 × Sto)) s (v k : Nat) => g s (iI v) (iI k)) (N := 6) (P := prB S) (I := fun s => Fr SC σ s) (Post := fun r => OK r _) ?_ ?_ (by unfold FU; omega) (s := σ) Fr.rf
  · intro g s i1
    unfold FX12_proper_4
    rw [if_pos (by decide)]
    exact OK.so ⟨rfl, i1⟩
  · intro g s v k i1 hk hv
    obtain ⟨s2, e, r1, r2⟩ := m_layN hρ hS (QV_fr h i1).2.2.2.2.2 hk
    obtain ⟨⟨x, s3⟩, e3, r3, r4⟩ := m_rankOf hρ hS.1 r1
    dsimp only at r3 r4
    refine ⟨s3, (i1.tr (r2.mo fun _ _ h => sc_PM h)).tr (r4.mo fun _ _ h => sc_RX h), ?_⟩
    unfold FX12_proper_4 BX12_proper_30
    rw [if_neg (by rw [w6, iI_leN (by omega) (by omega)]; omega), e, ob_some, e3, ob_some]
    dsimp only
    rw [r3]
    unfold prB
    by_cases q : e6m (cm S k) % S.1 ≠ 0
    · rw [if_pos (by rw [rkm_3'.mpr q]; rfl), decide_eq_true q, bn_eq, bn_eq, iI_succ, iI_succ]; rfl
    · have : rkm S.1 (cm S k) ≤ 3 := rkm_le
      rw [if_neg (by rw [w3, iI_eqN (by omega) (by omega)]; exact fun z => q (rkm_3'.mp z)), decide_eq_false q, bn_eq, bn_eq, iI_succ]
      rw [show iI (v : Int) + (0 : Int32) = iI (v : Int) from Int32.add_zero _]; rfl
noncomputable def aCount (A : AS) (w : Int) : Int32 := cs (w = 0) (iI A.1.1.1) (cs (w = 1) (iI (NP A.1.1.1 : Nat)) (cs (w = 2) (iI A.1.1.2.1.length) (cs (w = 3) (iI (frN A.1.1 : Nat)) (cs (w = 4) (iI A.2.1.length) (cs (w = 5) (iI A.1.2.2.1) (cs (w = 6) (iI (ct (prB A.1.1) 6 : Nat)) (cs (w = 7) (iI (ct (linB A.1.1.1 A.1.1.2.1) A.1.1.2.1.length : Nat)) (-1))))))))
theorem k_count {σ : Sto} {ρ : Rho} {A : AS} {w : Int} (h : Rel σ ρ A) (hw : rg32 w) : OK (MX11_count σ ρ 0 (iI w)) (fun o => o.1 = aCount A w ∧ Fr SC σ o.2.1 ∧ RFr ρ o.2.2 ∧ Pm o.2.2) := by
  obtain ⟨hD, hρ, hP, hA, hK, hM⟩ := id h
  have hq := h.qv
  have ne : ∀ n : Nat, n < 100 → ¬ w = n → ¬ (iI w = iI (n : Int)) := fun n hn h => by rw [iI_eq hw ⟨by omega, by omega⟩]; exact h
  unfold MX11_count aCount
  by_cases c0 : w = 0
  · rw [if_pos (by rw [c0]; rfl), cs_pos c0, dk_0_0 hD, ob_some, dk_1_0 hD, ob_some]
    exact OK.so ⟨hK.1.1.1, Fr.rf, RFr.rf, hP⟩
  rw [if_neg (show ¬ (iI w = (0 : Int32)) from ne 0 (by omega) c0), cs_neg c0]
  by_cases c1 : w = 1
  · rw [if_pos (by rw [c1]; rfl), cs_pos c1, dk_0_0 hD, ob_some, dk_1_0 hD, ob_some, hK.1.1.1, c_points, ob_some]
    exact OK.so ⟨rfl, Fr.rf, RFr.rf, hP⟩
  rw [if_neg (show ¬ (iI w = (1 : Int32)) from ne 1 (by omega) c1), cs_neg c1]
  by_cases c2 : w = 2
  · rw [if_pos (by rw [c2]; rfl), cs_pos c2, dk_0_0 hD, ob_some, dk_1_0 hD, ob_some]
    exact OK.so ⟨hK.1.1.2.1, Fr.rf, RFr.rf, hP⟩
  rw [if_neg (show ¬ (iI w = (2 : Int32)) from ne 2 (by omega) c2), cs_neg c2]
  by_cases c3 : w = 3
  · rw [if_pos (by rw [c3]; rfl), cs_pos c3, dk_0_6 hD, ob_some, dk_0_0 hD, ob_some, dk_1_0 hD, ob_some]
    refine OK.bi (c_gather hD hP hA.1.1 hK.1.1) ?_
    rintro ⟨s2, ρ2⟩ ⟨f, B, g1, g2, g3, g4⟩
    dsimp only at g1 g3 g4 ⊢
    rw [dk_0_6 (hD.fr g3), ob_some, frN_eq hA.1.1.1 ⟨B, g2⟩]
    exact OK.so ⟨g1.2.1, g4.mo (fun _ _ h => sc_FX h), g3, g1.pm⟩
  rw [if_neg (show ¬ (iI w = (3 : Int32)) from ne 3 (by omega) c3), cs_neg c3]
  by_cases c4 : w = 4
  · rw [if_pos (by rw [c4]; rfl), cs_pos c4, dk_0_1 hD, ob_some]
    obtain ⟨nx, p1, p2, p3, p4⟩ := hK.2.1
    exact OK.so ⟨p3, Fr.rf, RFr.rf, hP⟩
  rw [if_neg (show ¬ (iI w = (4 : Int32)) from ne 4 (by omega) c4), cs_neg c4]
  by_cases c5 : w = 5
  · rw [if_pos (by rw [c5]; rfl), cs_pos c5, dk_0_0 hD, ob_some, dk_1_1 hD, ob_some]
    exact OK.so ⟨hK.1.2.1, Fr.rf, RFr.rf, hP⟩
  rw [if_neg (show ¬ (iI w = (5 : Int32)) from ne 5 (by omega) c5), cs_neg c5]
  by_cases c6 : w = 6
  · rw [if_pos (by rw [c6]; rfl), cs_pos c6]
    refine OK.bi (k_proper hq) ?_
    intro o ⟨r1, r2⟩
    exact OK.so ⟨r1, r2, RFr.rf, hP⟩
  rw [if_neg (show ¬ (iI w = (6 : Int32)) from ne 6 (by omega) c6), cs_neg c6]
  by_cases c7 : w = 7
  · rw [if_pos (by rw [c7]; rfl), cs_pos c7]
    refine OK.bi (k_lined hq) ?_
    intro o ⟨r1, r2⟩
    exact OK.so ⟨r1, r2, RFr.rf, hP⟩
  rw [if_neg (show ¬ (iI w = (7 : Int32)) from ne 7 (by omega) c7), cs_neg c7]
  exact OK.so ⟨rfl, Fr.rf, RFr.rf, hP⟩
theorem m_count {σ : Sto} {ρ : Rho} {A : AS} {w : Int} (h : Rel σ ρ A) (hw : rg32 w) : OK (MX12_count σ ρ 92 (iI w)) (fun o => o.1 = aCount A w ∧ Fr SC σ o.2) := by
  obtain ⟨hD, hρ, hP, hA, hK, hM⟩ := id h
  have ne : ∀ n : Nat, n < 100 → ¬ w = n → ¬ (iI w = iI (n : Int)) := fun n hn h => by rw [iI_eq hw ⟨by omega, by omega⟩]; exact h
  unfold MX12_count aCount
  have e36 : σ 93 36 = iI A.1.1.1 := hM.1.1.1
  have f7 : Fr SC σ (su σ 92 7 (iI A.1.1.1)) := sc_su7
  have hq := QV_fr h.qv f7
  have hM' := hq.2.2.2.2.2
  rw [hρ.1, ob_some, ag93 36 (by decide), ob_some, bn_eq, e36]
  by_cases c0 : w = 0
  · rw [if_pos (by rw [c0]; rfl), cs_pos c0]
    rw [su_s]
    exact OK.so ⟨rfl, f7⟩
  rw [if_neg (show ¬ (iI w = (0 : Int32)) from ne 0 (by omega) c0), cs_neg c0]
  by_cases c1 : w = 1
  · rw [if_pos (by rw [c1]; rfl), cs_pos c1, m_places su_s, ob_some]
    exact OK.so ⟨rfl, f7⟩
  rw [if_neg (show ¬ (iI w = (1 : Int32)) from ne 1 (by omega) c1), cs_neg c1]
  by_cases c2 : w = 2
  · rw [if_pos (by rw [c2]; rfl), cs_pos c2, ob_some, ag93 37 (by decide), ob_some]
    exact OK.so ⟨hM'.2.1, f7⟩
  rw [if_neg (show ¬ (iI w = (2 : Int32)) from ne 2 (by omega) c2), cs_neg c2]
  by_cases c3 : w = 3
  · rw [if_pos (by rw [c3]; rfl), cs_pos c3]
    refine OK.bi (m_rank0 hρ hA.1.1 hM') ?_
    rintro ⟨v, s2⟩ ⟨n, M', u1, u2, -, -, u3⟩
    have := RI_fr hA.1.1.1 u2 (fr_ex hq).1
    dsimp only at u1 u3 ⊢
    refine OK.so ⟨?_, f7.tr (u3.mo fun _ _ h => sc_QP h)⟩
    rw [u1, show (6 : Int32) = iI 6 from rfl, iI_sub, show (6 : Int) - (n : Int) = ((frN A.1.1 : Nat) : Int) by omega]
  rw [if_neg (show ¬ (iI w = (3 : Int32)) from ne 3 (by omega) c3), cs_neg c3]
  by_cases c4 : w = 4
  · rw [if_pos (by rw [c4]; rfl), cs_pos c4, su_i (by decide)]
    exact OK.so ⟨hM.2.1.1, f7⟩
  rw [if_neg (show ¬ (iI w = (4 : Int32)) from ne 4 (by omega) c4), cs_neg c4]
  by_cases c5 : w = 5
  · rw [if_pos (by rw [c5]; rfl), cs_pos c5, su_i (by decide)]
    exact OK.so ⟨hM.1.2.1, f7⟩
  rw [if_neg (show ¬ (iI w = (5 : Int32)) from ne 5 (by omega) c5), cs_neg c5]
  by_cases c6 : w = 6
  · rw [if_pos (by rw [c6]; rfl), cs_pos c6]
    refine OK.bi (m_proper hq) ?_
    intro o ⟨r1, r2⟩
    exact OK.so ⟨r1, f7.tr r2⟩
  rw [if_neg (show ¬ (iI w = (6 : Int32)) from ne 6 (by omega) c6), cs_neg c6]
  by_cases c7 : w = 7
  · rw [if_pos (by rw [c7]; rfl), cs_pos c7]
    refine OK.bi (m_lined hq) ?_
    intro o ⟨r1, r2⟩
    exact OK.so ⟨r1, f7.tr r2⟩
  rw [if_neg (show ¬ (iI w = (7 : Int32)) from ne 7 (by omega) c7), cs_neg c7]
  exact OK.so ⟨rfl, f7⟩
/-- a word's bytes: s is 24, 16, 8, 0 -/
def byt (x : Int32) (s : Nat) : Int := ((x.toBitVec.ushiftRight s).setWidth 8).toNat
theorem byt_le {x : Int32} {s : Nat} : 0 ≤ byt x s ∧ byt x s ≤ 255 := by
  unfold byt
  have := ((x.toBitVec.ushiftRight s).setWidth 8).isLt
  omega
theorem bit255 : ∀ i, i < 32 → (255#32).getLsbD i = decide (i < 8) := by decide +kernel
theorem low8 {y : Int32} {b : BitVec 8} (h : ∀ i, i < 8 → y.toBitVec.getLsbD i = b.getLsbD i) : y &&& 255 = iI (b.toNat : Nat) := by
  apply Int32.toBitVec_inj.mp
  show y.toBitVec &&& 255#32 = BitVec.ofInt 32 (b.toNat : Int)
  rw [BitVec.ofInt_natCast]
  apply BitVec.eq_of_getLsbD_eq
  intro i hi
  rw [BitVec.getLsbD_and, bit255 i hi, BitVec.getLsbD_ofNat]
  have e : b.toNat.testBit i = b.getLsbD i := rfl
  rw [e]
  by_cases c : i < 8
  · rw [h i c, decide_eq_true c, decide_eq_true hi]; simp
  · rw [decide_eq_false c, BitVec.getLsbD_of_ge b i (by omega)]; simp
theorem byt_bit {x : Int32} {s i : Nat} (hi : i < 8) : ((x.toBitVec.ushiftRight s).setWidth 8).getLsbD i = x.toBitVec.getLsbD (s + i) := by
  rw [BitVec.getLsbD_setWidth, decide_eq_true hi, Bool.true_and]
  exact BitVec.getLsbD_ushiftRight ..
/-- the reference's -/
theorem r_byt {x : Int32} (s : Nat) (hs : s = 0 ∨ s = 8 ∨ s = 16 ∨ s = 24) : (x >>> (iI (s : Nat))) &&& 255 = iI (byt x s) := by
  refine low8 (fun i hi => ?_)
  rw [byt_bit hi]
  have e : (x >>> iI (s : Nat)).toBitVec = x.toBitVec.sshiftRight s := by
    rcases hs with rfl | rfl | rfl | rfl <;> rfl
  rw [e, BitVec.getLsbD_sshiftRight]
  have : s + i < 32 := by omega
  simp [this, show ¬ (32 ≤ i) by omega]
/-- the class's -/
theorem c_byt {x : Int32} (s : Nat) (hs : s = 0 ∨ s = 8 ∨ s = 16 ∨ s = 24) : ((((x.toUInt32 >>> ((iI (s : Nat)).toUInt32 &&& Int32.toUInt32 31)).toInt32).toInt8.toInt32).toInt8.toInt32) &&& 255 = iI (byt x s) := by
  refine low8 (fun i hi => ?_)
  rw [byt_bit hi]
  have e : (x.toUInt32 >>> ((iI (s : Nat)).toUInt32 &&& Int32.toUInt32 31)).toInt32.toBitVec = x.toBitVec.ushiftRight s := by
    rcases hs with rfl | rfl | rfl | rfl <;> rfl
  have g : ∀ y : Int32, (y.toInt8.toInt32).toBitVec.getLsbD i = y.toBitVec.getLsbD i := fun y => by
    show ((y.toBitVec.signExtend 8).signExtend 32).getLsbD i = _
    rw [BitVec.getLsbD_signExtend, BitVec.getLsbD_signExtend]
    simp [show i < 32 by omega, hi]
  rw [g, g, e]
  exact BitVec.getLsbD_ushiftRight ..
/-- feed -/
def wd5 (a b c d e : Int32) (j : Nat) : Int32 := if j = 0 then a else if j = 1 then b else if j = 2 then c else if j = 3 then d else e
def fedB (a b c d e : Int32) (tp : Nat → Int) (tl i : Nat) : Int := if tl ≤ i ∧ i < tl + 20 then byt (wd5 a b c d e ((i - tl) / 4)) (24 - 8 * ((i - tl) % 4)) else tp i
def fedA (A : AS) (a b c d e : Int32) : AS := ((A.1.1, fedB a b c d e A.1.2.1 A.1.2.2.1, A.1.2.2.1 + 20, A.1.2.2.2), A.2)
def aFeed (A : AS) (a b c d e : Int32) : Int32 × AS := if A.1.2.2.1 ≤ 480 then (iI ((A.1.2.2.1 + 20 : Nat) : Int), fedA A a b c d e) else (-1, A)
theorem AOK_feed {A : AS} {a b c d e : Int32} (h : AOK A) : AOK (aFeed A a b c d e).2 := by
  unfold aFeed
  by_cases q : A.1.2.2.1 ≤ 480
  · rw [if_pos q]
    refine ⟨⟨h.1.1, (by show A.1.2.2.1 + 20 ≤ 500; omega), fun i hi => ?_⟩, h.2⟩
    show 0 ≤ fedB a b c d e A.1.2.1 A.1.2.2.1 i ∧ fedB a b c d e A.1.2.1 A.1.2.2.1 i ≤ 255
    unfold fedB
    by_cases r : A.1.2.2.1 ≤ i ∧ i < A.1.2.2.1 + 20
    · rw [if_pos r]; exact byt_le
    · rw [if_neg r]; exact h.1.2.2 i hi
  · rw [if_neg q]; exact h
theorem ln6 : ln 6 = 500 := by decide +kernel
theorem c_addFour {σ : Sto} {ρ : Rho} {n : Nat} {x : Int32} (hD : Dk ρ) (hn : n + 4 ≤ 500) (h : σ 5 1 = iI n) : OK (MX9_addFour σ ρ 5 x) (fun s => s 5 1 = iI ((n + 4 : Nat) : Int) ∧ (∀ i, n ≤ i → i < n + 4 → s 6 i &&& 255 = iI (byt x (24 - 8 * (i - n)))) ∧ (∀ i, i < n ∨ n + 4 ≤ i → s 6 i = σ 6 i) ∧ ∀ k i, k ≠ 6 → ¬ (k = 5 ∧ i = 1) → s k i = σ k i) := by
  unfold MX9_addFour
  rw [bn_eq, show (24 : Int32) = iI (24 - 8 * ((0 : Nat) : Int)) from rfl]
  refine run_g (S := Sto) (call := fun (g : Sto → Int32 → Option Sto) τ (j : Nat) => g τ (iI (24 - 8 * (j : Int)))) (N := 4) (I := fun j τ => τ 5 1 = iI ((n + j : Nat) : Int) ∧ (∀ i, n ≤ i → i < n + j → τ 6 i &&& 255 = iI (byt x (24 - 8 * (i - n)))) ∧ (∀ i, i < n ∨ n + j ≤ i → τ 6 i = σ 6 i) ∧ ∀ k i, k ≠ 6 → ¬ (k = 5 ∧ i = 1) → τ k i = σ k i) (Post := fun o => OK o _) ?_ ?_ (by unfold FU; omega) (k0 := 0) (by omega) (s := σ) ⟨h, fun i a b => by omega, fun _ _ => rfl, fun _ _ _ _ => rfl⟩
  · intro g τ hI
    show OK (FX9_addFour_3 ρ 5 x g τ (iI (24 - 8 * ((4 : Nat) : Int)))) _
    unfold FX9_addFour_3
    rw [if_pos (by decide)]
    exact OK.so hI
  · intro g τ j ⟨i1, i2, i3, i4⟩ hj ih
    show OK (FX9_addFour_3 ρ 5 x g τ (iI (24 - 8 * (j : Int)))) _
    unfold FX9_addFour_3 BX9_addFour_47
    rw [if_neg (by rw [w0, iI_lt ⟨by omega, by omega⟩ ⟨by omega, by omega⟩]; omega), i1, if_neg (by rw [w0, iI_lt ⟨by omega, by omega⟩ ⟨by omega, by omega⟩]; omega), if_neg (by rw [show (500 : Int32) = iI ((500 : Nat) : Int) from rfl, iI_leN (by omega) (by omega)]; omega), dk_5_0 hD, ob_some, ap_ok (by omega) (by rw [ln6]; omega) (by rw [ln6]; omega), ob_some, bn_eq, bn_eq, show (((n + j : Nat) : Int)).toNat = n + j from rfl, su_k (by decide), i1, iI_succ, show iI (24 - 8 * (j : Int)) + (-8 : Int32) = iI (24 - 8 * ((j + 1 : Nat) : Int)) by rw [show (-8 : Int32) = iI (-8) from rfl, iI_add]; congr 1; omega]
    refine ih _ ⟨by rw [su_s]; rfl, fun i a b => ?_, fun i hi => ?_, fun k i a b => ?_⟩
    · rw [su_k (by decide)]
      by_cases q : i = n + j
      · subst q
        rw [su_s, show (24 - 8 * (j : Int)) = ((24 - 8 * j : Nat) : Int) by omega, c_byt (24 - 8 * j) (by omega), show n + j - n = j by omega]
      · rw [su_i q]; exact i2 i a (by omega)
    · rw [su_k (by decide), su_i (by omega)]; exact i3 i (by omega)
    · rw [su_n (by omega), su_k a]; exact i4 k i a b
theorem k_feed {σ : Sto} {ρ : Rho} {A : AS} {a b c d e : Int32} (hD : Dk ρ) (hA : AOK A) (h : KR σ A) : OK (MX11_feed σ ρ 0 a b c d e) (Kq σ (aFeed A a b c d e)) := by
  have hl := hA.1.2.1
  unfold MX11_feed aFeed
  rw [dk_0_0 hD, ob_some, dk_1_1 hD, ob_some, h.1.2.1]
  by_cases q : A.1.2.2.1 ≤ 480
  · generalize hn : A.1.2.2.1 = n at *
    rw [if_pos (by rw [show (480 : Int32) = iI ((480 : Nat) : Int) from rfl, iI_leN (by omega) (by omega)]; exact q), if_pos q, ob_some, dk_1_1 hD, ob_some]
    have h51 : σ 5 1 = iI n := by rw [← hn]; exact h.1.2.1
    refine OK.bi (c_addFour hD (by omega) h51) ?_
    intro s1 ⟨a1, a2, a3, a4⟩
    rw [ob_some, dk_1_1 hD, ob_some]
    refine OK.bi (c_addFour hD (by omega) a1) ?_
    intro s2 ⟨b1, b2, b3, b4⟩
    rw [ob_some, dk_1_1 hD, ob_some]
    refine OK.bi (c_addFour hD (by omega) b1) ?_
    intro s3 ⟨c1, c2, c3, c4⟩
    rw [ob_some, dk_1_1 hD, ob_some]
    refine OK.bi (c_addFour hD (by omega) c1) ?_
    intro s4 ⟨d1, d2, d3, d4⟩
    rw [ob_some, dk_1_1 hD, ob_some]
    refine OK.bi (c_addFour hD (by omega) d1) ?_
    intro s5 ⟨e1, e2, e3, e4⟩
    rw [ob_some, dk_1_1 hD, ob_some, e1]
    have fr : ∀ k i, k ≠ 6 → ¬ (k = 5 ∧ i = 1) → s5 k i = σ k i := fun k i x y => by rw [e4 k i x y, d4 k i x y, c4 k i x y, b4 k i x y, a4 k i x y]
    obtain ⟨hm, hp, hi⟩ := h
    have key : KR s5 (fedA A a b c d e) := by
      refine ⟨⟨CS_k hm.1 (fun i => fr _ _ (by decide) (by omega)) (fun i => fr _ _ (by decide) (by omega)) (fun i => fr _ _ (by decide) (by omega)), ?_, fun i hi => ?_, (fr _ _ (by decide) (by omega)).trans hm.2.2.2.1, (fr _ _ (by decide) (by omega)).trans hm.2.2.2.2.1, (fr _ _ (by decide) (by omega)).trans hm.2.2.2.2.2.1, (fr _ _ (by decide) (by omega)).trans hm.2.2.2.2.2.2⟩, KP_fr hp (fun k i x y => fr k i (by omega) (by omega)), KI_fr hi (fun k i x y => fr k i (by omega) (by omega))⟩
      · show s5 5 1 = iI ((A.1.2.2.1 + 20 : Nat) : Int)
        rw [e1, hn]
      · show s5 6 i &&& 255 = iI (fedB a b c d e A.1.2.1 A.1.2.2.1 i)
        unfold fedB
        rw [hn]
        by_cases r : n ≤ i ∧ i < n + 20
        · rw [if_pos r]
          by_cases r1 : i < n + 4
          · rw [e3 i (by omega), d3 i (by omega), c3 i (by omega), b3 i (by omega), a2 i (by omega) r1, show (i - n) / 4 = 0 by omega, show (i - n) % 4 = i - n by omega]; rfl
          · by_cases r2 : i < n + 8
            · rw [e3 i (by omega), d3 i (by omega), c3 i (by omega), b2 i (by omega) (by omega), show (i - n) / 4 = 1 by omega, show (i - n) % 4 = i - (n + 4) by omega]; rfl
            · by_cases r3 : i < n + 12
              · rw [e3 i (by omega), d3 i (by omega), c2 i (by omega) (by omega), show (i - n) / 4 = 2 by omega, show (i - n) % 4 = i - (n + 4 + 4) by omega]; rfl
              · by_cases r4 : i < n + 16
                · rw [e3 i (by omega), d2 i (by omega) (by omega), show (i - n) / 4 = 3 by omega, show (i - n) % 4 = i - (n + 4 + 4 + 4) by omega]; rfl
                · rw [e2 i (by omega) (by omega), show (i - n) / 4 = 4 by omega, show (i - n) % 4 = i - (n + 4 + 4 + 4 + 4) by omega]; rfl
        · rw [if_neg r, e3 i (by omega), d3 i (by omega), c3 i (by omega), b3 i (by omega), a3 i (by omega)]; exact hm.2.2.1 i hi
    exact OK.so ⟨rfl, key, fun k i hk => fr k i (by unfold CL at hk; omega) (by unfold CL at hk; omega)⟩
  · rw [if_neg (by rw [show (480 : Int32) = iI ((480 : Nat) : Int) from rfl, iI_leN (by omega) (by omega)]; exact q), if_neg q]
    exact OK.so ⟨rfl, h, Fr.rf⟩
theorem and3 : ∀ k, k < 20 → (iI ((k : Nat) : Int) &&& (3 : Int32)) = iI ((k % 4 : Nat) : Int) := by decide +kernel
theorem and31 : ∀ k, k < 4 → (((24 : Int32) - ((8 : Int32) * iI ((k : Nat) : Int))) &&& 31) = iI ((24 - 8 * k : Nat) : Int) := by decide +kernel
theorem m_feed {σ : Sto} {ρ : Rho} {A : AS} {a b c d e : Int32} (hρ : Md ρ) (hA : AOK A) (h : MR σ A) : OK (MX12_feed σ ρ 92 a b c d e) (Mq σ (aFeed A a b c d e)) := by
  have hl := hA.1.2.1
  have e3 := h.1.2.1
  unfold MX12_feed aFeed
  rw [e3, show iI (A.1.2.2.1 : Int) + (20 : Int32) = iI ((A.1.2.2.1 + 20 : Nat) : Int) by rw [show (20 : Int32) = iI 20 from rfl, iI_add]; congr 1]
  by_cases q : A.1.2.2.1 ≤ 480
  · rw [if_pos (by rw [show (500 : Int32) = iI ((500 : Nat) : Int) from rfl, iI_leN (by omega) (by omega)]; omega), if_pos q, bn_eq]
    have wv : ∀ i, 0 ≤ fedB a b c d e A.1.2.1 A.1.2.2.1 i ∨ True := fun _ => Or.inr trivial
    refine run_g (S := Sto) (call := fun (g : Sto → Int32 → Option (Int32 × Sto)) τ (j : Nat) => g τ (iI j)) (N := 20) (I := fun j τ => (∀ i, i < 500 → τ 94 i = if A.1.2.2.1 ≤ i ∧ i < A.1.2.2.1 + j then iI (fedB a b c d e A.1.2.1 A.1.2.2.1 i) else σ 94 i) ∧ ∀ k i, k ≠ 94 → τ k i = σ k i) (Post := fun o => OK o _) ?_ ?_ (by unfold FU; omega) (k0 := 0) (by omega) (s := σ) ⟨fun i hi => by rw [if_neg (by omega)], fun _ _ _ => rfl⟩
    · intro g τ ⟨i1, i2⟩
      show OK (FX12_feed_18 ρ 92 a b c d e (BX12_feed_108 ρ 92 a b c d e) g τ (iI (20 : Nat))) _
      unfold FX12_feed_18 BX12_feed_108
      rw [if_pos (by decide), bn_eq, i2 92 3 (by decide), e3, show iI (A.1.2.2.1 : Int) + (20 : Int32) = iI ((A.1.2.2.1 + 20 : Nat) : Int) by rw [show (20 : Int32) = iI 20 from rfl, iI_add]; congr 1, su_s]
      have fr : ∀ k i, k ≠ 94 → ¬ (k = 92 ∧ i = 3) → su τ 92 3 (iI ((A.1.2.2.1 + 20 : Nat) : Int)) k i = σ k i := fun k i x y => by rw [su_n (by omega)]; exact i2 k i x
      obtain ⟨hm, hp, hi⟩ := h
      have key : MR (su τ 92 3 (iI ((A.1.2.2.1 + 20 : Nat) : Int))) (fedA A a b c d e) := by
        refine ⟨⟨MS_e hm.1 hA.1.1.2.1 (fun j hj => fr _ _ (by decide) (by omega)), su_s, fun i hi => ?_, (fr _ _ (by decide) (by omega)).trans hm.2.2.2.1, (fr _ _ (by decide) (by omega)).trans hm.2.2.2.2.1, (fr _ _ (by decide) (by omega)).trans hm.2.2.2.2.2.1, (fr _ _ (by decide) (by omega)).trans hm.2.2.2.2.2.2⟩, MP_fr (L := A.2.1) hp (past8 hA) hA.2.2.1 (fr _ _ (by decide) (by omega)) (fun i x y => fr _ _ (by decide) (by omega)), MI_fr (im := A.2.2) hi hA.2.2.2 (fun i hi => fr _ _ (by decide) (by omega)) (fun i x y => fr _ _ (by decide) (by omega))⟩
        show _ = iI (fedB a b c d e A.1.2.1 A.1.2.2.1 i)
        rw [su_k (by decide), i1 i hi]
        by_cases r : A.1.2.2.1 ≤ i ∧ i < A.1.2.2.1 + 20
        · rw [if_pos r]
        · rw [if_neg r]
          unfold fedB
          rw [if_neg r]; exact hm.2.2.1 i hi
      exact OK.so ⟨rfl, key, fun k i hk => fr k i (by unfold ML at hk; omega) (by unfold ML at hk; omega)⟩
    · intro g τ j ⟨i1, i2⟩ hj ih
      show OK (FX12_feed_18 ρ 92 a b c d e (BX12_feed_108 ρ 92 a b c d e) g τ (iI j)) _
      have step : ∀ x : Int32, x = wd5 a b c d e (j / 4) → OK (BX12_feed_71 ρ 92 a b c d e g (BX12_feed_108 ρ 92 a b c d e) τ (iI j) x) (Mq σ (iI ((A.1.2.2.1 + 20 : Nat) : Int), fedA A a b c d e)) := by
        intro x hx
        unfold BX12_feed_71
        rw [bn_eq, hρ.2.1, ob_some, i2 92 3 (by decide), e3, iI_add, and3 j hj, and31 (j % 4) (by omega), r_byt (24 - 8 * (j % 4)) (by omega), show ((A.1.2.2.1 : Int) + (j : Int)) = ((A.1.2.2.1 + j : Nat) : Int) from rfl, ap94c (by omega), ob_some, bn_eq, iI_succ]
        refine ih _ ⟨fun i hi => ?_, fun k i hk => by rw [su_k hk]; exact i2 k i hk⟩
        by_cases r : i = A.1.2.2.1 + j
        · subst r
          rw [su_s, if_pos (by omega)]
          unfold fedB
          rw [if_pos (by omega), show A.1.2.2.1 + j - A.1.2.2.1 = j by omega, hx]
        · rw [su_i r, i1 i hi]
          by_cases r2 : A.1.2.2.1 ≤ i ∧ i < A.1.2.2.1 + j
          · rw [if_pos r2, if_pos (by omega)]
          · rw [if_neg r2, if_neg (by omega)]
      have le : ∀ m : Nat, m < 100 → ((iI ((m : Nat) : Int) ≤ iI (j : Int)) ↔ m ≤ j) := fun m hm => iI_leN (by omega) (by omega)
      unfold FX12_feed_18
      rw [if_neg (by rw [show (20 : Int32) = iI ((20 : Nat) : Int) from rfl, le 20 (by omega)]; omega)]
      by_cases r1 : 4 ≤ j
      · rw [if_pos (by rw [w4, le 4 (by omega)]; exact r1)]
        by_cases r2 : 8 ≤ j
        · rw [if_pos (by rw [w8, le 8 (by omega)]; exact r2)]
          by_cases r3 : 12 ≤ j
          · rw [if_pos (by rw [show (12 : Int32) = iI ((12 : Nat) : Int) from rfl, le 12 (by omega)]; exact r3)]
            by_cases r4 : 16 ≤ j
            · rw [if_pos (by rw [show (16 : Int32) = iI ((16 : Nat) : Int) from rfl, le 16 (by omega)]; exact r4)]
              exact step _ (by rw [show j / 4 = 4 by omega]; rfl)
            · rw [if_neg (by rw [show (16 : Int32) = iI ((16 : Nat) : Int) from rfl, le 16 (by omega)]; exact r4)]
              exact step _ (by rw [show j / 4 = 3 by omega]; rfl)
          · rw [if_neg (by rw [show (12 : Int32) = iI ((12 : Nat) : Int) from rfl, le 12 (by omega)]; exact r3)]
            exact step _ (by rw [show j / 4 = 2 by omega]; rfl)
        · rw [if_neg (by rw [w8, le 8 (by omega)]; exact r2)]
          exact step _ (by rw [show j / 4 = 1 by omega]; rfl)
      · rw [if_neg (by rw [w4, le 4 (by omega)]; exact r1)]
        exact step _ (by rw [show j / 4 = 0 by omega]; rfl)
  · rw [if_neg (by rw [show (500 : Int32) = iI ((500 : Nat) : Int) from rfl, iI_leN (by omega) (by omega)]; omega), if_neg q]
    exact OK.so ⟨rfl, h, Fr.rf⟩
