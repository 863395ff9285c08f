/-! ACTS: twist; prime -/
theorem six {i : Nat} (h : i < 6) : i = 0 ∨ i = 1 ∨ i = 2 ∨ i = 3 ∨ i = 4 ∨ i = 5 := c6 h
def twV (v : Nat → Int) (w : Int) : Nat → Int := if w = 0 then v6 (v 1) (v 0) (v 2) (v 4) (v 3) (v 5) else if w = 1 then v6 (v 0) (v 2) (v 1) (v 3) (v 5) (v 4) else v6 (v 0) (v 0 + v 1 + v 5) (v 2) (v 3 + v 4) (v 4) (2 * v 0 + v 5)
noncomputable def aTwist (A : AS) (c w : Int) : Int32 × AS := cs (inC c ∧ (0 ≤ w ∧ w ≤ 2)) (cs (∀ i, i < 6 → twV (cn A.1.1 c.toNat) w i = cn A.1.1 c.toNat i) (2, refA A 2 0) (aBec A c.toNat (twV (cn A.1.1 c.toNat) w))) (1, refA A 1 0)
theorem twV_rg {v : Nat → Int} {w : Int} (h : ∀ i, i < 6 → bd (v i) 99) : ∀ i, i < 6 → rg32 (twV v w i) := by
  have h0 := h 0 (by omega); have h1 := h 1 (by omega); have h2 := h 2 (by omega); have h3 := h 3 (by omega); have h4 := h 4 (by omega); have h5 := h 5 (by omega)
  unfold bd at h0 h1 h2 h3 h4 h5
  intro i hi
  unfold twV
  by_cases c0 : w = 0
  · rw [if_pos c0]
    rcases c6 hi with rfl | rfl | rfl | rfl | rfl | rfl <;> (refine ⟨?_, ?_⟩ <;> (simp only [v6]; omega))
  · by_cases c1 : w = 1
    · rw [if_neg c0, if_pos c1]
      rcases c6 hi with rfl | rfl | rfl | rfl | rfl | rfl <;> (refine ⟨?_, ?_⟩ <;> (simp only [v6]; omega))
    · rw [if_neg c0, if_neg c1]
      rcases c6 hi with rfl | rfl | rfl | rfl | rfl | rfl <;> (refine ⟨?_, ?_⟩ <;> (simp only [v6]; omega))
theorem c_twisted {σ : Sto} {k : Nat} {v : Nat → Int} {w : Int} (h : FI σ k v) (hw : 0 ≤ w ∧ w ≤ 2) : MX3_twisted σ k (iI w) = some (F6 σ k (twV v w)) := by
  have h0 := h 0 (by omega); have h1 := h 1 (by omega); have h2 := h 2 (by omega); have h3 := h 3 (by omega); have h4 := h 4 (by omega); have h5 := h 5 (by omega)
  unfold MX3_twisted MX3_fill twV
  rw [h0, h1, h2, h3, h4, h5]
  by_cases c0 : w = 0
  · rw [if_pos (by rw [c0]; rfl), if_pos c0]
    rfl
  · rw [if_neg (by rw [w0, iI_eq ⟨by omega, by omega⟩ ⟨by omega, by omega⟩]; exact c0), if_neg c0]
    by_cases c1 : w = 1
    · rw [if_pos (by rw [c1]; rfl), if_pos c1]
      rfl
    · rw [if_neg (by rw [w1, iI_eq ⟨by omega, by omega⟩ ⟨by omega, by omega⟩]; exact c1), if_neg c1, show (2 : Int32) = iI 2 from rfl, iI_mul, iI_add, iI_add, iI_add, iI_add]
      rfl
theorem c_like {σ : Sto} {k o : Nat} {v w : Nat → Int} (h : FI σ k v) (h' : FI σ o w) (hv : ∀ i, i < 6 → rg32 (v i)) (hw : ∀ i, i < 6 → rg32 (w i)) : ((∀ i, i < 6 → v i = w i) ∧ MX3_isLike σ k o = some 1) ∨ (¬ (∀ i, i < 6 → v i = w i) ∧ MX3_isLike σ k o = some 0) := by
  have e : ∀ i, i < 6 → (σ k i = σ o i ↔ v i = w i) := fun i hi => by rw [h i hi, h' i hi, iI_eq (hv i hi) (hw i hi)]
  unfold MX3_isLike
  by_cases d0 : v 0 = w 0
  · rw [if_pos ((e 0 (by omega)).mpr d0)]
    by_cases d1 : v 1 = w 1
    · rw [if_pos ((e 1 (by omega)).mpr d1)]
      by_cases d2 : v 2 = w 2
      · rw [if_pos ((e 2 (by omega)).mpr d2)]
        by_cases d3 : v 3 = w 3
        · rw [if_pos ((e 3 (by omega)).mpr d3)]
          by_cases d4 : v 4 = w 4
          · rw [if_pos ((e 4 (by omega)).mpr d4)]
            by_cases d5 : v 5 = w 5
            · rw [if_pos ((e 5 (by omega)).mpr d5)]
              exact Or.inl ⟨fun i hi => by rcases c6 hi with rfl | rfl | rfl | rfl | rfl | rfl <;> assumption, zr1 _⟩
            · rw [if_neg (fun z => d5 ((e 5 (by omega)).mp z))]; exact Or.inr ⟨fun z => d5 (z 5 (by omega)), zr0 _⟩
          · rw [if_neg (fun z => d4 ((e 4 (by omega)).mp z))]; exact Or.inr ⟨fun z => d4 (z 4 (by omega)), zr0 _⟩
        · rw [if_neg (fun z => d3 ((e 3 (by omega)).mp z))]; exact Or.inr ⟨fun z => d3 (z 3 (by omega)), zr0 _⟩
      · rw [if_neg (fun z => d2 ((e 2 (by omega)).mp z))]; exact Or.inr ⟨fun z => d2 (z 2 (by omega)), zr0 _⟩
    · rw [if_neg (fun z => d1 ((e 1 (by omega)).mp z))]; exact Or.inr ⟨fun z => d1 (z 1 (by omega)), zr0 _⟩
  · rw [if_neg (fun z => d0 ((e 0 (by omega)).mp z))]; exact Or.inr ⟨fun z => d0 (z 0 (by omega)), zr0 _⟩
theorem k_twist {σ : Sto} {ρ : Rho} {A : AS} {c w : Int} (hD : Dk ρ) (hA : AOK A) (h : KR σ A) (hc : rg32 c) (hw : rg32 w) : OK (MX11_twist σ ρ 0 (iI c) (iI w)) (Kq σ (aTwist A c w)) := by
  unfold MX11_twist BX11_twist_16 aTwist
  rcases k_isConic hc with ⟨q1, e⟩ | ⟨q1, e⟩
  · rw [e, ob_some, if_neg ne10]
    by_cases n0 : w < 0
    · rw [if_pos (by rw [w0, iI_lt hw ⟨by omega, by omega⟩]; exact n0), cs_neg (fun z => by omega)]; exact k_no hD h Fr.rf
    · rw [if_neg (by rw [w0, iI_lt hw ⟨by omega, by omega⟩]; exact n0)]
      by_cases n1 : w ≤ 2
      · rw [if_pos (by rw [w2, iI_le hw ⟨by omega, by omega⟩]; exact n1), cs_pos ⟨q1, by omega, n1⟩]
        obtain ⟨c, rfl, c6⟩ := inC_nat q1
        simp only [cs_tn]
        have hn := cn_rg hA.1.1 c6
        have ht := twV_rg (w := w) (fun i hi => cn_bd hA.1.1 c6 hi)
        have h1 : FI (F6 σ 87 (cn A.1.1 c)) 87 (cn A.1.1 c) := F6_FI
        rw [dk_0_0 hD, ob_some, dk_1_0 hD, ob_some, dk_0_9 hD, ob_some, c_read (Sr_2 hD) h.1.1 c6]
        show OK (Option.bind (some (F6 σ 87 (cn A.1.1 c))) _) _
        have h2 : FI (F6 (F6 σ 87 (cn A.1.1 c)) 88 (cn A.1.1 c)) 87 (cn A.1.1 c) := FI_k h1 (fun i => F6_k (by decide))
        have h3 : FI (F6 (F6 σ 87 (cn A.1.1 c)) 88 (cn A.1.1 c)) 88 (cn A.1.1 c) := F6_FI
        have fr : Fr CK σ (F6 (F6 (F6 σ 87 (cn A.1.1 c)) 88 (cn A.1.1 c)) 87 (twV (cn A.1.1 c) w)) := ((ck_F6 (by omega)).tr (ck_F6 (by omega))).tr (ck_F6 (by omega))
        rw [ob_some, dk_0_10 hD, ob_some, ob_some, c_copy h1, ob_some, ob_some, c_twisted h2 ⟨by omega, n1⟩, ob_some, ob_some, ob_some]
        rcases c_like (F6_FI (σ := F6 (F6 σ 87 (cn A.1.1 c)) 88 (cn A.1.1 c)) (k := 87) (v := twV (cn A.1.1 c) w)) (FI_k (k := 88) h3 (fun i => F6_k (by decide))) ht hn with ⟨q, e⟩ | ⟨q, e⟩
        · rw [e, ob_some, if_neg ne10, cs_pos q]; exact k_no hD h fr
        · rw [e, ob_some, if_pos rfl, cs_neg q, ob_some]
          exact k_be hD hA h fr c6 F6_FI (by omega) ht
      · rw [if_neg (by rw [w2, iI_le hw ⟨by omega, by omega⟩]; exact n1), cs_neg (fun z => by omega)]; exact k_no hD h Fr.rf
  · rw [e, ob_some, if_pos rfl, cs_neg (fun z => q1 z.1)]; exact k_no hD h Fr.rf
theorem b32_t : b32 true = 1 := rfl
theorem b32_f : b32 false = 0 := rfl
/-- the reference's comparison of its six with the row's -/
theorem m_twEnd {σ τ : Sto} {ρ : Rho} {A : AS} {c : Nat} {w : Int} {a2 : Int32} (hρ : Md ρ) (hA : AOK A) (h : MR σ A) (c6 : c < 6) (hf : Fr MK σ τ) (hM : MS τ 0 A.1.1) (hv : FI τ 98 (twV (cn A.1.1 c) w)) : OK (BX12_twist_216 ρ 92 (iI c) a2 τ ((6 : Int32) * iI c)) (Mq σ (cs (∀ i, i < 6 → twV (cn A.1.1 c) w i = cn A.1.1 c i) (2, refA A 2 0) (aBec A c (twV (cn A.1.1 c) w)))) := by
  have hn := cn_rg hA.1.1 c6
  have ht := twV_rg (w := w) (fun i hi => cn_bd hA.1.1 c6 hi)
  unfold BX12_twist_216
  rw [bn_eq, bn_eq]
  refine run_g (S := Unit) (call := fun (g : Sto → Int32 → Int32 → Int32 → Option (Int32 × Sto)) _ (k : Nat) => g τ ((6 : Int32) * iI c) (b32 (!anyB (fun i => decide (twV (cn A.1.1 c) w i ≠ cn A.1.1 c i)) k)) (iI k)) (N := 6) (I := fun _ _ => True) (Post := fun o => OK o _) ?_ ?_ (by unfold FU; omega) (k0 := 0) (by omega) (s := ()) trivial
  · intro g _ _
    show OK (FX12_twist_222 ρ 92 (iI c) a2 (BX12_twist_266 ρ 92 (iI c) a2) g τ ((6 : Int32) * iI c) (b32 (!anyB (fun i => decide (twV (cn A.1.1 c) w i ≠ cn A.1.1 c i)) 6)) (iI (6 : Nat))) _
    unfold FX12_twist_222 BX12_twist_266
    rw [if_pos (by decide)]
    cases hb : anyB (fun i => decide (twV (cn A.1.1 c) w i ≠ cn A.1.1 c i)) 6 with
    | true =>
      rw [if_pos (show b32 (!true) = 0 from rfl), cs_neg]
      · exact m_be hρ hA h hf c6 hv ht
      · intro z
        rw [any6] at hb
        simp [z 0 (by omega), z 1 (by omega), z 2 (by omega), z 3 (by omega), z 4 (by omega), z 5 (by omega)] at hb
    | false =>
      rw [if_neg (show ¬ b32 (!false) = 0 by decide), cs_pos]
      · exact m_no hρ hA h hf
      · intro i hi
        rw [any6] at hb
        simp only [Bool.or_eq_false_iff, decide_eq_false_iff_not, Classical.not_not] at hb
        obtain ⟨⟨⟨⟨⟨b0, b1⟩, b2⟩, b3⟩, b4⟩, b5⟩ := hb
        rcases six hi with rfl | rfl | rfl | rfl | rfl | rfl <;> assumption
  · intro g _ k _ hk ih
    show OK (FX12_twist_222 ρ 92 (iI c) a2 (BX12_twist_266 ρ 92 (iI c) a2) g τ ((6 : Int32) * iI c) (b32 (!anyB (fun i => decide (twV (cn A.1.1 c) w i ≠ cn A.1.1 c i)) k)) (iI k)) _
    have ih2 := ih () trivial
    rw [anyB_s] at ih2
    unfold FX12_twist_222 BX12_twist_258 BX12_twist_257 BX12_twist_258
    rw [if_neg (by rw [w6, iI_leN (by omega) (by omega)]; omega)]
    cases hb : anyB (fun i => decide (twV (cn A.1.1 c) w i ≠ cn A.1.1 c i)) k with
    | true =>
      rw [hb, Bool.true_or] at ih2
      rw [if_pos (show b32 (!true) = 0 from rfl), bn_eq, bn_eq, iI_succ]
      exact ih2
    | false =>
      rw [hb, Bool.false_or] at ih2
      rw [if_neg (show ¬ b32 (!false) = 0 by decide), hρ.2.2.2.2.2.1, ob_some, ag98i (by omega) (by omega), ob_some, show ((k : Int)).toNat = k from rfl, hv k hk, hρ.1, ob_some, m_num hM c6 hk, ob_some]
      by_cases q : twV (cn A.1.1 c) w k = cn A.1.1 c k
      · rw [decide_eq_false (fun z => z q)] at ih2
        rw [if_pos (by rw [q]), bn_eq, bn_eq, iI_succ]
        exact ih2
      · rw [decide_eq_true q] at ih2
        rw [if_neg (by rw [iI_eq (ht k hk) (hn k hk)]; exact q), bn_eq, bn_eq, iI_succ]
        exact ih2
theorem tw1 {σ : Sto} {ρ : Rho} {S : Sheet} {c : Nat} {f : Sto → Option (Int32 × Sto)} {Q : Int32 × Sto → Prop} (hρ : Md ρ) (hM : MS σ 0 S) (hc : c < 6) (j i : Nat) (hj : j < 6) (hi : i < 6) (k : OK (f (su σ 98 j (iI (cn S c i)))) Q) :
    OK (Option.bind (ρ 92 13) fun a => Option.bind (ρ 92 0) fun b => Option.bind (ag σ b ((6 : Int32) * iI c + (OfNat.ofNat i : Int32))) fun x => Option.bind (ap σ a (OfNat.ofNat j : Int32) x) f) Q := by
  rw [hρ.2.2.2.2.2.1, ob_some, hρ.1, ob_some, show (OfNat.ofNat i : Int32) = iI (i : Nat) from iI_lit i, m_num hM hc hi, ob_some, ap98 j hj, ob_some]
  exact k
theorem m_num0 {σ : Sto} {S : Sheet} {c : Nat} (hM : MS σ 0 S) (hc : c < 6) : ag σ 93 ((6 : Int32) * iI c) = some (iI (cn S c 0)) := by
  have := m_num hM hc (show 0 < 6 by omega)
  rw [show iI ((0 : Nat) : Int) = 0 from rfl, Int32.add_zero] at this
  exact this
theorem tw0 {σ : Sto} {ρ : Rho} {S : Sheet} {c : Nat} {f : Sto → Option (Int32 × Sto)} {Q : Int32 × Sto → Prop} (hρ : Md ρ) (hM : MS σ 0 S) (hc : c < 6) (j : Nat) (hj : j < 6) (k : OK (f (su σ 98 j (iI (cn S c 0)))) Q) :
    OK (Option.bind (ρ 92 13) fun a => Option.bind (ρ 92 0) fun b => Option.bind (ag σ b ((6 : Int32) * iI c)) fun x => Option.bind (ap σ a (OfNat.ofNat j : Int32) x) f) Q := by
  rw [hρ.2.2.2.2.2.1, ob_some, hρ.1, ob_some, m_num0 hM hc, ob_some, ap98 j hj, ob_some]
  exact k
theorem MS_98 {σ : Sto} {S : Sheet} {j : Nat} {x : Int32} (hM : MS σ 0 S) : MS (su σ 98 j x) 0 S := ⟨(su_k (by decide)).trans hM.1, (su_k (by decide)).trans hM.2.1, fun i hi => (su_k (by decide)).trans (hM.2.2.1 i hi), fun k hk => (su_k (by decide)).trans (hM.2.2.2 k hk)⟩
theorem mk_s98 {σ τ : Sto} {j : Nat} {x : Int32} (h : Fr MK σ τ) : Fr MK σ (su τ 98 j x) := h.tr (Fr.su (by unfold MK SC; omega))
theorem m_twist {σ : Sto} {ρ : Rho} {A : AS} {c w : Int} (hρ : Md ρ) (hA : AOK A) (h : MR σ A) (hc : rg32 c) (hw : rg32 w) : OK (MX12_twist σ ρ 92 (iI c) (iI w)) (Mq σ (aTwist A c w)) := by
  unfold MX12_twist BX12_twist_16 aTwist
  rcases m_isConic hc with ⟨q1, e⟩ | ⟨q1, e⟩
  · rw [e, ob_some, if_neg ne10, w0, w2]
    rcases m_isIn (a := w) (b := 0) (c := 2) hw ⟨by omega, by omega⟩ ⟨by omega, by omega⟩ with ⟨a1, a2, e⟩ | ⟨a, e⟩
    · rw [show iI ((0 : Nat) : Int) = iI 0 from rfl, show iI ((2 : Nat) : Int) = iI 2 from rfl, e, ob_some, if_neg (show ¬ (1 : Int32) = iI 0 by decide), cs_pos ⟨q1, a1, a2⟩]
      obtain ⟨c, rfl, c6⟩ := inC_nat q1
      simp only [cs_tn]
      refine OK.bi (m_laysIts hρ h.1.1 c6) ?_
      intro s ⟨f1, f2⟩
      have fs : Fr MK σ s := mk_98 f2
      have hM := (MR_mk hA h fs).1.1
      rw [bn_eq]
      by_cases c0 : w = 0
      · rw [if_pos (by rw [c0])]
        refine tw1 hρ hM c6 0 1 (by omega) (by omega) ?_
        refine tw0 hρ (MS_98 hM) c6 1 (by omega) ?_
        refine tw1 hρ (MS_98 (MS_98 hM)) c6 3 4 (by omega) (by omega) ?_
        refine tw1 hρ (MS_98 (MS_98 (MS_98 hM))) c6 4 3 (by omega) (by omega) ?_
        refine m_twEnd hρ hA h c6 (mk_s98 (mk_s98 (mk_s98 (mk_s98 fs)))) (MS_98 (MS_98 (MS_98 (MS_98 hM)))) (FI_cg (FI_set (FI_set (FI_set (FI_set f1)))) fun i hi => ?_)
        rw [c0]
        rcases six hi with rfl | rfl | rfl | rfl | rfl | rfl <;> rfl
      · rw [if_neg (by rw [iI_eq hw ⟨by omega, by omega⟩]; exact c0)]
        by_cases c1 : w = 1
        · rw [if_pos (by rw [c1]; rfl)]
          refine tw1 hρ hM c6 1 2 (by omega) (by omega) ?_
          refine tw1 hρ (MS_98 hM) c6 2 1 (by omega) (by omega) ?_
          refine tw1 hρ (MS_98 (MS_98 hM)) c6 4 5 (by omega) (by omega) ?_
          refine tw1 hρ (MS_98 (MS_98 (MS_98 hM))) c6 5 4 (by omega) (by omega) ?_
          refine m_twEnd hρ hA h c6 (mk_s98 (mk_s98 (mk_s98 (mk_s98 fs)))) (MS_98 (MS_98 (MS_98 (MS_98 hM)))) (FI_cg (FI_set (FI_set (FI_set (FI_set f1)))) fun i hi => ?_)
          rw [c1]
          rcases six hi with rfl | rfl | rfl | rfl | rfl | rfl <;> rfl
        · have c2 : w = 2 := by omega
          rw [if_neg (by rw [w1, iI_eq hw ⟨by omega, by omega⟩]; exact c1)]
          have n4 := fun (σ : Sto) => @m_num σ A.1.1 c 4
          have n5 := fun (σ : Sto) => @m_num σ A.1.1 c 5
          rw [hρ.2.2.2.2.2.1, ob_some, ag98 1 (by omega), ob_some, hρ.1, ob_some, m_num0 hM c6, ob_some, ob_some, show (5 : Int32) = iI ((5 : Nat) : Int) from rfl, n5 _ hM c6 (by omega), ob_some, f1 1 (by omega), iI_add, iI_add, ap98 1 (by omega), ob_some, ob_some]
          have hM1 := MS_98 (j := 1) (x := iI (cn A.1.1 c 1 + (cn A.1.1 c 0 + cn A.1.1 c 5))) hM
          rw [ag98 3 (by omega), ob_some, ob_some, show (4 : Int32) = iI ((4 : Nat) : Int) from rfl, n4 _ hM1 c6 (by omega), ob_some, su_i (by decide), f1 3 (by omega), iI_add, ap98 3 (by omega), ob_some, ob_some]
          have hM2 := MS_98 (j := 3) (x := iI (cn A.1.1 c 3 + cn A.1.1 c 4)) hM1
          rw [show iI ((5 : Nat) : Int) = (5 : Int32) from rfl, ag98 5 (by omega), ob_some, ob_some, m_num0 hM2 c6, ob_some, su_i (by decide), su_i (by decide), f1 5 (by omega), iI_mul, iI_add, ap98 5 (by omega), ob_some]
          refine m_twEnd hρ hA h c6 (mk_s98 (mk_s98 (mk_s98 fs))) (MS_98 hM2) (FI_cg (FI_set (FI_set (FI_set f1))) fun i hi => ?_)
          rw [c2]
          rcases six hi with rfl | rfl | rfl | rfl | rfl | rfl
          · rfl
          · show cn A.1.1 c 1 + (cn A.1.1 c 0 + cn A.1.1 c 5) = cn A.1.1 c 0 + cn A.1.1 c 1 + cn A.1.1 c 5
            omega
          · rfl
          · rfl
          · rfl
          · show cn A.1.1 c 5 + 2 * cn A.1.1 c 0 = 2 * cn A.1.1 c 0 + cn A.1.1 c 5
            omega
    · rw [show iI ((0 : Nat) : Int) = iI 0 from rfl, show iI ((2 : Nat) : Int) = iI 2 from rfl, e, ob_some, if_pos (show (0 : Int32) = iI 0 from rfl), cs_neg (fun z => a z.2)]; exact m_no hρ hA h Fr.rf
  · rw [e, ob_some, if_pos rfl, cs_neg (fun z => q1 z.1)]; exact m_no hρ hA h Fr.rf
