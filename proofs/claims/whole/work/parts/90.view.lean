/-! QUESTIONS: what both sides hold, what is scratch -/
def SC (k i : Nat) : Prop := (53 ≤ k ∧ k ≤ 91) ∨ (k = 92 ∧ 7 ≤ i) ∨ (96 ≤ k ∧ k ≤ 99) ∨ (k = 93 ∧ 48 ≤ i ∧ i < 94)
def QV (σ : Sto) (ρ : Rho) (S : Sheet) : Prop := Dk ρ ∧ Md ρ ∧ Pm ρ ∧ SOK S ∧ CS σ 2 S ∧ MS σ 0 S
theorem QV_fr {σ σ' : Sto} {ρ : Rho} {S : Sheet} (h : QV σ ρ S) (hf : Fr SC σ σ') : QV σ' ρ S := by
  obtain ⟨a, b, c, d, e, f⟩ := h
  refine ⟨a, b, c, d, CS_k e (fun i => hf _ _ (by unfold SC; omega)) (fun i => hf _ _ (by unfold SC; omega)) (fun i => hf _ _ (by unfold SC; omega)), ?_⟩
  obtain ⟨f1, f2, f3, f4⟩ := f
  have hl := d.2.1
  have e : ∀ i, i < 48 → σ' 93 (0 + i) = σ 93 (0 + i) := fun i hi => hf _ _ (by unfold SC; omega)
  refine ⟨(e 36 (by omega)).trans f1, (e 37 (by omega)).trans f2, fun i hi => (e i (by omega)).trans (f3 i hi), fun k hk => ?_⟩
  rw [← f4 k hk]; exact hf _ _ (by unfold SC; omega)
theorem QV_ρ {σ : Sto} {ρ ρ' : Rho} {S : Sheet} (h : QV σ ρ S) (hf : RFr ρ ρ') (hP : Pm ρ') : QV σ ρ' S := by
  obtain ⟨a, b, c, d, e, f⟩ := h
  exact ⟨a.fr hf, b.fr hf, hP, d, e, f⟩
theorem sc_PX {k i : Nat} (h : PX k i) : SC k i := by unfold PX at h; unfold SC; omega
theorem sc_QX {k i : Nat} (h : QX k i) : SC k i := by unfold QX PX RX at h; unfold SC; omega
theorem sc_QP {k i : Nat} (h : QP k i) : SC k i := by unfold QP PX RX at h; unfold SC; omega
theorem sc_QO {k i : Nat} (h : QO k i) : SC k i := by unfold QO QP PX RX at h; unfold SC; omega
theorem sc_RX {k i : Nat} (h : RX k i) : SC k i := by unfold RX at h; unfold SC; omega
theorem sc_PM {k i : Nat} (h : PM k i) : SC k i := by unfold PM at h; unfold SC; omega
theorem sc_FX {k i : Nat} (h : FX k i) : SC k i := by unfold FX at h; unfold SC; omega
theorem sc_T3 {σ : Sto} {k : Nat} {x y z : Int} (h : 53 ≤ k ∧ k ≤ 91) : Fr SC σ (T3 σ k x y z) := fun k' i hn => T3_k (fun e => hn (by unfold SC; omega))
theorem sc_F6 {σ : Sto} {k : Nat} {v : Nat → Int} (h : 53 ≤ k ∧ k ≤ 91) : Fr SC σ (F6 σ k v) := fun k' i hn => F6_k (fun e => hn (by unfold SC; omega))
theorem sc_C2 {σ σ' : Sto} {k : Nat} (h : Fr (C2 k) σ σ') (hk : 53 ≤ k ∧ k ≤ 90) : Fr SC σ σ' := h.mo (fun k' i hn => by unfold C2 at hn; unfold SC; omega)
noncomputable def cas (P : Prop) (x y : Int) : Int := @ite Int P (Classical.propDecidable P) x y
theorem cas_pos {P : Prop} {x y : Int} (h : P) : cas P x y = x := @if_pos P (Classical.propDecidable P) h Int x y
theorem cas_neg {P : Prop} {x y : Int} (h : ¬ P) : cas P x y = y := @if_neg P (Classical.propDecidable P) h Int x y
def inC (c : Int) : Prop := 0 ≤ c ∧ c < 6
def inP (p : Nat) (n : Int) : Prop := 0 ≤ n ∧ n < NP p
theorem m_isIn {a b c : Int} (ha : rg32 a) (hb : rg32 b) (hc : rg32 c) : (b ≤ a ∧ a ≤ c ∧ MX12_isIn (iI a) (iI b) (iI c) = some 1) ∨ (¬ (b ≤ a ∧ a ≤ c) ∧ MX12_isIn (iI a) (iI b) (iI c) = some 0) := by
  unfold MX12_isIn
  by_cases h1 : a < b
  · rw [if_pos (by rw [iI_lt ha hb]; exact h1)]; exact Or.inr ⟨by omega, zr0 _⟩
  · rw [if_neg (by rw [iI_lt ha hb]; exact h1)]
    by_cases h2 : c < a
    · rw [if_pos (by rw [iI_lt hc ha]; exact h2)]; exact Or.inr ⟨by omega, zr0 _⟩
    · rw [if_neg (by rw [iI_lt hc ha]; exact h2)]; exact Or.inl ⟨by omega, by omega, zr1 _⟩
theorem m_isConic {c : Int} (hc : rg32 c) : (inC c ∧ MX12_isConic (iI c) = some 1) ∨ (¬ inC c ∧ MX12_isConic (iI c) = some 0) := by
  unfold MX12_isConic inC
  rcases m_isIn (a := c) (b := 0) (c := 5) hc ⟨by omega, by omega⟩ ⟨by omega, by omega⟩ with ⟨a, b, e⟩ | ⟨a, e⟩
  · rw [show (0 : Int32) = iI 0 from rfl, show (5 : Int32) = iI 5 from rfl, e, ob_some]; exact Or.inl ⟨by omega, zr1 _⟩
  · rw [show (0 : Int32) = iI 0 from rfl, show (5 : Int32) = iI 5 from rfl, e, ob_some]; exact Or.inr ⟨by omega, zr0 _⟩
theorem k_isConic {c : Int} (hc : rg32 c) : (inC c ∧ MX11_isConic (iI c) = some 1) ∨ (¬ inC c ∧ MX11_isConic (iI c) = some 0) := by
  rw [iI_isC hc]
  unfold inC
  by_cases h : 0 ≤ c ∧ c < 6
  · rw [if_pos h]; exact Or.inl ⟨h, rfl⟩
  · rw [if_neg h]; exact Or.inr ⟨h, rfl⟩
theorem m_isPlace {σ : Sto} {ρ : Rho} {S : Sheet} {n : Int} (h : QV σ ρ S) (hn : rg32 n) : (inP S.1 n ∧ MX12_isPlace σ ρ 92 (iI n) = some (1, su σ 92 7 (iI S.1))) ∨ (¬ inP S.1 n ∧ MX12_isPlace σ ρ 92 (iI n) = some (0, su σ 92 7 (iI S.1))) := by
  obtain ⟨-, hρ, -, hS, -, hM⟩ := h
  have hN := NP_le hS.1
  have h0 : 1 ≤ NP S.1 := by unfold NP; omega
  unfold MX12_isPlace inP
  rw [hρ.1, ob_some, show (36 : Int32) = OfNat.ofNat 36 from rfl, ag93 36 (by decide), ob_some, bn_eq, show σ 93 36 = iI S.1 from hM.1, m_places su_s, ob_some, show (1 : Int32) = iI 1 from rfl, iI_sub, show (0 : Int32) = iI 0 from rfl]
  rcases m_isIn (a := n) (b := 0) (c := ((NP S.1 : Nat) : Int) - 1) hn ⟨by omega, by omega⟩ ⟨by omega, by omega⟩ with ⟨a, b, e⟩ | ⟨a, e⟩
  · rw [e, ob_some]; exact Or.inl ⟨by omega, zr1 _⟩
  · rw [e, ob_some]; exact Or.inr ⟨by omega, zr0 _⟩
theorem sc_su7 {σ : Sto} {v : Int32} : Fr SC σ (su σ 92 7 v) := Fr.su (Or.inr (Or.inl ⟨rfl, by decide⟩))
/-- the reference's first steps, with a conic and a place -/
theorem m_pre2 {σ : Sto} {ρ : Rho} {S : Sheet} {c n : Int} {f : Int32 × Sto → Option (Int32 × Sto)} {Q : Int32 × Sto → Prop} (h : QV σ ρ S) (hc : rg32 c) (hn : rg32 n) (h0 : ¬ (inC c ∧ inP S.1 n) → ∀ s, Fr SC σ s → Q (-1, s)) (h1 : inC c → inP S.1 n → ∀ s, Fr SC σ s → s 92 7 = iI S.1 → OK (f (1, s)) Q) :
    OK (Option.bind (MX12_isConic (iI c)) fun c1 => if c1 = 0 then some ((-1 : Int32), σ) else Option.bind (MX12_isPlace σ ρ 92 (iI n)) fun c2 => if c2.1 = 0 then some ((-1 : Int32), c2.2) else f c2) Q := by
  rcases m_isConic hc with ⟨a, e⟩ | ⟨a, e⟩
  · rw [e, ob_some, if_neg ne10]
    rcases m_isPlace h hn with ⟨b, e2⟩ | ⟨b, e2⟩
    · rw [e2, ob_some]; dsimp only; rw [if_neg ne10]; exact h1 a b _ sc_su7 su_s
    · rw [e2, ob_some]; dsimp only; rw [if_pos rfl]; exact OK.so (h0 (fun z => b z.2) _ sc_su7)
  · rw [e, ob_some, if_pos rfl]; exact OK.so (h0 (fun z => a z.1) _ Fr.rf)
theorem m_lay {σ : Sto} {ρ : Rho} {S : Sheet} {c : Int} {f : Sto → Option (Int32 × Sto)} {Q : Int32 × Sto → Prop} (h : QV σ ρ S) (hc : inC c) (k : ∀ s, Fr SC σ s → Mm s S.1 (cm S c.toNat) → OK (f s) Q) : OK (Option.bind (MX12_laysConic σ ρ 92 (0 : Int32) (iI c)) f) Q := by
  obtain ⟨-, hρ, -, hS, -, hM⟩ := h
  obtain ⟨s, e, hm, hf⟩ := m_laysConic (c := c.toNat) hρ hS hM (by unfold inC at hc; omega)
  rw [show ((c.toNat : Nat) : Int) = c by unfold inC at hc; omega] at e
  rw [show (0 : Int32) = iI 0 from rfl, e, ob_some]
  exact k s (hf.mo (fun k i h => sc_PM h)) hm
theorem c_placeN {σ : Sto} {t p i : Nat} (hp : PR p) (hi : i < NP p) : MX10_take σ t (iI i) (iI p) = some (1, T3 σ t (cX p i) (cY p i) (cZ p i)) := by
  have hN := NP_le hp
  have := c_place (σ := σ) (t := t) (n := (i : Int)) hp (rgN (by omega))
  rw [if_pos (show 0 ≤ (i : Int) ∧ (i : Int) < NP p by omega), Int.toNat_natCast] at this
  exact this
theorem k_take {σ : Sto} {p t : Nat} {n : Int} (hp : PR p) (hn : rg32 n) : (inP p n ∧ MX10_take σ t (iI n) (iI p) = some (1, T3 σ t (cX p n.toNat) (cY p n.toNat) (cZ p n.toNat))) ∨ (¬ inP p n ∧ MX10_take σ t (iI n) (iI p) = some (0, σ)) := by
  rw [c_place hp hn]
  unfold inP
  by_cases h : 0 ≤ n ∧ n < (NP p : Nat)
  · rw [if_pos h]; exact Or.inl ⟨h, rfl⟩
  · rw [if_neg h]; exact Or.inr ⟨h, rfl⟩
theorem k_both {σ : Sto} {ρ : Rho} {S : Sheet} {c n : Int} {f : Int32 × Sto → Option (Int32 × Sto)} {Q : Int32 × Sto → Prop} (h : QV σ ρ S) (hc : rg32 c) (hn : rg32 n) (h0 : ¬ (inC c ∧ inP S.1 n) → ∀ s, Fr SC σ s → OK (f (0, s)) Q) (h1 : inC c → inP S.1 n → ∀ s, Fr SC σ s → Cv s 83 S.1 (cm S c.toNat) → Tr s 89 (cX S.1 n.toNat) (cY S.1 n.toNat) (cZ S.1 n.toNat) → OK (f (1, s)) Q) : OK (Option.bind (MX11_takeBoth σ ρ 0 (iI c) (iI n)) f) Q := by
  obtain ⟨hD, hρ, -, hS, hC, hM⟩ := id h
  unfold MX11_takeBoth
  rcases k_isConic hc with ⟨a, e⟩ | ⟨a, e⟩
  · rw [e, ob_some, if_neg ne10, dk_0_11 hD, ob_some, dk_0_0 hD, ob_some, dk_1_0 hD, ob_some, hC.1]
    rcases k_take (σ := σ) (t := 89) hS.1 hn with ⟨b, e2⟩ | ⟨b, e2⟩
    · rw [e2, ob_some]; dsimp only; rw [if_neg ne10, dk_0_7 hD, ob_some, ob_some, dk_1_0 hD, ob_some]
      generalize hs : T3 σ 89 (cX S.1 n.toNat) (cY S.1 n.toNat) (cZ S.1 n.toNat) = s1
      have f1 : Fr SC σ s1 := by rw [← hs]; exact sc_T3 (by omega)
      have t1 : Tr s1 89 (cX S.1 n.toNat) (cY S.1 n.toNat) (cZ S.1 n.toNat) := by rw [← hs]; exact T3_Tr
      have hq := QV_fr h f1
      have hk := c_take (s := 2) (k := 83) (c := c.toNat) (dk_83_0 hD) (by omega) (Sr_2 hD) hS hq.2.2.2.2.1 (by unfold inC at a; omega)
      rw [show ((c.toNat : Nat) : Int) = c by unfold inC at a; omega] at hk
      obtain ⟨s2, e3, g1, g2⟩ := hk
      rw [e3, ob_some, zr1, ob_some]
      exact h1 a b s2 (f1.tr (sc_C2 g2 (by omega))) g1 (Tr_k t1 (fun i => g2 _ _ (by unfold C2; omega)))
    · rw [e2, ob_some]; dsimp only; rw [if_pos rfl, zr0, ob_some]; exact h0 (fun z => b z.2) _ Fr.rf
  · rw [e, ob_some, if_pos rfl, zr0, ob_some]; exact h0 (fun z => a z.1) _ Fr.rf
theorem cm_nn {S : Sheet} {c i : Nat} (hS : SOK S) : 0 ≤ cm S c i ∧ cm S c i < S.1 := emod_nn (by have := hS.1.le; omega)
/-- place -/
noncomputable def aPlace (S : Sheet) (n w : Int) : Int := cas (inP S.1 n ∧ 0 ≤ w ∧ w ≤ 2) (cas (w = 0) (cX S.1 n.toNat) (cas (w = 1) (cY S.1 n.toNat) (cZ S.1 n.toNat))) (-1)
theorem k_place {σ : Sto} {ρ : Rho} {S : Sheet} {n w : Int} (h : QV σ ρ S) (hn : rg32 n) (hw : rg32 w) : OK (MX11_place σ ρ 0 (iI n) (iI w)) (fun o => o.1 = iI (aPlace S n w) ∧ Fr SC σ o.2) := by
  obtain ⟨hD, hρ, -, hS, hC, hM⟩ := id h
  have r0 : rg32 0 := ⟨by omega, by omega⟩
  unfold MX11_place aPlace
  by_cases c0 : w < 0
  · rw [if_pos (by rw [show (0 : Int32) = iI 0 from rfl, iI_lt hw r0]; exact c0), cas_neg (show ¬ (inP S.1 n ∧ 0 ≤ w ∧ w ≤ 2) by omega)]; exact OK.so ⟨rfl, Fr.rf⟩
  · rw [if_neg (by rw [show (0 : Int32) = iI 0 from rfl, iI_lt hw r0]; exact c0)]
    by_cases c2 : 2 < w
    · rw [if_pos (by rw [i2, iI_lt ⟨by omega, by omega⟩ hw]; exact c2), cas_neg (show ¬ (inP S.1 n ∧ 0 ≤ w ∧ w ≤ 2) by omega)]; exact OK.so ⟨rfl, Fr.rf⟩
    · rw [if_neg (by rw [i2, iI_lt ⟨by omega, by omega⟩ hw]; exact c2), dk_0_11 hD, ob_some, dk_0_0 hD, ob_some, dk_1_0 hD, ob_some, hC.1]
      rcases k_take (σ := σ) (t := 89) hS.1 hn with ⟨b, e2⟩ | ⟨b, e2⟩
      · rw [e2, ob_some]; dsimp only; rw [if_neg ne10, ob_some, cas_pos (show inP S.1 n ∧ 0 ≤ w ∧ w ≤ 2 from ⟨b, by omega, by omega⟩)]
        obtain ⟨t0, t1, t2⟩ := T3_Tr (σ := σ) (k := 89) (x := cX S.1 n.toNat) (y := cY S.1 n.toNat) (z := cZ S.1 n.toNat)
        unfold MX10_nth
        by_cases w0' : w = 0
        · subst w0'
          rw [if_pos (show iI 0 = 0 from rfl), ob_some, cas_pos (show (0 : Int) = 0 from rfl), t0]; exact OK.so ⟨rfl, sc_T3 (by omega)⟩
        · rw [if_neg (by rw [show (0 : Int32) = iI 0 from rfl, iI_eq hw r0]; exact w0'), cas_neg (show ¬ w = 0 from w0')]
          by_cases w1' : w = 1
          · subst w1'
            rw [if_pos (show iI 1 = 1 from rfl), ob_some, cas_pos (show (1 : Int) = 1 from rfl), t1]; exact OK.so ⟨rfl, sc_T3 (by omega)⟩
          · rw [if_neg (by rw [show (1 : Int32) = iI 1 from rfl, iI_eq hw ⟨by omega, by omega⟩]; exact w1'), ob_some, cas_neg (show ¬ w = 1 from w1'), t2]; exact OK.so ⟨rfl, sc_T3 (by omega)⟩
      · rw [e2, ob_some]; dsimp only; rw [if_pos rfl, cas_neg (show ¬ (inP S.1 n ∧ 0 ≤ w ∧ w ≤ 2) from fun z => b z.1)]; exact OK.so ⟨rfl, Fr.rf⟩
theorem m_place {σ : Sto} {ρ : Rho} {S : Sheet} {n w : Int} (h : QV σ ρ S) (hn : rg32 n) (hw : rg32 w) : OK (MX12_place σ ρ 92 (iI n) (iI w)) (fun o => o.1 = iI (aPlace S n w) ∧ Fr SC σ o.2) := by
  obtain ⟨hD, hρ, -, hS, hC, hM⟩ := id h
  have r0 : rg32 0 := ⟨by omega, by omega⟩
  unfold MX12_place aPlace
  rcases m_isPlace h hn with ⟨b, e2⟩ | ⟨b, e2⟩
  · rw [e2, ob_some]; dsimp only; rw [if_neg ne10, show (0 : Int32) = iI 0 from rfl, i2]
    rcases m_isIn (a := w) (b := 0) (c := 2) hw r0 ⟨by omega, by omega⟩ with ⟨x, y, e⟩ | ⟨x, e⟩
    · have hl := m_laysPlace (σ := su σ 92 7 (iI S.1)) (n := n.toNat) hS.1 su_s (by unfold inP at b; omega)
      rw [show ((n.toNat : Nat) : Int) = n by unfold inP at b; omega] at hl
      rw [e, ob_some, if_neg (show ¬ (1 : Int32) = iI 0 by decide), hl, ob_some, cas_pos (show inP S.1 n ∧ 0 ≤ w ∧ w ≤ 2 from ⟨b, x, y⟩)]
      by_cases w0' : w = 0
      · subst w0'
        rw [if_pos rfl, cas_pos (show (0 : Int) = 0 from rfl), lp_8]; exact OK.so ⟨rfl, sc_su7.tr (Fr_lp.mo (fun k i h => sc_PX h))⟩
      · rw [if_neg (by rw [iI_eq hw r0]; exact w0'), cas_neg (show ¬ w = 0 from w0')]
        by_cases w1' : w = 1
        · subst w1'
          rw [if_pos (show iI 1 = 1 from rfl), cas_pos (show (1 : Int) = 1 from rfl), lp_9]; exact OK.so ⟨rfl, sc_su7.tr (Fr_lp.mo (fun k i h => sc_PX h))⟩
        · rw [if_neg (by rw [show (1 : Int32) = iI 1 from rfl, iI_eq hw ⟨by omega, by omega⟩]; exact w1'), cas_neg (show ¬ w = 1 from w1'), lp_10]; exact OK.so ⟨rfl, sc_su7.tr (Fr_lp.mo (fun k i h => sc_PX h))⟩
    · rw [e, ob_some, if_pos (show (0 : Int32) = iI 0 from rfl), cas_neg (show ¬ (inP S.1 n ∧ 0 ≤ w ∧ w ≤ 2) from fun z => x z.2)]; exact OK.so ⟨rfl, sc_su7⟩
  · rw [e2, ob_some]; dsimp only; rw [if_pos rfl, cas_neg (show ¬ (inP S.1 n ∧ 0 ≤ w ∧ w ≤ 2) from fun z => b z.1)]; exact OK.so ⟨rfl, sc_su7⟩
/-- number -/
theorem k_number {σ : Sto} {ρ : Rho} {S : Sheet} {x y z : Int} (h : QV σ ρ S) (hx : rg32 x) (hy : rg32 y) (hz : rg32 z) : OK (MX11_number σ ρ 0 (iI x) (iI y) (iI z)) (fun o => o.1 = iI (nb S.1 x y z) ∧ Fr SC σ o.2) := by
  obtain ⟨hD, hρ, -, hS, hC, hM⟩ := id h
  unfold MX11_number
  rw [dk_0_11 hD, ob_some, fill3, ob_some, ob_some, dk_0_0 hD, ob_some, dk_1_0 hD, ob_some, T3_k (by decide), hC.1, c_numbered hS.1 T3_Tr hx hy hz, ob_some]
  exact OK.so ⟨rfl, sc_T3 (by omega)⟩
theorem m_number {σ : Sto} {ρ : Rho} {S : Sheet} {x y z : Int} (h : QV σ ρ S) (hx : rg32 x) (hy : rg32 y) (hz : rg32 z) : OK (MX12_number σ ρ 92 (iI x) (iI y) (iI z)) (fun o => o.1 = iI (nb S.1 x y z) ∧ Fr SC σ o.2) := by
  obtain ⟨hD, hρ, -, hS, hC, hM⟩ := id h
  unfold MX12_number
  rw [hρ.1, ob_some, show (36 : Int32) = OfNat.ofNat 36 from rfl, ag93 36 (by decide), ob_some, bn_eq, show σ 93 36 = iI S.1 from hM.1, m_numberOf hS.1 su_s hx hy hz, ob_some]
  exact OK.so ⟨rfl, sc_su7⟩
/-- joined -/
def crs (p a b : Nat) : Int × Int × Int := (cY p a * cZ p b - cZ p a * cY p b, cZ p a * cX p b - cX p a * cZ p b, cX p a * cY p b - cY p a * cX p b)
def nbc (p a b : Nat) : Int := nb p (crs p a b).1 (crs p a b).2.1 (crs p a b).2.2
theorem crs_bd {p a b : Nat} (hp : PR p) : bd3 (crs p a b).1 (crs p a b).2.1 (crs p a b).2.2 2000 := by
  obtain ⟨x1, y1, z1⟩ := cXYZ_bd (n := a) hp
  obtain ⟨x2, y2, z2⟩ := cXYZ_bd (n := b) hp
  exact ⟨bd_mono (bd_sub (bd_mul y1 z2) (bd_mul z1 y2)) (by decide), bd_mono (bd_sub (bd_mul z1 x2) (bd_mul x1 z2)) (by decide), bd_mono (bd_sub (bd_mul x1 y2) (bd_mul y1 x2)) (by decide)⟩
theorem crs_self {p a : Nat} : nbc p a a = -1 := by
  unfold nbc crs nb
  dsimp only
  rw [if_pos (by rw [Int.mul_comm, Int.sub_self]; simp), if_pos (by rw [Int.mul_comm, Int.sub_self]; simp), if_pos (by rw [Int.mul_comm, Int.sub_self]; simp)]
noncomputable def aJoin (S : Sheet) (a b : Int) : Int := cas (inP S.1 a ∧ inP S.1 b) (nbc S.1 a.toNat b.toNat) (-1)
theorem k_cross {σ : Sto} {t a b p x y : Nat} (ha : Tr σ a (cX p x) (cY p x) (cZ p x)) (hb : Tr σ b (cX p y) (cY p y) (cZ p y)) : MX10_cross σ t a b = some (T3 σ t (crs p x y).1 (crs p x y).2.1 (crs p x y).2.2) := by
  obtain ⟨a0, a1, a2⟩ := ha
  obtain ⟨b0, b1, b2⟩ := hb
  unfold MX10_cross
  simp only [a0, a1, a2, b0, b1, b2, iI_mul, iI_sub]
  rw [fill3, ob_some]
  rfl
theorem k_joined {σ : Sto} {ρ : Rho} {S : Sheet} {a b : Int} (h : QV σ ρ S) (ha : rg32 a) (hb : rg32 b) : OK (MX11_joined σ ρ 0 (iI a) (iI b)) (fun o => o.1 = iI (aJoin S a b) ∧ Fr SC σ o.2) := by
  obtain ⟨hD, hρ, -, hS, hC, hM⟩ := id h
  unfold MX11_joined aJoin
  rw [dk_0_0 hD, ob_some, dk_1_0 hD, ob_some, bn_eq, hC.1, dk_0_11 hD, ob_some]
  rcases k_take (σ := σ) (t := 89) hS.1 ha with ⟨i1, e1⟩ | ⟨i1, e1⟩
  · rw [e1, ob_some]; dsimp only; rw [if_neg ne10, dk_0_12 hD, ob_some]
    generalize hs1 : T3 σ 89 (cX S.1 a.toNat) (cY S.1 a.toNat) (cZ S.1 a.toNat) = s1
    have f1 : Fr SC σ s1 := by rw [← hs1]; exact sc_T3 (by omega)
    have t1 : Tr s1 89 (cX S.1 a.toNat) (cY S.1 a.toNat) (cZ S.1 a.toNat) := by rw [← hs1]; exact T3_Tr
    rcases k_take (σ := s1) (t := 90) hS.1 hb with ⟨j1, e2⟩ | ⟨j1, e2⟩
    · rw [e2, ob_some]; dsimp only; rw [if_neg ne10, dk_0_13 hD, ob_some, ob_some, ob_some]
      have t1' : Tr (T3 s1 90 (cX S.1 b.toNat) (cY S.1 b.toNat) (cZ S.1 b.toNat)) 89 (cX S.1 a.toNat) (cY S.1 a.toNat) (cZ S.1 a.toNat) := Tr_k t1 (fun i => T3_k (by decide))
      obtain ⟨q1, q2, q3⟩ := crs_bd (a := a.toNat) (b := b.toNat) hS.1
      rw [k_cross t1' T3_Tr, ob_some, ob_some, c_numbered hS.1 T3_Tr (bd_rg q1 (by decide)) (bd_rg q2 (by decide)) (bd_rg q3 (by decide)), ob_some, cas_pos (show inP S.1 a ∧ inP S.1 b from ⟨i1, j1⟩)]
      exact OK.so ⟨rfl, (f1.tr (sc_T3 (by omega))).tr (sc_T3 (by omega))⟩
    · rw [e2, ob_some]; dsimp only; rw [if_pos rfl, cas_neg (show ¬ (inP S.1 a ∧ inP S.1 b) from fun z => j1 z.2)]; exact OK.so ⟨rfl, f1⟩
  · rw [e1, ob_some]; dsimp only; rw [if_pos rfl, cas_neg (show ¬ (inP S.1 a ∧ inP S.1 b) from fun z => i1 z.1)]; exact OK.so ⟨rfl, Fr.rf⟩
theorem m_lineOf {σ : Sto} {p a b : Nat} (hp : PR p) (h7 : σ 92 7 = iI p) (ha : a < NP p) (hb : b < NP p) : OK (MX12_lineOf σ 92 (iI a) (iI b)) (fun o => o.1 = iI (nbc p a b) ∧ Fr PX σ o.2) := by
  obtain ⟨q1, q2, q3⟩ := crs_bd (p := p) (a := a) (b := b) hp
  unfold MX12_lineOf
  rw [m_laysPlace hp h7 ha, ob_some, bn_eq, bn_eq, bn_eq, m_laysPlace hp (by rw [lp_7]; exact h7) hb, ob_some, lp_lp]
  simp only [lp_8, lp_9, lp_10, iI_mul, iI_sub]
  unfold crs at q1 q2 q3
  dsimp only at q1 q2 q3
  rw [m_numberOf hp (by rw [lp_7]; exact h7) (bd_rg q1 (by decide)) (bd_rg q2 (by decide)) (bd_rg q3 (by decide)), ob_some]
  exact OK.so ⟨rfl, Fr_lp⟩
theorem m_joined {σ : Sto} {ρ : Rho} {S : Sheet} {a b : Int} (h : QV σ ρ S) (ha : rg32 a) (hb : rg32 b) : OK (MX12_joined σ ρ 92 (iI a) (iI b)) (fun o => o.1 = iI (aJoin S a b) ∧ Fr SC σ o.2) := by
  obtain ⟨hD, hρ, -, hS, hC, hM⟩ := id h
  unfold MX12_joined aJoin
  rcases m_isPlace h ha with ⟨i1, e1⟩ | ⟨i1, e1⟩
  · rw [e1, ob_some]; dsimp only; rw [if_neg ne10]
    rcases m_isPlace (QV_fr h sc_su7) hb with ⟨j1, e2⟩ | ⟨j1, e2⟩
    · rw [e2, ob_some]; dsimp only; rw [if_neg ne10, cas_pos (show inP S.1 a ∧ inP S.1 b from ⟨i1, j1⟩)]
      unfold inP at i1 j1
      by_cases c : a = b
      · rw [if_pos (by rw [c]), c, crs_self]; exact OK.so ⟨rfl, sc_su7.tr sc_su7⟩
      · rw [if_neg (by rw [iI_eq ha hb]; exact c)]
        have hl := m_lineOf (σ := su (su σ 92 7 (iI S.1)) 92 7 (iI S.1)) (a := a.toNat) (b := b.toNat) hS.1 su_s (by omega) (by omega)
        rw [show ((a.toNat : Nat) : Int) = a by omega, show ((b.toNat : Nat) : Int) = b by omega] at hl
        refine OK.bi hl ?_
        rintro ⟨v, s⟩ ⟨q1, q2⟩
        exact OK.so ⟨q1, (sc_su7.tr sc_su7).tr (q2.mo (fun k i h => sc_PX h))⟩
    · rw [e2, ob_some]; dsimp only; rw [if_pos rfl, cas_neg (show ¬ (inP S.1 a ∧ inP S.1 b) from fun z => j1 z.2)]; exact OK.so ⟨rfl, sc_su7.tr sc_su7⟩
  · rw [e1, ob_some]; dsimp only; rw [if_pos rfl, cas_neg (show ¬ (inP S.1 a ∧ inP S.1 b) from fun z => i1 z.1)]; exact OK.so ⟨rfl, sc_su7⟩
/-- marked -/
def aMarked (S : Sheet) (k : Int) : Int := if 0 ≤ k ∧ k < S.2.1.length then (S.2.1.getD k.toNat 0 : Nat) else -1
theorem k_marked {σ : Sto} {ρ : Rho} {S : Sheet} {k : Int} (h : QV σ ρ S) (hk : rg32 k) : MX11_marked σ ρ 0 (iI k) = some (iI (aMarked S k)) := by
  obtain ⟨hD, hρ, -, hS, hC, hM⟩ := id h
  unfold MX11_marked
  rw [dk_0_0 hD, ob_some, dk_1_0 hD, ob_some, c_markAt (Sr_2 hD) hC hS.2.1 hk, ob_some]
  rfl
theorem m_marked {σ : Sto} {ρ : Rho} {S : Sheet} {k : Int} (h : QV σ ρ S) (hk : rg32 k) : MX12_marked σ ρ 92 (iI k) = some (iI (aMarked S k)) := by
  obtain ⟨hD, hρ, -, hS, hC, hM⟩ := id h
  have hl := hS.2.1
  unfold MX12_marked aMarked
  rw [hρ.1, ob_some, show (37 : Int32) = OfNat.ofNat 37 from rfl, ag93 37 (by decide), ob_some, show σ 93 37 = iI S.2.1.length from hM.2.1, show (1 : Int32) = iI 1 from rfl, iI_sub, show (0 : Int32) = iI 0 from rfl]
  rcases m_isIn (a := k) (b := 0) (c := (S.2.1.length : Int) - 1) hk ⟨by omega, by omega⟩ ⟨by omega, by omega⟩ with ⟨x, y, e⟩ | ⟨x, e⟩
  · rw [e, ob_some, if_neg (show ¬ (1 : Int32) = iI 0 by decide), ob_some, show (38 : Int32) = iI 38 from rfl, iI_add, ag93i (by omega) (by omega), ob_some, if_pos (show 0 ≤ k ∧ k < S.2.1.length by omega)]
    have := hM.2.2.2 k.toNat (by omega)
    rw [show (38 + k).toNat = 0 + 38 + k.toNat by omega, this]
  · rw [e, ob_some, if_pos (show (0 : Int32) = iI 0 from rfl), if_neg (show ¬ (0 ≤ k ∧ k < S.2.1.length) by omega)]; rfl
