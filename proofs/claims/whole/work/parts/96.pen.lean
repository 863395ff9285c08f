/-! QUESTIONS: two conics -/
def pcl (S : Sheet) (a b : Int) : Prop := inC a ∧ inC b ∧ ¬ zm S.1 (cm S a.toNat) ∧ ¬ zm S.1 (cm S b.toNat) ∧ unl S.1 (cm S a.toNat) (cm S b.toNat)
def mbm (p : Nat) (m m' : Nat → Int) (t i : Nat) : Int := if t = p then m i else (m i * t + m' i) % p
theorem zm_cm {S : Sheet} {c : Nat} (hS : SOK S) : (cm S c 0 = 0 ∧ cm S c 1 = 0 ∧ cm S c 2 = 0 ∧ cm S c 3 = 0 ∧ cm S c 4 = 0 ∧ cm S c 5 = 0) ↔ zm S.1 (cm S c) := by
  unfold zm
  rw [sml_mod (cm_nn hS), sml_mod (cm_nn hS), sml_mod (cm_nn hS), sml_mod (cm_nn hS), sml_mod (cm_nn hS), sml_mod (cm_nn hS)]
theorem unl_t {p : Nat} {m m' : Nat → Int} (hp : PR p) (hb : ∀ i, i < 6 → 0 ≤ m i ∧ m i < p) (hb' : ∀ i, i < 6 → 0 ≤ m' i ∧ m' i < p) (h0 : ¬ zm p m) (h1 : ¬ zm p m') : unl p m m' ↔ ∀ t : Nat, 1 ≤ t → t < p → ¬ ∀ i, i < 6 → (t * m i - m' i) % p = 0 := by
  have hp3 := hp.le
  constructor
  · rintro ⟨i, j, hij, hj, hne⟩ t ht1 ht2 hall
    apply hne
    have a := hall i (by omega)
    have b := hall j hj
    unfold mnr
    exact z_of (z_sub (z_mulL (m j) a) (z_mulL (m i) b)) (by grind)
  · intro h
    refine Classical.byContradiction fun hn => ?_
    have hz : ∀ i j, i < 6 → j < 6 → (m i * m' j - m j * m' i) % p = 0 := by
      intro i j hi hj
      by_cases c : i < j
      · exact Classical.byContradiction fun z => hn ⟨i, j, c, hj, z⟩
      · by_cases c2 : i = j
        · rw [c2, Int.sub_self]; simp
        · have : mnr p m m' j i = 0 := Classical.byContradiction fun z => hn ⟨j, i, by omega, hi, z⟩
          unfold mnr at this
          exact z_of (z_neg.mpr this) (by grind)
    have K : ∃ k, k < 6 ∧ m k % p ≠ 0 := by
      refine Classical.byContradiction fun z => h0 ?_
      have z' : ∀ k, k < 6 → m k % p = 0 := fun k hk => Classical.byContradiction fun y => z ⟨k, hk, y⟩
      exact ⟨z' 0 (by omega), z' 1 (by omega), z' 2 (by omega), z' 3 (by omega), z' 4 (by omega), z' 5 (by omega)⟩
    obtain ⟨k, hk, hmk⟩ := K
    obtain ⟨w, hw1, hw2⟩ := unit_inv hp hmk
    have e := emod_nn (x := w * m' k) (p := p) (by omega)
    have es := em_sub (p := (p : Int)) (x := w * m' k)
    have al : ∀ i, i < 6 → ((((w * m' k) % p).toNat : Nat) * m i - m' i) % p = 0 := by
      intro i hi
      rw [show ((((w * m' k) % p).toNat : Nat) : Int) = (w * m' k) % p by omega]
      have a := hz k i hk hi
      generalize (w * m' k) % (p : Int) = t at *
      exact z_of (z_add (z_sub (z_mulL (m i) es) (z_mulL w a)) (z_mulL (m' i) hw2)) (by grind)
    by_cases c : (w * m' k) % p = 0
    · have z' : ∀ i, i < 6 → m' i % p = 0 := fun i hi => by
        have := al i hi
        rw [c] at this
        exact z_of (z_neg.mpr this) (by simp)
      exact h1 ⟨z' 0 (by omega), z' 1 (by omega), z' 2 (by omega), z' 3 (by omega), z' 4 (by omega), z' 5 (by omega)⟩
    · exact h ((w * m' k) % p).toNat (by omega) (by omega) al
/-- the class's pencil -/
theorem k_pencilTake {σ : Sto} {ρ : Rho} {S : Sheet} {a b : Int} {f : Int32 × Sto → Option (Int32 × Sto)} {Q : Int32 × Sto → Prop} (h : QV σ ρ S) (ha : rg32 a) (hb : rg32 b) (h0 : ¬ pcl S a b → ∀ s, Fr SC σ s → OK (f (0, s)) Q) (h1 : pcl S a b → ∀ s, Fr SC σ s → Cv s 60 S.1 (cm S a.toNat) → Cv s 62 S.1 (cm S b.toNat) → OK (f (1, s)) Q) : OK (Option.bind (MX11_takePencil σ ρ 0 (iI a) (iI b)) f) Q := by
  obtain ⟨hD, hρ, hP, hS, hC, hM⟩ := id h
  unfold MX11_takePencil
  rcases k_isConic ha with ⟨i1, e⟩ | ⟨i1, e⟩
  · rw [e, ob_some, if_neg ne10]
    rcases k_isConic hb with ⟨j1, e'⟩ | ⟨j1, e'⟩
    · rw [e', ob_some, if_neg ne10, dk_0_5 hD, ob_some, dk_0_0 hD, ob_some, dk_1_0 hD, ob_some]
      unfold MX6_take
      have hta := c_take (s := 2) (k := 60) (c := a.toNat) (dk_60_0 hD) (by omega) (Sr_2 hD) hS hC (by unfold inC at i1; omega)
      rw [show ((a.toNat : Nat) : Int) = a by unfold inC at i1; omega] at hta
      obtain ⟨s1, e1, g1, g2⟩ := hta
      have f1 : Fr SC σ s1 := sc_C2 g2 (by omega)
      have htb := c_take (s := 2) (k := 62) (c := b.toNat) (dk_62_0 hD) (by omega) (Sr_2 hD) hS (QV_fr h f1).2.2.2.2.1 (by unfold inC at j1; omega)
      rw [show ((b.toNat : Nat) : Int) = b by unfold inC at j1; omega] at htb
      obtain ⟨s2, e2, k1, k2⟩ := htb
      have f2 : Fr SC σ s2 := f1.tr (sc_C2 k2 (by omega))
      have g1' : Cv s2 60 S.1 (cm S a.toNat) := Cv_k g1 (fun i => k2 _ _ (by unfold C2; omega)) (fun i => k2 _ _ (by unfold C2; omega))
      have br : ∀ c i, i < 6 → rg32 (cm S c i) := fun c i hi => bd_rg (b23 hS.1 (cm_nn hS)) (by decide)
      have za := c_isZero g1'.2.1 (br a.toNat)
      have zb := c_isZero k1.2.1 (br b.toNat)
      rw [dk_59_0 hD, ob_some, e1, ob_some, dk_59_1 hD, ob_some, e2, ob_some, ob_some, dk_60_0 hD, ob_some, za, ob_some]
      by_cases c1 : zm S.1 (cm S a.toNat)
      · rw [if_pos ((zm_cm hS).mpr c1), if_neg ne10, zr0, ob_some]
        dsimp only
        rw [if_pos rfl, zr0, ob_some]
        exact h0 (fun z => z.2.2.1 c1) s2 f2
      · rw [if_neg (fun z => c1 ((zm_cm hS).mp z)), if_pos rfl, ob_some, dk_62_0 hD, ob_some, zb, ob_some]
        by_cases c2 : zm S.1 (cm S b.toNat)
        · rw [if_pos ((zm_cm hS).mpr c2), if_neg ne10, zr0, ob_some]
          dsimp only
          rw [if_pos rfl, zr0, ob_some]
          exact h0 (fun z => z.2.2.2.1 c2) s2 f2
        · rw [if_neg (fun z => c2 ((zm_cm hS).mp z)), if_pos rfl, ob_some, ob_some]
          rcases c_unlike (dk_60_0 hD) (dk_62_0 hD) hS.1 g1' k1 with ⟨u, eu⟩ | ⟨u, eu⟩
          · rw [eu, ob_some, if_neg ne10, zr1, ob_some]
            dsimp only
            rw [if_neg ne10, zr1, ob_some]
            exact h1 ⟨i1, j1, c1, c2, u⟩ s2 f2 g1' k1
          · rw [eu, ob_some, if_pos rfl, zr0, ob_some]
            dsimp only
            rw [if_pos rfl, zr0, ob_some]
            exact h0 (fun z => u z.2.2.2.2) s2 f2
    · rw [e', ob_some, if_pos rfl, zr0, ob_some]; exact h0 (fun z => j1 z.2.1) σ Fr.rf
  · rw [e, ob_some, if_pos rfl, zr0, ob_some]; exact h0 (fun z => i1 z.1) σ Fr.rf
theorem mbm_nn {p : Nat} {m m' : Nat → Int} {t : Nat} (hp : PR p) (hb : ∀ i, i < 6 → 0 ≤ m i ∧ m i < p) : ∀ i, i < 6 → 0 ≤ mbm p m m' t i ∧ mbm p m m' t i < p := by
  have hp3 := hp.le
  intro i hi
  unfold mbm
  split
  · exact hb i hi
  · exact emod_nn (by omega)
theorem k_member1 {σ : Sto} {ρ : Rho} {p : Nat} {m m' : Nat → Int} {t : Int} (hD : Dk ρ) (hp : PR p) (h : Cv σ 60 p m) (h' : Cv σ 62 p m') (ht : rg32 t) : (0 ≤ t ∧ t ≤ p ∧ ∃ s, MX6_takeMember σ ρ 59 (iI t) = some (1, s) ∧ Cv s 64 p (mbm p m m' t.toNat) ∧ Fr (C2 64) σ s) ∨ (¬ (0 ≤ t ∧ t ≤ p) ∧ MX6_takeMember σ ρ 59 (iI t) = some (0, σ)) := by
  obtain ⟨hp3, hp23⟩ := hp.le
  have r0 : rg32 0 := ⟨by omega, by omega⟩
  have rp : rg32 (p : Int) := ⟨by omega, by omega⟩
  unfold MX6_takeMember
  by_cases c0 : t < 0
  · rw [if_pos (by rw [show (0 : Int32) = iI 0 from rfl, iI_lt ht r0]; exact c0)]; exact Or.inr ⟨by omega, zr0 _⟩
  · rw [if_neg (by rw [show (0 : Int32) = iI 0 from rfl, iI_lt ht r0]; exact c0), dk_59_0 hD, ob_some, h.1]
    by_cases c1 : t ≤ p
    · refine Or.inl ⟨by omega, c1, ?_⟩
      rw [if_pos (by rw [iI_le ht rp]; exact c1), ob_some, h.1]
      by_cases c2 : (p : Int) ≤ t
      · have et : t.toNat = p := by omega
        rw [if_pos (by rw [iI_le rp ht]; exact c2), dk_59_2 hD, ob_some, ob_some, h.1, bn_eq, ob_some, dk_64_0 hD, ob_some, ob_some, dk_60_0 hD, ob_some]
        have f1 : FI (su σ 64 1 (iI p)) 61 m := FI_k h.2.1 (fun i => su_k (by decide))
        rw [c_copy f1, ob_some, et]
        refine ⟨_, zr1 _, ⟨?_, ?_, mbm_nn hp h.2.2⟩, fun k' i hn => ?_⟩
        · rw [F6_k (by decide), su_s]
        · intro i hi; rw [F6_FI i hi]; unfold mbm; rw [if_pos rfl]
        · have n1 : k' ≠ 64 := fun z => hn (Or.inl z)
          have n2 : k' ≠ 65 := fun z => hn (Or.inr z)
          rw [F6_k n2, su_k n1]
      · rw [if_neg (by rw [iI_le rp ht]; exact c2), dk_59_2 hD, ob_some, ob_some, dk_59_1 hD, ob_some]
        obtain ⟨s, e, q1, q2⟩ := c_mix (k := 64) (o := 60) (q := 62) (t := t) (dk_64_0 hD) (dk_60_0 hD) (dk_62_0 hD) (by omega) (by omega) hp h h' (by omega) c1
        rw [e, ob_some]
        refine ⟨s, zr1 _, ⟨q1.1, ?_, mbm_nn hp h.2.2⟩, q2⟩
        intro i hi
        rw [q1.2.1 i hi]
        unfold mbm
        rw [if_neg (by omega), show ((t.toNat : Nat) : Int) = t by omega, Int.mul_comm]
    · rw [if_neg (by rw [iI_le ht rp]; exact c1)]; exact Or.inr ⟨fun z => c1 z.2, zr0 _⟩
/-- the reference's pencil -/
theorem m_isVoid {σ : Sto} {ρ : Rho} {p : Nat} {m : Nat → Int} (hρ : Md ρ) (hp : PR p) (hm : Mm σ p m) : (zm p m ∧ MX12_isVoid σ ρ 92 = some 1) ∨ (¬ zm p m ∧ MX12_isVoid σ ρ 92 = some 0) := by
  obtain ⟨hp3, hp23⟩ := hp.le
  obtain ⟨h7, hv, hb⟩ := hm
  have E : MX12_isVoid σ ρ 92 = BX12_isVoid_25 σ ρ 92 (iI (m 0 + m 1 + m 2 + m 3 + m 4 + m 5)) := by
    unfold MX12_isVoid
    rw [bn_eq, bn_eq]
    have e6 : sm m 6 = m 0 + m 1 + m 2 + m 3 + m 4 + m 5 := sm6
    rw [← e6]
    refine run_g (S := Unit) (call := fun (g : Int32 → Int32 → Option Int32) _ (k : Nat) => g (iI (sm m k)) (iI k)) (N := 6) (I := fun _ _ => True) (Post := fun r => r = BX12_isVoid_25 σ ρ 92 (iI (sm m 6))) ?_ ?_ (by unfold FU; omega) (k0 := 0) (by omega) (s := ()) trivial
    · intro g _ _
      unfold FX12_isVoid_4
      rw [if_pos (by decide)]
    · intro g _ k _ hk ih
      show FX12_isVoid_4 σ ρ 92 _ g (iI (sm m k)) (iI k) = _
      unfold FX12_isVoid_4
      rw [if_neg (by rw [w6, iI_leN (by omega) (by omega)]; omega), hρ.2.2.2.1, ob_some, ag96i (by omega) (by omega), ob_some, show ((k : Int)).toNat = k from rfl, hv k hk, bn_eq, bn_eq, iI_add, iI_succ]
      exact ih () trivial
  have b0 := hb 0 (by omega); have b1 := hb 1 (by omega); have b2 := hb 2 (by omega); have b3 := hb 3 (by omega); have b4 := hb 4 (by omega); have b5 := hb 5 (by omega)
  rw [E]
  unfold BX12_isVoid_25
  by_cases c : m 0 + m 1 + m 2 + m 3 + m 4 + m 5 = 0
  · rw [if_pos ((iI_z (by omega) (by omega)).mpr c)]
    refine Or.inl ⟨?_, zr1 _⟩
    have z0 : m 0 = 0 := by omega
    have z1 : m 1 = 0 := by omega
    have z2 : m 2 = 0 := by omega
    have z3 : m 3 = 0 := by omega
    have z4 : m 4 = 0 := by omega
    have z5 : m 5 = 0 := by omega
    unfold zm
    rw [z0, z1, z2, z3, z4, z5]; simp
  · rw [if_neg (fun z => c ((iI_z (by omega) (by omega)).mp z))]
    refine Or.inr ⟨fun ⟨z0, z1, z2, z3, z4, z5⟩ => c ?_, zr0 _⟩
    rw [sml_mod b0] at z0; rw [sml_mod b1] at z1; rw [sml_mod b2] at z2; rw [sml_mod b3] at z3; rw [sml_mod b4] at z4; rw [sml_mod b5] at z5
    omega
theorem m_raw {σ : Sto} {ρ : Rho} {S : Sheet} {c : Int} (h : QV σ ρ S) (hc : inC c) (h7 : σ 92 7 = iI S.1) {i : Nat} (hi : i < 6) : ag σ 93 ((6 : Int32) * iI c + iI i) = some (iI (cn S c.toNat i)) ∧ MX12_rest σ 92 (iI (cn S c.toNat i)) = some (iI (cm S c.toNat i)) ∧ bd (cn S c.toNat i) 99 := by
  have hS := h.2.2.2.1
  have hb := cn_bd (c := c.toNat) (i := i) hS (by unfold inC at hc; omega) hi
  exact ⟨(m_ns h hc).2 i hi, m_rest hS.1 h7 (bd_rg hb (by decide)), hb⟩
theorem m_isPencil {σ : Sto} {ρ : Rho} {S : Sheet} {a b : Int} {f : Int32 × Sto → Option (Int32 × Sto)} {Q : Int32 × Sto → Prop} (h : QV σ ρ S) (ha : rg32 a) (hb : rg32 b) (h0 : ¬ pcl S a b → ∀ s, Fr SC σ s → OK (f (0, s)) Q) (h1 : pcl S a b → ∀ s, Fr SC σ s → s 92 7 = iI S.1 → OK (f (1, s)) Q) : OK (Option.bind (MX12_isPencil σ ρ 92 (iI a) (iI b)) f) Q := by
  obtain ⟨hD, hρ, hP, hS, hC, hM⟩ := id h
  obtain ⟨hp3, hp23⟩ := hS.1.le
  suffices hx : OK (MX12_isPencil σ ρ 92 (iI a) (iI b)) (fun o => Fr SC σ o.2 ∧ ((¬ pcl S a b ∧ o.1 = 0) ∨ (pcl S a b ∧ o.1 = 1 ∧ o.2 92 7 = iI S.1))) by
    obtain ⟨⟨v, s⟩, e, f1, r⟩ := hx
    rw [e, ob_some]
    dsimp only at f1 r
    rcases r with ⟨r1, r2⟩ | ⟨r1, r2, r3⟩
    · rw [r2]; exact h0 r1 s f1
    · rw [r2]; exact h1 r1 s f1 r3
  unfold MX12_isPencil
  rcases m_isConic ha with ⟨i1, e⟩ | ⟨i1, e⟩
  · rw [e, ob_some, if_neg ne10]
    rcases m_isConic hb with ⟨j1, e'⟩ | ⟨j1, e'⟩
    · rw [e', ob_some, if_neg ne10, hρ.1, ob_some, show (36 : Int32) = OfNat.ofNat 36 from rfl, ag93 36 (by decide), ob_some, bn_eq, bn_eq, show σ 93 36 = iI S.1 from hM.1]
      -- both laid once
      have V : ∀ (c : Int), inC c → ∀ s, Fr SC σ s → ∃ s', Fr SC σ s' ∧ s' 92 7 = iI S.1 ∧ MX12_laysConic s ρ 92 (0 : Int32) (iI c) = some s' ∧ ((zm S.1 (cm S c.toNat) ∧ MX12_isVoid s' ρ 92 = some 1) ∨ (¬ zm S.1 (cm S c.toNat) ∧ MX12_isVoid s' ρ 92 = some 0)) := by
        intro c hc s hs
        have hq := QV_fr h hs
        obtain ⟨s', e1, hm, hf⟩ := m_laysConic (c := c.toNat) hρ hS hq.2.2.2.2.2 (by unfold inC at hc; omega)
        rw [show ((c.toNat : Nat) : Int) = c by unfold inC at hc; omega] at e1
        exact ⟨s', hs.tr (hf.mo (fun _ _ h => sc_PM h)), hm.1, e1, m_isVoid hρ hS.1 hm⟩
      refine run_g (S := Sto) (call := fun (g : Sto → Int32 → Option (Int32 × Sto)) s (k : Nat) => g s (iI k)) (N := 2) (I := fun k s => Fr SC σ s ∧ s 92 7 = iI S.1 ∧ (1 ≤ k → ¬ zm S.1 (cm S a.toNat)) ∧ (2 ≤ k → ¬ zm S.1 (cm S b.toNat))) (Post := fun o => OK o _) ?_ ?_ (by unfold FU; omega) (k0 := 0) (by omega) (s := su σ 92 7 (iI S.1)) ⟨sc_su7, su_s, fun z => by omega, fun z => by omega⟩
      · intro g s ⟨k1, k2, k3, k4⟩
        have na := k3 (by omega)
        have nb' := k4 (by omega)
        have ut := unl_t hS.1 (fun i _ => cm_nn (c := a.toNat) hS) (fun i _ => cm_nn (c := b.toNat) hS) na nb'
        show OK (FX12_isPencil_29 ρ 92 (iI a) (iI b) (BX12_isPencil_63 ρ 92 (iI a) (iI b)) g s (iI (2 : Nat))) _
        unfold FX12_isPencil_29
        rw [if_pos (by decide)]
        unfold BX12_isPencil_63
        rw [bn_eq]
        have hq := QV_fr h k1
        refine run_g (S := Unit) (call := fun (g : Sto → Int32 → Option (Int32 × Sto)) _ (t : Nat) => g s (iI t)) (N := S.1) (I := fun t _ => 1 ≤ t ∧ ∀ t', 1 ≤ t' → t' < t → ¬ ∀ i, i < 6 → (t' * cm S a.toNat i - cm S b.toNat i) % S.1 = 0) (Post := fun o => OK o _) ?_ ?_ (by unfold FU; omega) (k0 := 1) (by omega) (s := ()) ⟨by omega, fun t h1 h2 => by omega⟩
        · intro g2 _ ⟨_, hall⟩
          unfold FX12_isPencil_65
          rw [k2, if_pos (by rw [iI_leN (by omega) (by omega)]; omega), zr1]
          exact OK.so ⟨k1, Or.inr ⟨⟨i1, j1, na, nb', ut.mpr (fun t h1 h2 => hall t h1 h2)⟩, rfl, k2⟩⟩
        · intro g2 _ t ⟨ht1, hall⟩ ht ih
          show OK (FX12_isPencil_65 ρ 92 (iI a) (iI b) g2 s (iI t)) _
          unfold FX12_isPencil_65
          rw [k2, if_neg (by rw [iI_leN (by omega) (by omega)]; omega), bn_eq, bn_eq]
          -- the six compared
          refine run_g (S := Unit) (call := fun (g : Sto → Int32 → Int32 → Int32 → Option (Int32 × Sto)) _ (i : Nat) => g s (iI t) (b32 (!anyB (fun i => decide ((t * cm S a.toNat i - cm S b.toNat i) % S.1 ≠ 0)) i)) (iI i)) (N := 6) (I := fun _ _ => True) (Post := fun o => OK o _) ?_ ?_ (by unfold FU; omega) (k0 := 0) (by omega) (s := ()) trivial
          · intro g3 _ _
            show OK (FX12_isPencil_79 ρ 92 (iI a) (iI b) (BX12_isPencil_142 ρ 92 (iI a) (iI b) g2) g3 s (iI t) _ (iI (6 : Nat))) _
            unfold FX12_isPencil_79
            rw [if_pos (by decide)]
            unfold BX12_isPencil_142
            cases hb6 : anyB (fun i => decide ((t * cm S a.toNat i - cm S b.toNat i) % S.1 ≠ 0)) 6 with
            | true =>
              rw [if_pos (show b32 (!true) = 0 from rfl), bn_eq, iI_succ]
              refine ih () ⟨by omega, fun t' h1 h2 => ?_⟩
              by_cases c : t' = t
              · rw [c]
                intro hz
                unfold anyB at hb6
                cases hf : fs (fun i => decide ((t * cm S a.toNat i - cm S b.toNat i) % S.1 ≠ 0)) 6 with
                | none => rw [hf] at hb6; cases hb6
                | some i =>
                  obtain ⟨x1, x2, -⟩ := fs_some hf
                  exact (of_decide_eq_true x2) (hz i x1)
              · exact hall t' h1 (by omega)
            | false =>
              rw [if_neg (show ¬ b32 (!false) = 0 by decide), zr0]
              refine OK.so ⟨k1, Or.inl ⟨fun z => ?_, rfl⟩⟩
              refine (ut.mp z.2.2.2.2) t ht1 ht (fun i hi => ?_)
              have hf : fs (fun i => decide ((t * cm S a.toNat i - cm S b.toNat i) % S.1 ≠ 0)) 6 = none := by
                unfold anyB at hb6
                cases hf : fs (fun i => decide ((t * cm S a.toNat i - cm S b.toNat i) % S.1 ≠ 0)) 6 with
                | none => rfl
                | some i => rw [hf] at hb6; cases hb6
              have := of_decide_eq_false (fs_none.mp hf i hi)
              exact Classical.byContradiction this
          · intro g3 _ i _ hi ih3
            show OK (FX12_isPencil_79 ρ 92 (iI a) (iI b) (BX12_isPencil_142 ρ 92 (iI a) (iI b) g2) g3 s (iI t) (b32 (!anyB (fun i => decide ((t * cm S a.toNat i - cm S b.toNat i) % S.1 ≠ 0)) i)) (iI i)) _
            obtain ⟨x1, x2, x3⟩ := m_raw hq i1 k2 hi
            obtain ⟨y1, y2, y3⟩ := m_raw hq j1 k2 hi
            have ih4 := ih3 () trivial
            rw [anyB_s] at ih4
            unfold FX12_isPencil_79 BX12_isPencil_133 BX12_isPencil_134
            rw [if_neg (by rw [w6, iI_leN (by omega) (by omega)]; omega)]
            cases hbi : anyB (fun i => decide ((t * cm S a.toNat i - cm S b.toNat i) % S.1 ≠ 0)) i with
            | true =>
              rw [hbi, Bool.true_or] at ih4
              rw [if_pos (show b32 (!true) = 0 from rfl), bn_eq, bn_eq, iI_succ]
              exact ih4
            | false =>
              rw [hbi, Bool.false_or] at ih4
              have bt : bd (t : Int) 23 := ⟨by omega, by omega⟩
              have ba := b23 hS.1 (cm_nn (c := a.toNat) (i := i) hS)
              have hr : (t * cm S a.toNat i - cn S b.toNat i) % (S.1 : Int) = (t * cm S a.toNat i - cm S b.toNat i) % S.1 := by
                rw [eqm]
                have := em_sub (p := (S.1 : Int)) (x := cn S b.toNat i)
                exact z_of this (by unfold cm cn; omega)
              rw [if_neg (show ¬ b32 (!false) = 0 by decide), hρ.1, ob_some, x1, ob_some, x2, ob_some, ob_some, y1, ob_some, iI_mul, iI_sub, m_rest hS.1 k2 (bd_rg (bd_sub (bd_mul bt ba) y3) (by decide)), ob_some, hr]
              by_cases c : (t * cm S a.toNat i - cm S b.toNat i) % (S.1 : Int) = 0
              · rw [decide_eq_false (fun z => z c)] at ih4
                rw [if_pos ((zI hS.1).mpr c), bn_eq, bn_eq, iI_succ]
                exact ih4
              · rw [decide_eq_true c] at ih4
                rw [if_neg (fun z => c ((zI hS.1).mp z)), bn_eq, bn_eq, iI_succ]
                exact ih4
      · intro g s k ⟨k1, k2, k3, k4⟩ hk ih
        show OK (FX12_isPencil_29 ρ 92 (iI a) (iI b) (BX12_isPencil_63 ρ 92 (iI a) (iI b)) g s (iI k)) _
        unfold FX12_isPencil_29 BX12_isPencil_45
        rw [if_neg (by rw [w2, iI_leN (by omega) (by omega)]; omega)]
        by_cases c : k = 0
        · subst c
          obtain ⟨s', q1, q2, q3, q4⟩ := V a i1 s k1
          rw [if_pos (show iI ((0 : Nat) : Int) = 0 from rfl), q3, ob_some]
          rcases q4 with ⟨z, ez⟩ | ⟨z, ez⟩
          · rw [ez, ob_some, if_neg ne10, zr0]; exact OK.so ⟨q1, Or.inl ⟨fun w => w.2.2.1 z, rfl⟩⟩
          · rw [ez, ob_some, if_pos rfl, bn_eq, iI_succ]
            exact ih s' ⟨q1, q2, fun _ => z, fun w => by omega⟩
        · have c1 : k = 1 := by omega
          subst c1
          obtain ⟨s', q1, q2, q3, q4⟩ := V b j1 s k1
          rw [if_neg (by decide), q3, ob_some]
          rcases q4 with ⟨z, ez⟩ | ⟨z, ez⟩
          · rw [ez, ob_some, if_neg ne10, zr0]; exact OK.so ⟨q1, Or.inl ⟨fun w => w.2.2.2.1 z, rfl⟩⟩
          · rw [ez, ob_some, if_pos rfl, bn_eq, iI_succ]
            exact ih s' ⟨q1, q2, fun _ => k3 (by omega), fun _ => z⟩
    · rw [e', ob_some, if_pos rfl, zr0]; exact OK.so ⟨Fr.rf, Or.inl ⟨fun z => j1 z.2.1, rfl⟩⟩
  · rw [e, ob_some, if_pos rfl, zr0]; exact OK.so ⟨Fr.rf, Or.inl ⟨fun z => i1 z.1, rfl⟩⟩
theorem m_member1 {σ : Sto} {ρ : Rho} {S : Sheet} {a b : Int} {t : Nat} (h : QV σ ρ S) (ha : inC a) (hb : inC b) (h7 : σ 92 7 = iI S.1) (ht : t ≤ S.1) : ∃ s, MX12_laysMember σ ρ 92 (iI a) (iI b) (iI t) = some s ∧ Mm s S.1 (mbm S.1 (cm S a.toNat) (cm S b.toNat) t) ∧ Fr (fun k _ => k = 96) σ s := by
  obtain ⟨hD, hρ, hP, hS, hC, hM⟩ := id h
  obtain ⟨hp3, hp23⟩ := hS.1.le
  have hrp : rg32 (S.1 : Int) := ⟨by omega, by omega⟩
  unfold MX12_laysMember
  rw [bn_eq]
  refine run_g (S := Sto) (call := fun (g : Sto → Int32 → Option Sto) s (k : Nat) => g s (iI k)) (N := 6) (I := fun k s => (∀ i, i < k → s 96 i = iI (mbm S.1 (cm S a.toNat) (cm S b.toNat) t i)) ∧ Fr (fun k _ => k = 96) σ s) (Post := fun o => ∃ s, o = some s ∧ Mm s S.1 (mbm S.1 (cm S a.toNat) (cm S b.toNat) t) ∧ Fr (fun k _ => k = 96) σ s) ?_ ?_ (by unfold FU; omega) (k0 := 0) (by omega) (s := σ) ⟨fun i hi => by omega, Fr.rf⟩
  · intro g s ⟨i1, i2⟩
    refine ⟨s, ?_, ⟨by rw [i2 92 7 (show ¬ (92 : Nat) = 96 by decide)]; exact h7, i1, mbm_nn hS.1 (fun i _ => cm_nn hS)⟩, i2⟩
    unfold FX12_laysMember_3
    rw [if_pos (by decide)]
  · intro g s k ⟨i1, i2⟩ hk ih
    have f1 : Fr SC σ s := i2.mo (fun k i h => by unfold SC; omega)
    have h7s : s 92 7 = iI S.1 := by rw [i2 92 7 (show ¬ (92 : Nat) = 96 by decide)]; exact h7
    obtain ⟨x1, x2, x3⟩ := m_raw (QV_fr h f1) ha h7s hk
    obtain ⟨y1, y2, y3⟩ := m_raw (QV_fr h f1) hb h7s hk
    have na := cm_nn (c := a.toNat) (i := k) hS
    have nb' := cm_nn (c := b.toNat) (i := k) hS
    have fin : ∀ x : Int, x = mbm S.1 (cm S a.toNat) (cm S b.toNat) t k → (∀ i, i < k + 1 → su s 96 k (iI x) 96 i = iI (mbm S.1 (cm S a.toNat) (cm S b.toNat) t i)) ∧ Fr (fun k _ => k = 96) σ (su s 96 k (iI x)) := by
      intro x hx
      refine ⟨fun i hi => ?_, i2.tr (Fr.su (S := fun k _ => k = 96) rfl)⟩
      by_cases c : i = k
      · rw [c, su_s, hx]
      · rw [su_i c]; exact i1 i (by omega)
    show ∃ s', FX12_laysMember_3 ρ 92 (iI a) (iI b) (iI t) g s (iI k) = some s' ∧ _
    unfold FX12_laysMember_3 BX12_laysMember_77
    rw [if_neg (by rw [w6, iI_leN (by omega) (by omega)]; omega), hρ.1, ob_some, x1, ob_some, x2, ob_some, bn_eq, ob_some, y1, ob_some, y2, ob_some, bn_eq, hρ.2.2.2.1, ob_some]
    by_cases c : t = S.1
    · rw [if_pos (by rw [h7s, c]), ap96i (by omega) (by omega), ob_some, show ((k : Int)).toNat = k from rfl, bn_eq, iI_succ]
      exact ih _ (fin _ (by unfold mbm; rw [if_pos c]))
    · have b1 : 0 ≤ cm S a.toNat k * t := Int.mul_nonneg na.1 (by omega)
      have b2 := bd_add (bd_mul (b23 hS.1 na) (show bd (t : Int) 23 from ⟨by omega, by omega⟩)) (b23 hS.1 nb')
      rw [if_neg (by rw [h7s, iI_eqN (by omega) (by omega)]; exact c), h7s, iI_mul, iI_add, rmi_iI (bd_rg b2 (by decide)) hrp (by omega), ob_some, ap96i (by omega) (by omega), ob_some, show ((k : Int)).toNat = k from rfl, bn_eq, iI_succ, Int.tmod_eq_emod_of_nonneg (by omega)]
      exact ih _ (fin _ (by unfold mbm; rw [if_neg c]))
/-- member -/
noncomputable def aMem (S : Sheet) (a b t i : Int) : Int := cas (pcl S a b ∧ (0 ≤ t ∧ t ≤ S.1) ∧ inC i) (mbm S.1 (cm S a.toNat) (cm S b.toNat) t.toNat i.toNat) (-1)
theorem k_member {σ : Sto} {ρ : Rho} {S : Sheet} {a b t i : Int} (h : QV σ ρ S) (ha : rg32 a) (hb : rg32 b) (ht : rg32 t) (hi : rg32 i) : OK (MX11_member σ ρ 0 (iI a) (iI b) (iI t) (iI i)) (fun o => o.1 = iI (aMem S a b t i) ∧ Fr SC σ o.2) := by
  obtain ⟨hD, hρ, hP, hS, hC, hM⟩ := id h
  unfold MX11_member aMem
  rcases k_isNumber hi with ⟨i1, e⟩ | ⟨i1, e⟩
  · rw [e, ob_some, if_neg ne10]
    refine k_pencilTake h ha hb (fun hn s f => ?_) (fun hy s f c1 c2 => ?_)
    · dsimp only
      rw [if_pos rfl, cas_neg (fun z => hn z.1)]; exact OK.so ⟨rfl, f⟩
    · dsimp only
      rw [if_neg ne10, dk_0_5 hD, ob_some]
      rcases k_member1 hD hS.1 c1 c2 ht with ⟨t0, t1, s2, e2, q1, q2⟩ | ⟨t0, e2⟩
      · have hn := c_nth (i := i.toNat) q1.2.1 (by unfold inC at i1; omega)
        rw [show ((i.toNat : Nat) : Int) = i by unfold inC at i1; omega] at hn
        rw [e2, ob_some]
        dsimp only
        rw [if_neg ne10, ob_some, dk_59_2 hD, ob_some, dk_64_0 hD, ob_some, hn, ob_some, cas_pos (show pcl S a b ∧ (0 ≤ t ∧ t ≤ S.1) ∧ inC i from ⟨hy, ⟨t0, t1⟩, i1⟩)]
        exact OK.so ⟨rfl, f.tr (sc_C2 q2 (by omega))⟩
      · rw [e2, ob_some]
        dsimp only
        rw [if_pos rfl, cas_neg (fun z => t0 z.2.1)]; exact OK.so ⟨rfl, f⟩
  · rw [e, ob_some, if_pos rfl, cas_neg (fun z => i1 z.2.2)]; exact OK.so ⟨rfl, Fr.rf⟩
theorem m_member {σ : Sto} {ρ : Rho} {S : Sheet} {a b t i : Int} (h : QV σ ρ S) (ha : rg32 a) (hb : rg32 b) (ht : rg32 t) (hi : rg32 i) : OK (MX12_member σ ρ 92 (iI a) (iI b) (iI t) (iI i)) (fun o => o.1 = iI (aMem S a b t i) ∧ Fr SC σ o.2) := by
  obtain ⟨hD, hρ, hP, hS, hC, hM⟩ := id h
  obtain ⟨hp3, hp23⟩ := hS.1.le
  unfold MX12_member
  refine m_isPencil h ha hb (fun hn s f => ?_) (fun hy s f h7 => ?_)
  · unfold aMem
    dsimp only
    rw [if_pos rfl, cas_neg (fun z => hn z.1)]; exact OK.so ⟨rfl, f⟩
  · unfold aMem
    dsimp only
    rw [if_neg ne10, h7, show (0 : Int32) = iI 0 from rfl, show (5 : Int32) = iI 5 from rfl]
    rcases m_isIn (a := t) (b := 0) (c := (S.1 : Int)) ht ⟨by omega, by omega⟩ ⟨by omega, by omega⟩ with ⟨x, y, e2⟩ | ⟨x, e2⟩
    · rw [e2, ob_some, if_neg (show ¬ (1 : Int32) = iI 0 by decide)]
      rcases m_isIn (a := i) (b := 0) (c := 5) hi ⟨by omega, by omega⟩ ⟨by omega, by omega⟩ with ⟨x3, y3, e3⟩ | ⟨x3, e3⟩
      · obtain ⟨s2, e4, q1, q2⟩ := m_member1 (t := t.toNat) (QV_fr h f) hy.1 hy.2.1 h7 (by omega)
        rw [show ((t.toNat : Nat) : Int) = t by omega] at e4
        rw [e3, ob_some, if_neg (show ¬ (1 : Int32) = iI 0 by decide), e4, ob_some, hρ.2.2.2.1, ob_some, ag96i (by omega) (by omega), ob_some, q1.2.1 _ (by omega), cas_pos (show pcl S a b ∧ (0 ≤ t ∧ t ≤ S.1) ∧ inC i from ⟨hy, ⟨x, y⟩, by unfold inC; omega⟩)]
        exact OK.so ⟨rfl, f.tr (q2.mo (fun k i h => by unfold SC; omega))⟩
      · rw [e3, ob_some, if_pos (show (0 : Int32) = iI 0 from rfl), cas_neg (fun z => by have := z.2.2; unfold inC at this; omega)]; exact OK.so ⟨rfl, f⟩
    · rw [e2, ob_some, if_pos (show (0 : Int32) = iI 0 from rfl), cas_neg (fun z => x z.2.1)]; exact OK.so ⟨rfl, f⟩
