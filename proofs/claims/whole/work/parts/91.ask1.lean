/-! QUESTIONS: a conic and a point -/
theorem Mm_qx {σ σ' : Sto} {p : Nat} {m : Nat → Int} (h : Mm σ p m) (hf : Fr QX σ σ') : Mm σ' p m := ⟨by rw [hf 92 7 QX_7]; exact h.1, fun i hi => by rw [hf 96 i (by unfold QX PX RX; omega)]; exact h.2.1 i hi, h.2.2⟩
theorem Mm_rx {σ σ' : Sto} {p : Nat} {m : Nat → Int} (h : Mm σ p m) (hf : Fr RX σ σ') : Mm σ' p m := Mm_qx h (hf.mo (fun _ _ h => Or.inr h))
theorem plv_0 {p : Nat} {m : Nat → Int} (hp : PR p) (he : e6m m % p ≠ 0) : ∀ n, n < NP p → 0 ≤ plv m p n := fun n hn => by
  obtain ⟨l, s, e, -⟩ := plv_ok hp he hn
  omega
theorem zI {p : Nat} {x : Int} (hp : PR p) : (iI (x % p) = 0) ↔ x % p = 0 := by
  have h3 := hp.le
  have e := emod_nn (x := x) (p := p) (by omega)
  exact iI_z e.1 (by omega)
theorem k_isOn {σ : Sto} {a b p : Nat} {x y z u v w : Int} (hp : PR p) (ha : Tr σ a x y z) (hb : Tr σ b u v w) (h1 : bd3 x y z 23) (h2 : bd3 u v w 23) : MX10_isOn σ a b (iI p) = some (if (x * u + y * v + z * w) % p = 0 then 1 else 0) := by
  obtain ⟨a0, a1, a2⟩ := ha
  obtain ⟨b0, b1, b2⟩ := hb
  obtain ⟨x1, y1, z1⟩ := h1
  obtain ⟨x2, y2, z2⟩ := h2
  unfold MX10_isOn
  rw [a0, a1, a2, b0, b1, b2, iI_mul, iI_mul, iI_mul, iI_add, iI_add, c_rest hp (bd_rg (bd_add (bd_add (bd_mul x1 x2) (bd_mul y1 y2)) (bd_mul z1 z2)) (by decide)), ob_some]
  by_cases c : (x * u + y * v + z * w) % p = 0
  · rw [if_pos ((zI hp).mpr c), if_pos c]; exact zr1 _
  · rw [if_neg (fun z => c ((zI hp).mp z)), if_neg c]; exact zr0 _
/-- tangents through the spot -/
theorem k_tt {σ : Sto} {ρ : Rho} {S : Sheet} {m : Nat → Int} {q : Nat} (h : QV σ ρ S) (hc : Cv σ 83 S.1 m) (ht : Tr σ 89 (cX S.1 q) (cY S.1 q) (cZ S.1 q)) (hq : q < NP S.1) (he : e6m m % S.1 ≠ 0) : OK (MX11_tangentsThroughSpot σ ρ 0) (fun o => o.1 = iI (ct (tnB m S.1 q) (NP S.1) : Nat) ∧ Fr SC σ o.2) := by
  obtain ⟨hD, hρ, -, hS, hC, hM⟩ := id h
  obtain ⟨l, s, e, hl, -⟩ := plv_ok hS.1 he hq
  obtain ⟨q1, q2, q3⟩ := plr_bd hS.1 hc.2.2 (cXYZ_bd (n := q) hS.1)
  unfold MX11_tangentsThroughSpot
  rw [dk_0_0 hD, ob_some, dk_1_0 hD, ob_some, bn_eq, hC.1, dk_0_7 hD, ob_some, dk_0_11 hD, ob_some, dk_0_13 hD, ob_some, c_polar (dk_83_0 hD) hc ht, ob_some, ob_some, ob_some, c_numbered hS.1 T3_Tr (bd_rg q1 (by decide)) (bd_rg q2 (by decide)) (bd_rg q3 (by decide)), ob_some, ← plv_plr, e, c_placeN hS.1 hl, ob_some]
  dsimp only
  rw [if_neg ne10, ob_some, ob_some, c_cross (dk_83_0 hD) hS.1 (Cv_k hc (fun i => by rw [T3_k (by decide), T3_k (by decide)]) (fun i => by rw [T3_k (by decide), T3_k (by decide)])) T3_Tr (cXYZ_bd hS.1), ob_some, ← tn_meet hS.1 he hq e hl]
  exact OK.so ⟨rfl, (sc_T3 (by omega)).tr (sc_T3 (by omega))⟩
/-- lies -/
noncomputable def aLies (S : Sheet) (c n : Int) : Int := cas (inC c ∧ inP S.1 n) ((lieV (cm S c.toNat) S.1 n.toNat (kdm S.1 (cm S c.toNat)) : Nat) : Int) (-1)
theorem k_lies {σ : Sto} {ρ : Rho} {S : Sheet} {c n : Int} (h : QV σ ρ S) (hc : rg32 c) (hn : rg32 n) : OK (MX11_lies σ ρ 0 (iI c) (iI n)) (fun o => o.1 = iI (aLies S c n) ∧ Fr SC σ o.2) := by
  obtain ⟨hD, hρ, -, hS, hC, hM⟩ := id h
  unfold MX11_lies
  refine k_both h hc hn (fun hv s hf => ?_) (fun h1 h2 s hf hcv htr => ?_)
  · dsimp only
    unfold aLies
    rw [if_pos rfl, cas_neg hv]; exact OK.so ⟨rfl, hf⟩
  · have hN := NP_le hS.1
    have hq : n.toNat < NP S.1 := by unfold inP at h2; omega
    have hkl := kdm_le (p := S.1) (m := cm S c.toNat)
    dsimp only
    unfold aLies lieV
    rw [if_neg ne10, cas_pos (show inC c ∧ inP S.1 n from ⟨h1, h2⟩), dk_0_7 hD, ob_some, dk_0_11 hD, ob_some, c_value (dk_83_0 hD) hS.1 hcv htr (cXYZ_bd hS.1), ob_some]
    unfold onB
    by_cases c0 : qv (cm S c.toNat) (cX S.1 n.toNat) (cY S.1 n.toNat) (cZ S.1 n.toNat) % S.1 = 0
    · rw [if_pos ((zI hS.1).mpr c0), if_pos (decide_eq_true c0)]; exact OK.so ⟨rfl, hf⟩
    · rw [if_neg (fun z => c0 ((zI hS.1).mp z)), if_neg (by simp [c0]), ob_some, c_kind (dk_83_0 hD) hS.1 hcv, ob_some]
      by_cases c4 : kdm S.1 (cm S c.toNat) = 4
      · rw [if_pos (by rw [c4]; rfl), if_pos c4]
        refine OK.bi (k_tt (QV_fr h hf) hcv htr hq (kdm_4.mp c4)) ?_
        rintro ⟨v, s2⟩ ⟨r1, r2⟩
        dsimp only at r1 r2 ⊢
        have hct := ct_le (tnB (cm S c.toNat) S.1 n.toNat) (NP S.1)
        rw [r1, w0]
        by_cases c1 : ct (tnB (cm S c.toNat) S.1 n.toNat) (NP S.1) = 0
        · rw [if_pos (by rw [iI_leN (by omega) (by omega)]; omega), if_pos c1]; exact OK.so ⟨rfl, hf.tr r2⟩
        · rw [if_neg (by rw [iI_leN (by omega) (by omega)]; omega), if_neg c1]; exact OK.so ⟨rfl, hf.tr r2⟩
      · rw [if_neg (by rw [w4, iI_eqN (by omega) (by omega)]; exact c4), if_neg c4]; exact OK.so ⟨rfl, hf⟩
theorem m_lies {σ : Sto} {ρ : Rho} {S : Sheet} {c n : Int} (h : QV σ ρ S) (hc : rg32 c) (hn : rg32 n) : OK (MX12_lies σ ρ 92 (iI c) (iI n)) (fun o => o.1 = iI (aLies S c n) ∧ Fr SC σ o.2) := by
  obtain ⟨hD, hρ, -, hS, hC, hM⟩ := id h
  unfold MX12_lies
  refine m_pre2 h hc hn (fun hv s hf => ?_) (fun h1 h2 s hf h7 => ?_)
  · unfold aLies
    rw [cas_neg hv]; exact ⟨rfl, hf⟩
  · dsimp only
    have hq : n.toNat < NP S.1 := by unfold inP at h2; omega
    refine m_lay (QV_fr h hf) h1 (fun s2 hf2 hm => ?_)
    refine OK.bi (m_kindOf hρ hS.1 hm) ?_
    rintro ⟨v, s3⟩ ⟨r1, r2⟩
    dsimp only at r1 r2 ⊢
    obtain ⟨s4, e4, f4⟩ := m_liesOf (pt := n.toNat) (kind := kdm S.1 (cm S c.toNat)) hρ hS.1 (Mm_qx hm r2) hq kdm_le (fun z => plv_0 hS.1 (kdm_4.mp z))
    rw [show ((n.toNat : Nat) : Int) = n by unfold inP at h2; omega] at e4
    unfold aLies
    rw [r1, e4, ob_some, cas_pos (show inC c ∧ inP S.1 n from ⟨h1, h2⟩)]
    exact OK.so ⟨rfl, ((hf.tr hf2).tr (r2.mo (fun _ _ h => sc_QX h))).tr (f4.mo (fun _ _ h => sc_PX h))⟩
/-- polar -/
noncomputable def aPolar (S : Sheet) (c n : Int) : Int := cas (inC c ∧ inP S.1 n) (plv (cm S c.toNat) S.1 n.toNat) (-1)
theorem k_polar {σ : Sto} {ρ : Rho} {S : Sheet} {c n : Int} (h : QV σ ρ S) (hc : rg32 c) (hn : rg32 n) : OK (MX11_polar σ ρ 0 (iI c) (iI n)) (fun o => o.1 = iI (aPolar S c n) ∧ Fr SC σ o.2) := by
  obtain ⟨hD, hρ, -, hS, hC, hM⟩ := id h
  unfold MX11_polar
  refine k_both h hc hn (fun hv s hf => ?_) (fun h1 h2 s hf hcv htr => ?_)
  · dsimp only
    unfold aPolar
    rw [if_pos rfl, cas_neg hv]; exact OK.so ⟨rfl, hf⟩
  · obtain ⟨q1, q2, q3⟩ := plr_bd hS.1 hcv.2.2 (cXYZ_bd (n := n.toNat) hS.1)
    have hC' := (QV_fr h hf).2.2.2.2.1
    dsimp only
    unfold aPolar
    rw [if_neg ne10, cas_pos (show inC c ∧ inP S.1 n from ⟨h1, h2⟩), dk_0_7 hD, ob_some, dk_0_11 hD, ob_some, dk_0_13 hD, ob_some, c_polar (dk_83_0 hD) hcv htr, ob_some, ob_some, dk_0_0 hD, ob_some, dk_1_0 hD, ob_some, T3_k (by decide), hC'.1, c_numbered hS.1 T3_Tr (bd_rg q1 (by decide)) (bd_rg q2 (by decide)) (bd_rg q3 (by decide)), ob_some]
    exact OK.so ⟨rfl, hf.tr (sc_T3 (by omega))⟩
theorem m_polar {σ : Sto} {ρ : Rho} {S : Sheet} {c n : Int} (h : QV σ ρ S) (hc : rg32 c) (hn : rg32 n) : OK (MX12_polar σ ρ 92 (iI c) (iI n)) (fun o => o.1 = iI (aPolar S c n) ∧ Fr SC σ o.2) := by
  obtain ⟨hD, hρ, -, hS, hC, hM⟩ := id h
  unfold MX12_polar
  refine m_pre2 h hc hn (fun hv s hf => ?_) (fun h1 h2 s hf h7 => ?_)
  · unfold aPolar
    rw [cas_neg hv]; exact ⟨rfl, hf⟩
  · dsimp only
    have hq : n.toNat < NP S.1 := by unfold inP at h2; omega
    refine m_lay (QV_fr h hf) h1 (fun s2 hf2 hm => ?_)
    obtain ⟨s4, e4, f4⟩ := m_polarOf (n := n.toNat) hρ hS.1 hm hq
    rw [show ((n.toNat : Nat) : Int) = n by unfold inP at h2; omega] at e4
    unfold aPolar
    rw [e4, ob_some, cas_pos (show inC c ∧ inP S.1 n from ⟨h1, h2⟩)]
    exact OK.so ⟨rfl, (hf.tr hf2).tr (f4.mo (fun _ _ h => sc_PX h))⟩
/-- pole -/
noncomputable def aPole (S : Sheet) (c n : Int) : Int := cas (inC c ∧ inP S.1 n ∧ e6m (cm S c.toNat) % S.1 ≠ 0) (oI (fs (fun k => decide (plv (cm S c.toNat) S.1 k = n)) (NP S.1))) (-1)
theorem nb_congr {p : Nat} {x y z x' y' z' : Int} (hx : (x - x') % p = 0) (hy : (y - y') % p = 0) (hz : (z - z') % p = 0) : nb p x y z = nb p x' y' z' := by
  unfold nb
  rw [eqm.mpr hx, eqm.mpr hy, eqm.mpr hz]
theorem plr_mod {p : Nat} {v : Nat → Int} {x y z : Int} : ((plr (fun i => v i % p) x y z).1 - (plr v x y z).1) % p = 0 ∧ ((plr (fun i => v i % p) x y z).2.1 - (plr v x y z).2.1) % p = 0 ∧ ((plr (fun i => v i % p) x y z).2.2 - (plr v x y z).2.2) % p = 0 := by
  have e := fun i => em_sub (p := (p : Int)) (x := v i)
  unfold plr
  dsimp only
  refine ⟨?_, ?_, ?_⟩
  · exact z_of (z_add (z_add (z_mulL (2 * x) (e 0)) (z_mulL y (e 5))) (z_mulL z (e 4))) (by grind)
  · exact z_of (z_add (z_add (z_mulL x (e 5)) (z_mulL (2 * y) (e 1))) (z_mulL z (e 3))) (by grind)
  · exact z_of (z_add (z_add (z_mulL x (e 4)) (z_mulL y (e 3))) (z_mulL (2 * z) (e 2))) (by grind)
theorem qv_mod {p : Nat} {v : Nat → Int} {x y z : Int} : qv (fun i => v i % p) x y z % p = qv v x y z % p := by
  have e := fun i => em_sub (p := (p : Int)) (x := v i)
  rw [eqm]
  unfold qv
  exact z_of (z_add (z_add (z_add (z_add (z_add (z_mulL (x * x) (e 0)) (z_mulL (y * y) (e 1))) (z_mulL (z * z) (e 2))) (z_mulL (y * z) (e 3))) (z_mulL (z * x) (e 4))) (z_mulL (x * y) (e 5))) (by grind)
theorem fs_pole {p l : Nat} {m : Nat → Int} (hp : PR p) (he : e6m m % p ≠ 0) (hl : l < NP p) : oI (fs (fun k => decide (plv m p k = (l : Int))) (NP p)) = nb p (plr (fun i => du m i % p) (cX p l) (cY p l) (cZ p l)).1 (plr (fun i => du m i % p) (cX p l) (cY p l) (cZ p l)).2.1 (plr (fun i => du m i % p) (cX p l) (cY p l) (cZ p l)).2.2 := by
  obtain ⟨k, hk, e, hpl, hu⟩ := pole_ok hp he hl
  obtain ⟨a, b, c⟩ := plr_mod (p := p) (v := du m) (x := cX p l) (y := cY p l) (z := cZ p l)
  rw [nb_congr a b c, e, fs_of (P := fun k => decide (plv m p k = (l : Int))) hk (decide_eq_true hpl) (fun j hj => decide_eq_false (fun z => by have := hu j (by omega) z; omega))]
  rfl
theorem k_pole {σ : Sto} {ρ : Rho} {S : Sheet} {c n : Int} (h : QV σ ρ S) (hc : rg32 c) (hn : rg32 n) : OK (MX11_pole σ ρ 0 (iI c) (iI n)) (fun o => o.1 = iI (aPole S c n) ∧ Fr SC σ o.2) := by
  obtain ⟨hD, hρ, -, hS, hC, hM⟩ := id h
  unfold MX11_pole
  refine k_both h hc hn (fun hv s hf => ?_) (fun h1 h2 s hf hcv htr => ?_)
  · dsimp only
    unfold aPole
    rw [if_pos rfl, cas_neg (fun z => hv ⟨z.1, z.2.1⟩)]; exact OK.so ⟨rfl, hf⟩
  · have hkl := kdm_le (p := S.1) (m := cm S c.toNat)
    have hq : n.toNat < NP S.1 := by unfold inP at h2; omega
    have en : ((n.toNat : Nat) : Int) = n := by unfold inP at h2; omega
    dsimp only
    unfold aPole
    rw [if_neg ne10, dk_0_7 hD, ob_some, c_kind (dk_83_0 hD) hS.1 hcv, ob_some]
    by_cases c4 : kdm S.1 (cm S c.toNat) = 4
    · have he := kdm_4.mp c4
      rw [if_pos (by rw [c4]; rfl), dk_0_8 hD, ob_some, ob_some, cas_pos (show inC c ∧ inP S.1 n ∧ e6m (cm S c.toNat) % S.1 ≠ 0 from ⟨h1, h2, he⟩)]
      refine OK.bi (c_dual (k := 85) (o := 83) (dk_85_0 hD) (dk_83_0 hD) (by omega) hS.1 hcv) ?_
      intro s2 ⟨g1, g2⟩
      have f2 : Fr SC s s2 := sc_C2 g2 (by omega)
      have hC2 := (QV_fr h (hf.tr f2)).2.2.2.2.1
      have htr2 : Tr s2 89 (cX S.1 n.toNat) (cY S.1 n.toNat) (cZ S.1 n.toNat) := Tr_k htr (fun i => g2 _ _ (by unfold C2; omega))
      obtain ⟨q1, q2, q3⟩ := plr_bd hS.1 g1.2.2 (cXYZ_bd (n := n.toNat) hS.1)
      rw [ob_some, dk_0_11 hD, ob_some, dk_0_12 hD, ob_some, c_polar (dk_85_0 hD) g1 htr2, ob_some, ob_some, dk_0_0 hD, ob_some, dk_1_0 hD, ob_some, T3_k (by decide), hC2.1, c_numbered hS.1 T3_Tr (bd_rg q1 (by decide)) (bd_rg q2 (by decide)) (bd_rg q3 (by decide)), ob_some, ← fs_pole hS.1 he hq, en]
      exact OK.so ⟨rfl, (hf.tr f2).tr (sc_T3 (by omega))⟩
    · rw [if_neg (by rw [w4, iI_eqN (by omega) (by omega)]; exact c4), cas_neg (fun z => c4 (kdm_4.mpr z.2.2))]; exact OK.so ⟨rfl, hf⟩
theorem m_pole {σ : Sto} {ρ : Rho} {S : Sheet} {c n : Int} (h : QV σ ρ S) (hc : rg32 c) (hn : rg32 n) : OK (MX12_pole σ ρ 92 (iI c) (iI n)) (fun o => o.1 = iI (aPole S c n) ∧ Fr SC σ o.2) := by
  obtain ⟨hD, hρ, -, hS, hC, hM⟩ := id h
  have hN := NP_le hS.1
  unfold MX12_pole
  refine m_pre2 h hc hn (fun hv s hf => ?_) (fun h1 h2 s hf h7 => ?_)
  · unfold aPole
    rw [cas_neg (fun z => hv ⟨z.1, z.2.1⟩)]; exact ⟨rfl, hf⟩
  · dsimp only
    refine m_lay (QV_fr h hf) h1 (fun s2 hf2 hm => ?_)
    refine OK.bi (m_rankOf hρ hS.1 hm) ?_
    rintro ⟨v, s3⟩ ⟨r1, r2⟩
    have hrk := rkm_le (p := S.1) (m := cm S c.toNat)
    have hf3 : Fr SC σ s3 := (hf.tr hf2).tr (r2.mo (fun _ _ h => sc_RX h))
    dsimp only at r1 r2 ⊢
    unfold aPole
    rw [r1]
    by_cases c3 : rkm S.1 (cm S c.toNat) = 3
    · have he := rkm_3'.mp c3
      rw [if_pos (by rw [c3]; rfl), bn_eq, cas_pos (show inC c ∧ inP S.1 n ∧ e6m (cm S c.toNat) % S.1 ≠ 0 from ⟨h1, h2, he⟩)]
      refine scan_g (S := Sto) (call := fun (g : Sto → Int32 → Option (Int32 × Sto)) s (k : Nat) => g s (iI k)) (N := NP S.1) (P := fun k => decide (plv (cm S c.toNat) S.1 k = n)) (I := fun s => Fr SC σ s ∧ Mm s S.1 (cm S c.toNat)) (Post := fun o r => OK r (fun o' => o'.1 = iI (oI o) ∧ Fr SC σ o'.2)) ?_ ?_ ?_ (by unfold FU; omega) (s := s3) ⟨hf3, Mm_rx hm r2⟩
      · intro g s ⟨i1, i2⟩
        unfold FX12_pole_35
        rw [m_places i2.1, ob_some, if_pos (by rw [iI_leN (by omega) (by omega)]; omega)]
        exact OK.so ⟨rfl, i1⟩
      · intro g s k ⟨i1, i2⟩ hk hP
        obtain ⟨s4, e4, f4⟩ := m_polarOf (n := k) hρ hS.1 i2 hk
        unfold FX12_pole_35
        rw [m_places i2.1, ob_some, if_neg (by rw [iI_leN (by omega) (by omega)]; omega), e4, ob_some]
        dsimp only
        rw [if_pos (by rw [of_decide_eq_true hP])]
        exact OK.so ⟨rfl, i1.tr (f4.mo (fun _ _ h => sc_PX h))⟩
      · intro g s k ⟨i1, i2⟩ hk hP
        obtain ⟨s4, e4, f4⟩ := m_polarOf (n := k) hρ hS.1 i2 hk
        have hpr := plv_rg (n := k) (m := cm S c.toNat) hS.1
        refine ⟨s4, ⟨i1.tr (f4.mo (fun _ _ h => sc_PX h)), Mm_fr i2 f4⟩, ?_⟩
        unfold FX12_pole_35
        rw [m_places i2.1, ob_some, if_neg (by rw [iI_leN (by omega) (by omega)]; omega), e4, ob_some]
        dsimp only
        rw [if_neg (by rw [iI_eq ⟨by omega, by omega⟩ hn]; exact of_decide_eq_false hP), bn_eq, iI_succ]
    · rw [if_neg (by rw [w3, iI_eqN (by omega) (by omega)]; exact c3), cas_neg (fun z => c3 (rkm_3'.mpr z.2.2))]; exact OK.so ⟨rfl, hf3⟩
/-- meets -/
noncomputable def aMeets (S : Sheet) (c n : Int) : Int := cas (inC c ∧ inP S.1 n) (meetN S.1 (cm S c.toNat) (cX S.1 n.toNat) (cY S.1 n.toNat) (cZ S.1 n.toNat)) (-1)
theorem k_meets {σ : Sto} {ρ : Rho} {S : Sheet} {c n : Int} (h : QV σ ρ S) (hc : rg32 c) (hn : rg32 n) : OK (MX11_meets σ ρ 0 (iI c) (iI n)) (fun o => o.1 = iI (aMeets S c n) ∧ Fr SC σ o.2) := by
  obtain ⟨hD, hρ, -, hS, hC, hM⟩ := id h
  unfold MX11_meets
  refine k_both h hc hn (fun hv s hf => ?_) (fun h1 h2 s hf hcv htr => ?_)
  · dsimp only
    unfold aMeets
    rw [if_pos rfl, cas_neg hv]; exact OK.so ⟨rfl, hf⟩
  · dsimp only
    unfold aMeets
    rw [if_neg ne10, cas_pos (show inC c ∧ inP S.1 n from ⟨h1, h2⟩), dk_0_7 hD, ob_some, dk_0_11 hD, ob_some, c_cross (dk_83_0 hD) hS.1 hcv htr (cXYZ_bd hS.1), ob_some]
    exact OK.so ⟨rfl, hf⟩
theorem m_meets {σ : Sto} {ρ : Rho} {S : Sheet} {c n : Int} (h : QV σ ρ S) (hc : rg32 c) (hn : rg32 n) : OK (MX12_meets σ ρ 92 (iI c) (iI n)) (fun o => o.1 = iI (aMeets S c n) ∧ Fr SC σ o.2) := by
  obtain ⟨hD, hρ, -, hS, hC, hM⟩ := id h
  have hN := NP_le hS.1
  unfold MX12_meets
  refine m_pre2 h hc hn (fun hv s hf => ?_) (fun h1 h2 s hf h7 => ?_)
  · unfold aMeets
    rw [cas_neg hv]; exact ⟨rfl, hf⟩
  · dsimp only
    have hq : n.toNat < NP S.1 := by unfold inP at h2; omega
    have en : ((n.toNat : Nat) : Int) = n := by unfold inP at h2; omega
    refine m_lay (QV_fr h hf) h1 (fun s2 hf2 hm => ?_)
    unfold aMeets
    rw [bn_eq, bn_eq, cas_pos (show inC c ∧ inP S.1 n from ⟨h1, h2⟩), ← meet_on hS.1 hq]
    refine cnt_g (S := Sto) (call := fun (g : Sto → Int32 → Int32 → Option (Int32 × Sto)) s (v k : Nat) => g s (iI v) (iI k)) (N := NP S.1) (P := fun k => liB S.1 k n.toNat && onB (cm S c.toNat) S.1 k) (I := fun s => Fr SC σ s ∧ Mm s S.1 (cm S c.toNat)) (Post := fun r => OK r (fun o' => o'.1 = iI (ct (fun k => liB S.1 k n.toNat && onB (cm S c.toNat) S.1 k) (NP S.1) : Nat) ∧ Fr SC σ o'.2)) ?_ ?_ (by unfold FU; omega) (s := s2) ⟨hf.tr hf2, hm⟩
    · intro g s ⟨i1, i2⟩
      unfold FX12_meets_28
      rw [m_places i2.1, ob_some, if_pos (by rw [iI_leN (by omega) (by omega)]; omega)]
      exact OK.so ⟨rfl, i1⟩
    · intro g s v k ⟨i1, i2⟩ hk hv
      obtain ⟨s3, e3, f3⟩ := m_isOnLine' (n := k) (k := n.toNat) hS.1 i2.1 hk hq
      rw [en] at e3
      have j1 := i1.tr (f3.mo (fun _ _ h => sc_PX h))
      have j2 := Mm_fr i2 f3
      obtain ⟨s4, e4, f4⟩ := m_isOn' (n := k) hρ hS.1 j2 hk
      unfold FX12_meets_28 BX12_meets_61 BX12_meets_62
      rw [m_places i2.1, ob_some, if_neg (by rw [iI_leN (by omega) (by omega)]; omega), e3, ob_some]
      cases b1 : liB S.1 k n.toNat with
      | false => exact ⟨s3, ⟨j1, j2⟩, by simp [bn_eq, iI_succ, iI_add0]⟩
      | true =>
        refine ⟨s4, ⟨j1.tr (f4.mo (fun _ _ h => sc_PX h)), Mm_fr j2 f4⟩, ?_⟩
        simp only [if_true, ne10, if_false, e4, ob_some]
        cases b2 : onB (cm S c.toNat) S.1 k <;> simp [bn_eq, iI_succ, iI_add0, ne10]
