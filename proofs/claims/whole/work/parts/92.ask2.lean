/-! QUESTIONS: the k-th, tangents -/
theorem ct_mono {P : Nat → Bool} : ∀ {n i : Nat}, i ≤ n → ct P i ≤ ct P n
  | 0, i, h => by rw [show i = 0 by omega]; exact Nat.le_refl _
  | n + 1, i, h => by
    by_cases q : i = n + 1
    · rw [q]; exact Nat.le_refl _
    · have := ct_mono (P := P) (n := n) (i := i) (by omega)
      show ct P i ≤ ct P n + _
      omega
theorem kth_none {P : Nat → Bool} {N k : Nat} (h : ct P N ≤ k) : kth P N k = none := by
  unfold kth
  rw [fs_none]
  intro i hi
  cases hp : P i with
  | false => rfl
  | true =>
    have h1 : ct P (i + 1) = ct P i + 1 := by show ct P i + (if P i = true then 1 else 0) = _; rw [if_pos hp]
    have h2 := ct_mono (P := P) (n := N) (i := i + 1) (by omega)
    have : ct P i ≠ k := by omega
    simp [this]
theorem kth_congr {P Q : Nat → Bool} {N k : Nat} (h : ∀ i, i < N → P i = Q i) : kth P N k = kth Q N k := by
  unfold kth
  refine fs_congr (fun i hi => ?_)
  rw [h i hi, ct_congr (P := P) (Q := Q) (n := i) (fun j hj => h j (by omega))]
theorem left0 {K v : Nat} (hK : (K : Int) < 2147483648) (hv : v ≤ K) : (iI ((K : Int) - v) = 0) ↔ v = K := by
  rw [show (0 : Int32) = iI 0 from rfl, iI_eq ⟨by omega, by omega⟩ ⟨by omega, by omega⟩]; omega
theorem left1 {K v : Nat} : iI ((K : Int) - v) + (-1 : Int32) = iI ((K : Int) - ((v + 1 : Nat) : Int)) := by
  rw [show (-1 : Int32) = iI (-1) from rfl, iI_add]; congr 1; push_cast; omega
theorem iI_eqL {a b : Nat} (ha : (a : Int) < 2147483648) (hb : (b : Int) < 2147483648) : (iI a = iI b) ↔ a = b := by
  rw [iI_eq ⟨by omega, by omega⟩ ⟨by omega, by omega⟩]; omega
/-- on -/
noncomputable def aOn (S : Sheet) (c k : Int) (b : Int32) : Int := cas (inC c ∧ 0 ≤ k) (oI (kth (if b = 0 then onB (cm S c.toNat) S.1 else allB (cm S c.toNat) S.1) (NP S.1) k.toNat)) (-1)
theorem k_nthPoint {σ : Sto} {ρ : Rho} {S : Sheet} {m : Nat → Int} {K : Nat} (h : QV σ ρ S) (hc : Cv σ 83 S.1 m) (hK : (K : Int) < 2147483648) : OK (MX11_nthPointOn σ ρ 0 (iI K)) (fun o => o.1 = iI (oI (kth (onB m S.1) (NP S.1) K)) ∧ Fr SC σ o.2) := by
  obtain ⟨hD, hρ, -, hS, hC, hM⟩ := id h
  have hN := NP_le hS.1
  unfold MX11_nthPointOn
  rw [dk_0_0 hD, ob_some, dk_1_0 hD, ob_some, bn_eq, bn_eq, bn_eq, hC.1]
  refine kth_g (S := Sto) (call := fun (g : Sto → Int32 → Int32 → Int32 → Option (Int32 × Sto)) s (v i : Nat) => g s (iI S.1) (iI ((K : Int) - v)) (iI i)) (N := NP S.1) (k := K) (P := onB m S.1) (I := fun s => Fr SC σ s ∧ Cv s 83 S.1 m) (Post := fun o r => OK r (fun o' => o'.1 = iI (oI o) ∧ Fr SC σ o'.2)) ?_ ?_ ?_ (by unfold FU; omega) (s := σ) ⟨Fr.rf, hc⟩
  · intro g s v ⟨i1, i2⟩ _ _
    unfold FX11_nthPointOn_16
    rw [c_points, ob_some, if_pos (by rw [iI_leN (by omega) (by omega)]; omega)]
    exact OK.so ⟨rfl, i1⟩
  · intro g s i ⟨i1, i2⟩ hi hP hki
    have hq := of_decide_eq_true hP
    unfold FX11_nthPointOn_16
    rw [c_points, ob_some, if_neg (by rw [iI_leN (by omega) (by omega)]; omega), dk_0_11 hD, ob_some, c_placeN hS.1 hi, ob_some]
    dsimp only
    rw [if_neg ne10, dk_0_7 hD, ob_some, ob_some, c_value (dk_83_0 hD) hS.1 (Cv_k i2 (fun i => T3_k (by decide)) (fun i => T3_k (by decide))) T3_Tr (cXYZ_bd hS.1), ob_some, if_pos ((zI hS.1).mpr hq), if_pos ((left0 hK (Nat.le_refl _)).mpr rfl)]
    exact OK.so ⟨rfl, i1.tr (sc_T3 (by omega))⟩
  · intro g s v i ⟨i1, i2⟩ hi hv hvi hP
    refine ⟨T3 s 89 (cX S.1 i) (cY S.1 i) (cZ S.1 i), ⟨i1.tr (sc_T3 (by omega)), Cv_k i2 (fun i => T3_k (by decide)) (fun i => T3_k (by decide))⟩, ?_⟩
    unfold FX11_nthPointOn_16 BX11_nthPointOn_62
    rw [c_points, ob_some, if_neg (by rw [iI_leN (by omega) (by omega)]; omega), dk_0_11 hD, ob_some, c_placeN hS.1 hi, ob_some]
    dsimp only
    rw [if_neg ne10, dk_0_7 hD, ob_some, ob_some, c_value (dk_83_0 hD) hS.1 (Cv_k i2 (fun i => T3_k (by decide)) (fun i => T3_k (by decide))) T3_Tr (cXYZ_bd hS.1), ob_some]
    cases hb : onB m S.1 i with
    | true =>
      have := hP hb
      rw [if_pos ((zI hS.1).mpr (of_decide_eq_true hb)), if_neg (fun z => by have := (left0 hK hv).mp z; omega), bn_eq, bn_eq, left1, iI_succ, if_pos rfl]
    | false =>
      rw [if_neg (fun z => (of_decide_eq_false hb) ((zI hS.1).mp z)), bn_eq, iI_succ, if_neg (by decide)] <;> rfl
theorem meet_lz {p l : Nat} {m : Nat → Int} (hp : PR p) (hl : l < NP p) : (allB m p l = true ∧ meetN p m (cX p l) (cY p l) (cZ p l) = p + 1) ∨ (allB m p l = false ∧ 0 ≤ meetN p m (cX p l) (cY p l) (cZ p l) ∧ meetN p m (cX p l) (cY p l) (cZ p l) ≤ 2) := by
  rw [all_lz hp hl]
  unfold lzm lz
  by_cases c : lA (m 0) (m 1) (m 5) (cX p l) (cY p l) % p = 0 ∧ lB (m 0) (m 3) (m 4) (m 5) (cX p l) (cY p l) (cZ p l) % p = 0 ∧ lC (m 0) (m 1) (m 2) (m 3) (m 4) (cX p l) (cY p l) (cZ p l) % p = 0
  · refine Or.inl ⟨decide_eq_true c, ?_⟩
    unfold meetN zf
    rw [if_pos c]
  · have := zf_lt hp c
    exact Or.inr ⟨decide_eq_false c, this.2.2, this.2.1⟩
theorem k_nthLine {σ : Sto} {ρ : Rho} {S : Sheet} {m : Nat → Int} {K : Nat} (h : QV σ ρ S) (hc : Cv σ 83 S.1 m) (hK : (K : Int) < 2147483648) : OK (MX11_nthLineOn σ ρ 0 (iI K)) (fun o => o.1 = iI (oI (kth (allB m S.1) (NP S.1) K)) ∧ Fr SC σ o.2) := by
  obtain ⟨hD, hρ, -, hS, hC, hM⟩ := id h
  have hN := NP_le hS.1
  obtain ⟨hp3, hp23⟩ := hS.1.le
  have hln := lnsN_ct (m := m) hS.1
  have hlc := ct_le (allB m S.1) (NP S.1)
  unfold MX11_nthLineOn
  rw [dk_0_0 hD, ob_some, dk_1_0 hD, ob_some, bn_eq, bn_eq, dk_0_7 hD, ob_some, c_curveLines (dk_83_0 hD) hS.1 hc, ob_some, hC.1, ← hln]
  by_cases cl : K < ct (allB m S.1) (NP S.1)
  · rw [if_pos (by rw [iI_lt (rgN (by omega)) (rgN (by omega))]; omega), bn_eq]
    refine kth_g (S := Sto) (call := fun (g : Sto → Int32 → Int32 → Int32 → Option (Int32 × Sto)) s (v i : Nat) => g s (iI S.1) (iI ((K : Int) - v)) (iI i)) (N := NP S.1) (k := K) (P := allB m S.1) (I := fun s => Fr SC σ s ∧ Cv s 83 S.1 m) (Post := fun o r => OK r (fun o' => o'.1 = iI (oI o) ∧ Fr SC σ o'.2)) ?_ ?_ ?_ (by unfold FU; omega) (s := σ) ⟨Fr.rf, hc⟩
    · intro g s v ⟨i1, i2⟩ _ _
      unfold FX11_nthLineOn_29
      rw [c_points, ob_some, if_pos (by rw [iI_leN (by omega) (by omega)]; omega)]
      exact OK.so ⟨rfl, i1⟩
    · intro g s i ⟨i1, i2⟩ hi hP hki
      have hmz := meet_lz (m := m) hS.1 hi
      rw [hP] at hmz
      have hm1 : meetN S.1 m (cX S.1 i) (cY S.1 i) (cZ S.1 i) = S.1 + 1 := by
        rcases hmz with z | z
        · exact z.2
        · cases z.1
      unfold FX11_nthLineOn_29
      rw [c_points, ob_some, if_neg (by rw [iI_leN (by omega) (by omega)]; omega), dk_0_11 hD, ob_some, c_placeN hS.1 hi, ob_some]
      dsimp only
      rw [if_neg ne10, dk_0_7 hD, ob_some, ob_some, c_cross (dk_83_0 hD) hS.1 (Cv_k i2 (fun i => T3_k (by decide)) (fun i => T3_k (by decide))) T3_Tr (cXYZ_bd hS.1), ob_some, hm1, if_neg (by rw [show (2 : Int32) = iI 2 from rfl, iI_le ⟨by omega, by omega⟩ ⟨by omega, by omega⟩]; omega), if_pos ((left0 hK (Nat.le_refl _)).mpr rfl)]
      exact OK.so ⟨rfl, i1.tr (sc_T3 (by omega))⟩
    · intro g s v i ⟨i1, i2⟩ hi hv hvi hP
      have hmz := meet_lz (m := m) hS.1 hi
      refine ⟨T3 s 89 (cX S.1 i) (cY S.1 i) (cZ S.1 i), ⟨i1.tr (sc_T3 (by omega)), Cv_k i2 (fun i => T3_k (by decide)) (fun i => T3_k (by decide))⟩, ?_⟩
      unfold FX11_nthLineOn_29 BX11_nthLineOn_76
      rw [c_points, ob_some, if_neg (by rw [iI_leN (by omega) (by omega)]; omega), dk_0_11 hD, ob_some, c_placeN hS.1 hi, ob_some]
      dsimp only
      rw [if_neg ne10, dk_0_7 hD, ob_some, ob_some, c_cross (dk_83_0 hD) hS.1 (Cv_k i2 (fun i => T3_k (by decide)) (fun i => T3_k (by decide))) T3_Tr (cXYZ_bd hS.1), ob_some]
      rcases hmz with ⟨hb, hm1⟩ | ⟨hb, hm0, hm1⟩
      · have := hP hb
        rw [hm1, if_neg (by rw [show (2 : Int32) = iI 2 from rfl, iI_le ⟨by omega, by omega⟩ ⟨by omega, by omega⟩]; omega), if_neg (fun z => by have := (left0 hK hv).mp z; omega), bn_eq, bn_eq, left1, iI_succ, hb, if_pos rfl]
      · rw [if_pos (by rw [show (2 : Int32) = iI 2 from rfl, iI_le ⟨by omega, by omega⟩ ⟨by omega, by omega⟩]; omega), bn_eq, iI_succ, hb, if_neg (by decide)] <;> rfl
  · rw [if_neg (by rw [iI_lt ⟨by omega, by omega⟩ (rgN (by omega))]; omega), kth_none (by omega)]
    exact OK.so ⟨rfl, Fr.rf⟩
theorem k_on {σ : Sto} {ρ : Rho} {S : Sheet} {c k : Int} {b : Int32} (h : QV σ ρ S) (hc : rg32 c) (hk : rg32 k) : OK (MX11_on σ ρ 0 (iI c) (iI k) b) (fun o => o.1 = iI (aOn S c k b) ∧ Fr SC σ o.2) := by
  obtain ⟨hD, hρ, -, hS, hC, hM⟩ := id h
  unfold MX11_on aOn
  rcases k_isConic hc with ⟨a, e⟩ | ⟨a, e⟩
  · rw [e, ob_some, if_neg ne10]
    by_cases k0 : 0 ≤ k
    · rw [if_pos (by rw [show (0 : Int32) = iI 0 from rfl, iI_le ⟨by omega, by omega⟩ hk]; exact k0), dk_0_7 hD, ob_some, dk_0_0 hD, ob_some, dk_1_0 hD, ob_some, cas_pos (show inC c ∧ 0 ≤ k from ⟨a, k0⟩)]
      have htk := c_take (s := 2) (k := 83) (c := c.toNat) (dk_83_0 hD) (by omega) (Sr_2 hD) hS hC (by unfold inC at a; omega)
      rw [show ((c.toNat : Nat) : Int) = c by unfold inC at a; omega] at htk
      refine OK.bi htk ?_
      intro s ⟨g1, g2⟩
      have f1 : Fr SC σ s := sc_C2 g2 (by omega)
      have ek : ((k.toNat : Nat) : Int) = k := by omega
      have hkk : ((k.toNat : Nat) : Int) < 2147483648 := by unfold rg32 at hk; omega
      by_cases b0 : b = 0
      · rw [if_pos b0, if_pos b0]
        have := k_nthPoint (K := k.toNat) (QV_fr h f1) g1 hkk
        rw [ek] at this
        refine OK.bi this ?_
        rintro ⟨v, s2⟩ ⟨r1, r2⟩
        exact OK.so ⟨r1, f1.tr r2⟩
      · rw [if_neg b0, if_neg b0]
        have := k_nthLine (K := k.toNat) (QV_fr h f1) g1 hkk
        rw [ek] at this
        refine OK.bi this ?_
        rintro ⟨v, s2⟩ ⟨r1, r2⟩
        exact OK.so ⟨r1, f1.tr r2⟩
    · rw [if_neg (by rw [show (0 : Int32) = iI 0 from rfl, iI_le ⟨by omega, by omega⟩ hk]; exact k0), cas_neg (fun z => k0 z.2)]
      exact OK.so ⟨rfl, Fr.rf⟩
  · rw [e, ob_some, if_pos rfl, cas_neg (fun z => a z.1)]; exact OK.so ⟨rfl, Fr.rf⟩
theorem m_on {σ : Sto} {ρ : Rho} {S : Sheet} {c k : Int} {b : Int32} (h : QV σ ρ S) (hc : rg32 c) (hk : rg32 k) : OK (MX12_on σ ρ 92 (iI c) (iI k) b) (fun o => o.1 = iI (aOn S c k b) ∧ Fr SC σ o.2) := by
  obtain ⟨hD, hρ, -, hS, hC, hM⟩ := id h
  have hN := NP_le hS.1
  unfold MX12_on aOn
  rcases m_isConic hc with ⟨a, e⟩ | ⟨a, e⟩
  · rw [e, ob_some, if_neg ne10]
    by_cases k0 : 0 ≤ k
    · rw [if_pos (by rw [show (0 : Int32) = iI 0 from rfl, iI_le ⟨by omega, by omega⟩ hk]; exact k0), cas_pos (show inC c ∧ 0 ≤ k from ⟨a, k0⟩)]
      refine m_lay h a (fun s2 hf2 hm => ?_)
      obtain ⟨K, rfl⟩ := Int.eq_ofNat_of_zero_le k0
      have hkk : (K : Int) < 2147483648 := by unfold rg32 at hk; omega
      rw [bn_eq, bn_eq, Int.toNat_natCast]
      have B : ∀ s k, Mm s S.1 (cm S c.toNat) → k < NP S.1 → ∃ s', (if b = 0 then MX12_isOn s ρ 92 (iI (k : Nat)) else MX12_isOfAll s ρ 92 (iI (k : Nat))) = some (if (if b = 0 then onB (cm S c.toNat) S.1 else allB (cm S c.toNat) S.1) k then 1 else 0, s') ∧ Fr PX s s' := by
        intro s k hm hk
        by_cases b0 : b = 0
        · rw [if_pos b0, if_pos b0]; exact m_isOn' hρ hS.1 hm hk
        · rw [if_neg b0, if_neg b0]; exact m_isOfAll hρ hS.1 hm hk
      have U : ∀ g s (v i : Nat), i < NP S.1 → Mm s S.1 (cm S c.toNat) → FX12_on_25 ρ 92 (iI c) (iI (K : Nat)) b g s (iI (v : Nat)) (iI (i : Nat)) = Option.bind (if b = 0 then MX12_isOn s ρ 92 (iI (i : Nat)) else MX12_isOfAll s ρ 92 (iI (i : Nat))) (fun c2 => if c2.1 = 0 then BX12_on_74 ρ 92 (iI c) (iI (K : Nat)) b g c2.2 (iI (v : Nat)) (iI (i : Nat)) else BX12_on_62 ρ 92 (iI c) (iI (K : Nat)) b g c2.2 (iI (v : Nat)) (iI (i : Nat))) := by
        intro g s v i hi hm
        unfold FX12_on_25
        rw [m_places hm.1, ob_some, if_neg (by rw [iI_leN (by omega) (by omega)]; omega)]
        by_cases b0 : b = 0
        · rw [if_pos b0, if_pos b0]
        · rw [if_neg b0, if_neg b0]
      refine kth_g (S := Sto) (call := fun (g : Sto → Int32 → Int32 → Option (Int32 × Sto)) s (v i : Nat) => g s (iI v) (iI i)) (N := NP S.1) (k := K) (P := if b = 0 then onB (cm S c.toNat) S.1 else allB (cm S c.toNat) S.1) (I := fun s => Fr SC σ s ∧ Mm s S.1 (cm S c.toNat)) (Post := fun o r => OK r (fun o' => o'.1 = iI (oI o) ∧ Fr SC σ o'.2)) ?_ ?_ ?_ (by unfold FU; omega) (s := s2) ⟨hf2, hm⟩
      · intro g s v ⟨i1, i2⟩ _ _
        unfold FX12_on_25
        rw [m_places i2.1, ob_some, if_pos (by rw [iI_leN (by omega) (by omega)]; omega)]
        exact OK.so ⟨rfl, i1⟩
      · intro g s i ⟨i1, i2⟩ hi hP hki
        obtain ⟨s', e', f'⟩ := B s i i2 hi
        show OK (FX12_on_25 ρ 92 (iI c) (iI (K : Nat)) b g s (iI (K : Nat)) (iI (i : Nat))) _
        rw [U g s K i hi i2, e', ob_some, hP]
        dsimp only
        rw [if_pos rfl, if_neg ne10]
        unfold BX12_on_62
        rw [if_pos rfl]
        exact OK.so ⟨rfl, i1.tr (f'.mo (fun _ _ h => sc_PX h))⟩
      · intro g s v i ⟨i1, i2⟩ hi hv hvi hP
        obtain ⟨s', e', f'⟩ := B s i i2 hi
        refine ⟨s', ⟨i1.tr (f'.mo (fun _ _ h => sc_PX h)), Mm_fr i2 f'⟩, ?_⟩
        show FX12_on_25 ρ 92 (iI c) (iI (K : Nat)) b g s (iI (v : Nat)) (iI (i : Nat)) = _
        rw [U g s v i hi i2, e', ob_some]
        cases hb : (if b = 0 then onB (cm S c.toNat) S.1 else allB (cm S c.toNat) S.1) i with
        | true =>
          have := hP hb
          dsimp only
          rw [if_pos rfl, if_neg ne10]
          unfold BX12_on_62 BX12_on_74
          rw [if_neg (by rw [iI_eqL (by omega) hkk]; omega), bn_eq, bn_eq, iI_succ, iI_succ, if_pos rfl]
        | false =>
          unfold BX12_on_74
          simp [bn_eq, iI_succ]
    · rw [if_neg (by rw [show (0 : Int32) = iI 0 from rfl, iI_le ⟨by omega, by omega⟩ hk]; exact k0), cas_neg (fun z => k0 z.2)]
      exact OK.so ⟨rfl, Fr.rf⟩
  · rw [e, ob_some, if_pos rfl, cas_neg (fun z => a z.1)]; exact OK.so ⟨rfl, Fr.rf⟩
/-- tangent -/
def tqB (m : Nat → Int) (p q l : Nat) : Bool := liB p q l && tgB m p l
noncomputable def aTan (S : Sheet) (c n k : Int) : Int := cas (inC c ∧ inP S.1 n ∧ -1 ≤ k ∧ e6m (cm S c.toNat) % S.1 ≠ 0) (cas (k = -1) ((ct (tnB (cm S c.toNat) S.1 n.toNat) (NP S.1) : Nat) : Int) (oI (kth (tqB (cm S c.toNat) S.1 n.toNat) (NP S.1) k.toNat))) (-1)
theorem m_isTangent {σ : Sto} {ρ : Rho} {p l : Nat} {m : Nat → Int} (hρ : Md ρ) (hp : PR p) (hm : Mm σ p m) (hl : l < NP p) : ∃ σ', MX12_isTangent σ ρ 92 (iI l) = some (if tgB m p l then 1 else 0, σ') ∧ Fr PX σ σ' := by
  have hN := NP_le hp
  unfold MX12_isTangent tgB
  rw [bn_eq]
  refine scan_g (S := Sto) (call := fun (g : Sto → Int32 → Option (Int32 × Sto)) s (k : Nat) => g s (iI k)) (N := NP p) (P := fun k => onB m p k && decide (plv m p k = (l : Int))) (I := fun s => Fr PX σ s) (Post := fun o r => ∃ σ', r = some (if o.isSome then 1 else 0, σ') ∧ Fr PX σ σ') ?_ ?_ ?_ (by unfold FU; omega) (s := σ) Fr.rf
  · intro g s i1
    refine ⟨s, ?_, i1⟩
    unfold FX12_isTangent_2
    rw [m_places (Mm_fr hm i1).1, ob_some, if_pos (by rw [iI_leN (by omega) (by omega)]; omega)]
    exact zr0 _
  · intro g s k i1 hk hP
    rw [Bool.and_eq_true] at hP
    obtain ⟨s2, e2, f2⟩ := m_isOn' (n := k) hρ hp (Mm_fr hm i1) hk
    obtain ⟨s3, e3, f3⟩ := m_polarOf (n := k) hρ hp (Mm_fr hm (i1.tr f2)) hk
    refine ⟨s3, ?_, (i1.tr f2).tr f3⟩
    unfold FX12_isTangent_2
    rw [m_places (Mm_fr hm i1).1, ob_some, if_neg (by rw [iI_leN (by omega) (by omega)]; omega), e2, ob_some, hP.1]
    dsimp only
    rw [if_pos rfl, if_neg ne10, e3, ob_some]
    dsimp only
    rw [if_pos (by rw [of_decide_eq_true hP.2])]
    exact zr1 _
  · intro g s k i1 hk hP
    obtain ⟨s2, e2, f2⟩ := m_isOn' (n := k) hρ hp (Mm_fr hm i1) hk
    obtain ⟨s3, e3, f3⟩ := m_polarOf (n := k) hρ hp (Mm_fr hm (i1.tr f2)) hk
    have hpr := plv_rg (n := k) (m := m) hp
    unfold FX12_isTangent_2 BX12_isTangent_29
    rw [m_places (Mm_fr hm i1).1, ob_some, if_neg (by rw [iI_leN (by omega) (by omega)]; omega), e2, ob_some]
    cases hb : onB m p k with
    | false =>
      refine ⟨s2, i1.tr f2, ?_⟩
      simp [bn_eq, iI_succ]
    | true =>
      refine ⟨s3, (i1.tr f2).tr f3, ?_⟩
      rw [hb, Bool.true_and] at hP
      dsimp only
      rw [if_pos rfl, if_neg ne10, e3, ob_some]
      dsimp only
      rw [if_neg (by rw [iI_eq ⟨by omega, by omega⟩ (rgN (by omega))]; exact of_decide_eq_false hP), bn_eq, iI_succ]
theorem k_nthTan {σ : Sto} {ρ : Rho} {S : Sheet} {m : Nat → Int} {q K : Nat} (h : QV σ ρ S) (hc : Cv σ 83 S.1 m) (ht : Tr σ 89 (cX S.1 q) (cY S.1 q) (cZ S.1 q)) (hq : q < NP S.1) (he : e6m m % S.1 ≠ 0) (hK : (K : Int) < 2147483648) : OK (MX11_nthTangentThroughSpot σ ρ 0 (iI K)) (fun o => o.1 = iI (oI (kth (tqB m S.1 q) (NP S.1) K)) ∧ Fr SC σ o.2) := by
  obtain ⟨hD, hρ, -, hS, hC, hM⟩ := id h
  have hN := NP_le hS.1
  have T : ∀ i, i < NP S.1 → tqB m S.1 q i = (decide ((cX S.1 i * cX S.1 q + cY S.1 i * cY S.1 q + cZ S.1 i * cZ S.1 q) % S.1 = 0) && decide (qv (fun j => du m j % S.1) (cX S.1 i) (cY S.1 i) (cZ S.1 i) % S.1 = 0)) := fun i hi => by
    unfold tqB
    rw [tg_du hS.1 he hi, liB_eq, qv_mod]
  unfold MX11_nthTangentThroughSpot
  rw [dk_0_0 hD, ob_some, dk_1_0 hD, ob_some, bn_eq, bn_eq, dk_0_8 hD, ob_some, dk_0_7 hD, ob_some, hC.1]
  refine OK.bi (c_dual (k := 85) (o := 83) (dk_85_0 hD) (dk_83_0 hD) (by omega) hS.1 hc) ?_
  intro s2 ⟨g1, g2⟩
  have f2 : Fr SC σ s2 := sc_C2 g2 (by omega)
  have ht2 : Tr s2 89 (cX S.1 q) (cY S.1 q) (cZ S.1 q) := Tr_k ht (fun i => g2 _ _ (by unfold C2; omega))
  rw [bn_eq]
  refine kth_g (S := Sto) (call := fun (g : Sto → Int32 → Int32 → Int32 → Option (Int32 × Sto)) s (v i : Nat) => g s (iI S.1) (iI ((K : Int) - v)) (iI i)) (N := NP S.1) (k := K) (P := tqB m S.1 q) (I := fun s => Fr SC σ s ∧ Cv s 85 S.1 (fun i => du m i % S.1) ∧ Tr s 89 (cX S.1 q) (cY S.1 q) (cZ S.1 q)) (Post := fun o r => OK r (fun o' => o'.1 = iI (oI o) ∧ Fr SC σ o'.2)) ?_ ?_ ?_ (by unfold FU; omega) (s := s2) ⟨f2, g1, ht2⟩
  · intro g s v ⟨i1, i2, i3⟩ _ _
    unfold FX11_nthTangentThroughSpot_27
    rw [c_points, ob_some, if_pos (by rw [iI_leN (by omega) (by omega)]; omega)]
    exact OK.so ⟨rfl, i1⟩
  · intro g s i ⟨i1, i2, i3⟩ hi hP hki
    rw [T i hi, Bool.and_eq_true] at hP
    unfold FX11_nthTangentThroughSpot_27
    rw [c_points, ob_some, if_neg (by rw [iI_leN (by omega) (by omega)]; omega), dk_0_13 hD, ob_some, c_placeN hS.1 hi, ob_some]
    dsimp only
    rw [if_neg ne10, ob_some, dk_0_11 hD, ob_some, k_isOn hS.1 T3_Tr (Tr_k i3 (fun i => T3_k (by decide))) (cXYZ_bd hS.1) (cXYZ_bd hS.1), ob_some, if_pos (of_decide_eq_true hP.1), if_neg ne10, dk_0_8 hD, ob_some, ob_some, c_value (dk_85_0 hD) hS.1 (Cv_k i2 (fun i => T3_k (by decide)) (fun i => T3_k (by decide))) T3_Tr (cXYZ_bd hS.1), ob_some, if_pos ((zI hS.1).mpr (of_decide_eq_true hP.2)), if_pos ((left0 hK (Nat.le_refl _)).mpr rfl)]
    exact OK.so ⟨rfl, i1.tr (sc_T3 (by omega))⟩
  · intro g s v i ⟨i1, i2, i3⟩ hi hv hvi hP
    refine ⟨T3 s 91 (cX S.1 i) (cY S.1 i) (cZ S.1 i), ⟨i1.tr (sc_T3 (by omega)), Cv_k i2 (fun i => T3_k (by decide)) (fun i => T3_k (by decide)), Tr_k i3 (fun i => T3_k (by decide))⟩, ?_⟩
    unfold FX11_nthTangentThroughSpot_27 BX11_nthTangentThroughSpot_88
    rw [c_points, ob_some, if_neg (by rw [iI_leN (by omega) (by omega)]; omega), dk_0_13 hD, ob_some, c_placeN hS.1 hi, ob_some]
    dsimp only
    rw [if_neg ne10, ob_some, dk_0_11 hD, ob_some, k_isOn hS.1 T3_Tr (Tr_k i3 (fun i => T3_k (by decide))) (cXYZ_bd hS.1) (cXYZ_bd hS.1), ob_some]
    rw [T i hi] at hP ⊢
    by_cases q1 : (cX S.1 i * cX S.1 q + cY S.1 i * cY S.1 q + cZ S.1 i * cZ S.1 q) % S.1 = 0
    · rw [if_pos q1, if_neg ne10, dk_0_8 hD, ob_some, ob_some, c_value (dk_85_0 hD) hS.1 (Cv_k i2 (fun i => T3_k (by decide)) (fun i => T3_k (by decide))) T3_Tr (cXYZ_bd hS.1), ob_some]
      by_cases q2 : qv (fun j => du m j % S.1) (cX S.1 i) (cY S.1 i) (cZ S.1 i) % S.1 = 0
      · rw [decide_eq_true q1, decide_eq_true q2, Bool.true_and] at hP ⊢
        have := hP rfl
        rw [if_pos ((zI hS.1).mpr q2), if_neg (fun z => by have := (left0 hK hv).mp z; omega), bn_eq, bn_eq, left1, iI_succ, if_pos rfl]
      · rw [decide_eq_true q1, decide_eq_false q2, Bool.and_false, if_neg (fun z => q2 ((zI hS.1).mp z)), bn_eq, iI_succ, if_neg (by decide)] <;> rfl
    · rw [if_neg q1, if_pos rfl, bn_eq, iI_succ, decide_eq_false q1, Bool.false_and, if_neg (by decide)] <;> rfl
theorem k_tangent {σ : Sto} {ρ : Rho} {S : Sheet} {c n k : Int} (h : QV σ ρ S) (hc : rg32 c) (hn : rg32 n) (hk : rg32 k) : OK (MX11_tangent σ ρ 0 (iI c) (iI n) (iI k)) (fun o => o.1 = iI (aTan S c n k) ∧ Fr SC σ o.2) := by
  obtain ⟨hD, hρ, -, hS, hC, hM⟩ := id h
  have r1 : rg32 (-1) := ⟨by omega, by omega⟩
  unfold MX11_tangent aTan
  by_cases k0 : k < -1
  · rw [if_pos (by rw [show (-1 : Int32) = iI (-1) from rfl, iI_lt hk r1]; exact k0), cas_neg (fun z => by have := z.2.2.1; omega)]; exact OK.so ⟨rfl, Fr.rf⟩
  · rw [if_neg (by rw [show (-1 : Int32) = iI (-1) from rfl, iI_lt hk r1]; exact k0)]
    refine k_both h hc hn (fun hv s hf => ?_) (fun h1 h2 s hf hcv htr => ?_)
    · dsimp only
      rw [if_pos rfl, cas_neg (fun z => hv ⟨z.1, z.2.1⟩)]; exact OK.so ⟨rfl, hf⟩
    · have hkl := kdm_le (p := S.1) (m := cm S c.toNat)
      have hq : n.toNat < NP S.1 := by unfold inP at h2; omega
      dsimp only
      rw [if_neg ne10, dk_0_7 hD, ob_some, c_kind (dk_83_0 hD) hS.1 hcv, ob_some]
      by_cases c4 : kdm S.1 (cm S c.toNat) = 4
      · have he := kdm_4.mp c4
        rw [if_pos (by rw [c4]; rfl), cas_pos (show inC c ∧ inP S.1 n ∧ -1 ≤ k ∧ e6m (cm S c.toNat) % S.1 ≠ 0 from ⟨h1, h2, by omega, he⟩)]
        by_cases k1 : k = -1
        · rw [if_pos (by rw [k1]; rfl), cas_pos (show k = -1 from k1)]
          refine OK.bi (k_tt (QV_fr h hf) hcv htr hq he) ?_
          rintro ⟨v, s2⟩ ⟨t1, t2⟩
          exact OK.so ⟨t1, hf.tr t2⟩
        · rw [if_neg (by rw [show (-1 : Int32) = iI (-1) from rfl, iI_eq hk r1]; exact k1), cas_neg (show ¬ k = -1 from k1)]
          have hkk : ((k.toNat : Nat) : Int) < 2147483648 := by unfold rg32 at hk; omega
          have := k_nthTan (K := k.toNat) (QV_fr h hf) hcv htr hq he hkk
          rw [show ((k.toNat : Nat) : Int) = k by omega] at this
          refine OK.bi this ?_
          rintro ⟨v, s2⟩ ⟨t1, t2⟩
          exact OK.so ⟨t1, hf.tr t2⟩
      · rw [if_neg (by rw [w4, iI_eqN (by omega) (by omega)]; exact c4), cas_neg (fun z => c4 (kdm_4.mpr z.2.2.2))]; exact OK.so ⟨rfl, hf⟩
theorem m_tangent {σ : Sto} {ρ : Rho} {S : Sheet} {c n k : Int} (h : QV σ ρ S) (hc : rg32 c) (hn : rg32 n) (hk : rg32 k) : OK (MX12_tangent σ ρ 92 (iI c) (iI n) (iI k)) (fun o => o.1 = iI (aTan S c n k) ∧ Fr SC σ o.2) := by
  obtain ⟨hD, hρ, -, hS, hC, hM⟩ := id h
  have hN := NP_le hS.1
  have r1 : rg32 (-1) := ⟨by omega, by omega⟩
  unfold MX12_tangent
  refine m_pre2 h hc hn (fun hv s hf => ?_) (fun h1 h2 s hf h7 => ?_)
  · unfold aTan
    rw [cas_neg (fun z => hv ⟨z.1, z.2.1⟩)]; exact ⟨rfl, hf⟩
  · dsimp only
    have hq : n.toNat < NP S.1 := by unfold inP at h2; omega
    have en : ((n.toNat : Nat) : Int) = n := by unfold inP at h2; omega
    unfold aTan
    by_cases k0 : -1 ≤ k
    · rw [if_pos (by rw [show (-1 : Int32) = iI (-1) from rfl, iI_le r1 hk]; exact k0)]
      refine m_lay (QV_fr h hf) h1 (fun s2 hf2 hm => ?_)
      refine OK.bi (m_rankOf hρ hS.1 hm) ?_
      rintro ⟨v, s3⟩ ⟨t1, t2⟩
      have hrk := rkm_le (p := S.1) (m := cm S c.toNat)
      have hf3 : Fr SC σ s3 := (hf.tr hf2).tr (t2.mo (fun _ _ h => sc_RX h))
      have hm3 := Mm_rx hm t2
      dsimp only at t1 t2 ⊢
      rw [t1]
      by_cases c3 : rkm S.1 (cm S c.toNat) = 3
      · have he := rkm_3'.mp c3
        rw [if_pos (by rw [c3]; rfl), cas_pos (show inC c ∧ inP S.1 n ∧ -1 ≤ k ∧ e6m (cm S c.toNat) % S.1 ≠ 0 from ⟨h1, h2, k0, he⟩)]
        by_cases k1 : k = -1
        · rw [if_pos (by rw [k1]; rfl), cas_pos (show k = -1 from k1)]
          obtain ⟨s4, e4, f4⟩ := m_tangents (pt := n.toNat) hρ hS.1 hm3 hq (plv_0 hS.1 he)
          rw [en] at e4
          rw [e4, ob_some]
          exact OK.so ⟨rfl, hf3.tr (f4.mo (fun _ _ h => sc_PX h))⟩
        · rw [if_neg (by rw [show (-1 : Int32) = iI (-1) from rfl, iI_eq hk r1]; exact k1), cas_neg (show ¬ k = -1 from k1), bn_eq, bn_eq]
          obtain ⟨K, rfl⟩ := Int.eq_ofNat_of_zero_le (show 0 ≤ k by omega)
          have hkk : (K : Int) < 2147483648 := by unfold rg32 at hk; omega
          rw [Int.toNat_natCast]
          have B : ∀ s i, Mm s S.1 (cm S c.toNat) → i < NP S.1 → ∃ s2 s3, MX12_isOnLine s 92 (iI n) (iI (i : Nat)) = some (if liB S.1 n.toNat i then 1 else 0, s2) ∧ Fr PX s s2 ∧ MX12_isTangent s2 ρ 92 (iI (i : Nat)) = some (if tgB (cm S c.toNat) S.1 i then 1 else 0, s3) ∧ Fr PX s2 s3 := by
            intro s i hm hi
            obtain ⟨s2, e2, f2⟩ := m_isOnLine' (n := n.toNat) (k := i) hS.1 hm.1 hq hi
            rw [en] at e2
            obtain ⟨s3, e3, f3⟩ := m_isTangent (l := i) hρ hS.1 (Mm_fr hm f2) hi
            exact ⟨s2, s3, e2, f2, e3, f3⟩
          refine kth_g (S := Sto) (call := fun (g : Sto → Int32 → Int32 → Option (Int32 × Sto)) s (v i : Nat) => g s (iI v) (iI i)) (N := NP S.1) (k := K) (P := tqB (cm S c.toNat) S.1 n.toNat) (I := fun s => Fr SC σ s ∧ Mm s S.1 (cm S c.toNat)) (Post := fun o r => OK r (fun o' => o'.1 = iI (oI o) ∧ Fr SC σ o'.2)) ?_ ?_ ?_ (by unfold FU; omega) (s := s3) ⟨hf3, hm3⟩
          · intro g s v ⟨i1, i2⟩ _ _
            unfold FX12_tangent_55
            rw [m_places i2.1, ob_some, if_pos (by rw [iI_leN (by omega) (by omega)]; omega)]
            exact OK.so ⟨rfl, i1⟩
          · intro g s i ⟨i1, i2⟩ hi hP hki
            obtain ⟨s4, s5, e4, f4, e5, f5⟩ := B s i i2 hi
            unfold tqB at hP
            rw [Bool.and_eq_true] at hP
            unfold FX12_tangent_55
            rw [m_places i2.1, ob_some, if_neg (by rw [iI_leN (by omega) (by omega)]; omega), e4, ob_some, hP.1]
            dsimp only
            rw [if_pos rfl, if_neg ne10, e5, ob_some, hP.2]
            dsimp only
            rw [if_pos rfl, if_neg ne10, if_pos rfl]
            exact OK.so ⟨rfl, (i1.tr (f4.mo (fun _ _ h => sc_PX h))).tr (f5.mo (fun _ _ h => sc_PX h))⟩
          · intro g s v i ⟨i1, i2⟩ hi hv hvi hP
            obtain ⟨s4, s5, e4, f4, e5, f5⟩ := B s i i2 hi
            unfold tqB at hP ⊢
            unfold FX12_tangent_55 BX12_tangent_98
            rw [m_places i2.1, ob_some, if_neg (by rw [iI_leN (by omega) (by omega)]; omega), e4, ob_some]
            cases b1 : liB S.1 n.toNat i with
            | false =>
              refine ⟨s4, ⟨i1.tr (f4.mo (fun _ _ h => sc_PX h)), Mm_fr i2 f4⟩, ?_⟩
              simp [bn_eq, iI_succ]
            | true =>
              rw [b1, Bool.true_and] at hP
              refine ⟨s5, ⟨(i1.tr (f4.mo (fun _ _ h => sc_PX h))).tr (f5.mo (fun _ _ h => sc_PX h)), Mm_fr (Mm_fr i2 f4) f5⟩, ?_⟩
              dsimp only
              rw [if_pos rfl, if_neg ne10, e5, ob_some, Bool.true_and]
              cases b2 : tgB (cm S c.toNat) S.1 i with
              | false =>
                simp [bn_eq, iI_succ]
              | true =>
                have := hP b2
                dsimp only
                rw [if_pos rfl, if_neg ne10, if_neg (by rw [iI_eqL (by omega) hkk]; omega), bn_eq, bn_eq, iI_succ, iI_succ, if_pos rfl]
      · rw [if_neg (by rw [w3, iI_eqN (by omega) (by omega)]; exact c3), cas_neg (fun z => c3 (rkm_3'.mpr z.2.2.2))]; exact OK.so ⟨rfl, hf3⟩
    · rw [if_neg (by rw [show (-1 : Int32) = iI (-1) from rfl, iI_le r1 hk]; exact k0), cas_neg (fun z => k0 z.2.2.1)]; exact OK.so ⟨rfl, hf⟩
