/-! QUESTIONS: marks in line, what a conic is -/
theorem scan_k {γ β S : Type} {bt : γ} {F : γ → γ} {call : γ → S → Nat → Option β} {N : Nat} {P : Nat → Bool} {I : S → Prop} {Post : Option Nat → Option β → Prop}
    (hexit : ∀ r s, I s → Post none (call (F r) s N)) (hstop : ∀ r s (k : Nat), I s → k < N → P k = true → Post (some k) (call (F r) s k)) {k0 : Nat}
    (hstep : ∀ r s (k : Nat), I s → k0 ≤ k → k < N → P k = false → ∃ s', I s' ∧ call (F r) s k = call r s' (k + 1)) {fu : Nat} (hfu : N < fu) {s : S} (h0 : k0 ≤ N) (hz : ∀ j, j < k0 → P j = false) (hs : I s) : Post (fs P N) (call (fixN bt F fu) s k0) := by
  refine run_g (S := S) (call := call) (N := N) (I := fun k s => I s ∧ k0 ≤ k ∧ ∀ j, j < k → P j = false) (Post := fun o => Post (fs P N) o) ?_ ?_ hfu (k0 := k0) h0 ⟨hs, Nat.le_refl _, hz⟩
  · intro r s ⟨h1, _, h2⟩
    rw [fs_none.mpr h2]; exact hexit r s h1
  · intro r s k ⟨h1, h3, h2⟩ hk ih
    cases hp : P k with
    | true => rw [fs_of hk hp h2]; exact hstop r s k h1 hk hp
    | false =>
      obtain ⟨s', i', e⟩ := hstep r s k h1 h3 hk hp
      rw [e]
      refine ih s' ⟨i', by omega, fun j hj => ?_⟩
      by_cases q : j = k
      · rw [q]; exact hp
      · exact h2 j (by omega)
/-- three points on one line -/
def dt (p a b c : Nat) : Bool := decide (((crs p a b).1 * cX p c + (crs p a b).2.1 * cY p c + (crs p a b).2.2 * cZ p c) % p = 0)
theorem dt_cyc {p a b c : Nat} : dt p a b c = dt p c a b := by
  unfold dt crs
  dsimp only
  congr 2; congr 1; grind
def lnB (p : Nat) (L : List Nat) (k i j : Nat) : Bool := decide (i < j) && (decide (i ≠ k) && (decide (j ≠ k) && dt p (L.getD i 0) (L.getD j 0) (L.getD k 0)))
def lnR (p : Nat) (L : List Nat) (k i : Nat) : Bool := (fs (lnB p L k i) L.length).isSome
def linB (p : Nat) (L : List Nat) (k : Nat) : Bool := (fs (lnR p L k) L.length).isSome
theorem mark_lt {S : Sheet} {k : Nat} (hS : SOK S) (hk : k < S.2.1.length) : S.2.1.getD k 0 < NP S.1 := by
  rw [List.getD_eq_getElem?_getD, List.getElem?_eq_getElem hk]
  exact hS.2.2.2.1 _ (List.getElem_mem hk)
theorem mark_ne {S : Sheet} {i j : Nat} (hS : SOK S) (hi : i < S.2.1.length) (hj : j < S.2.1.length) (h : i ≠ j) : S.2.1.getD i 0 ≠ S.2.1.getD j 0 := by
  rw [List.getD_eq_getElem?_getD, List.getElem?_eq_getElem hi, List.getD_eq_getElem?_getD, List.getElem?_eq_getElem hj]
  intro e
  exact h ((List.getElem_inj hS.2.2.1).mp e)
theorem k_mark {σ : Sto} {ρ : Rho} {S : Sheet} {k : Nat} (h : QV σ ρ S) (hk : k < S.2.1.length) : MX8_markAt σ ρ 2 (iI k) = some (iI (S.2.1.getD k 0 : Nat)) := by
  obtain ⟨hD, hρ, -, hS, hC, hM⟩ := id h
  have hl := hS.2.1
  have hm := c_markAt (k := (k : Int)) (Sr_2 hD) hC hl (rgN (by omega))
  rw [if_pos (show 0 ≤ (k : Int) ∧ (k : Int) < S.2.1.length by omega), Int.toNat_natCast] at hm
  exact hm
theorem k_isOnB {σ : Sto} {a b p : Nat} {x y z u v w : Int} (hp : PR p) (ha : Tr σ a x y z) (hb : Tr σ b u v w) (h1 : bd3 x y z 2000) (h2 : bd3 u v w 23) : MX10_isOn σ a b (iI p) = some (if (x * u + y * v + z * w) % p = 0 then 1 else 0) := by
  obtain ⟨a0, a1, a2⟩ := ha
  obtain ⟨b0, b1, b2⟩ := hb
  obtain ⟨x1, y1, z1⟩ := h1
  obtain ⟨x2, y2, z2⟩ := h2
  unfold MX10_isOn
  rw [a0, a1, a2, b0, b1, b2, iI_mul, iI_mul, iI_mul, iI_add, iI_add, c_rest hp (bd_rg (bd_add (bd_add (bd_mul x1 x2) (bd_mul y1 y2)) (bd_mul z1 z2)) (by decide)), ob_some]
  by_cases c : (x * u + y * v + z * w) % p = 0
  · rw [if_pos ((zI hp).mpr c), if_pos c]; exact zr1 _
  · rw [if_neg (fun z => c ((zI hp).mp z)), if_neg c]; exact zr0 _
theorem k_inLine {σ : Sto} {ρ : Rho} {S : Sheet} {k : Nat} (h : QV σ ρ S) (hk : k < S.2.1.length) : OK (MX11_isInLine σ ρ 0 (iI k)) (fun o => o.1 = (if linB S.1 S.2.1 k then 1 else 0) ∧ Fr SC σ o.2) := by
  obtain ⟨hD, hρ, -, hS, hC, hM⟩ := id h
  have hl := hS.2.1
  have hp := hS.1
  unfold MX11_isInLine linB
  rw [dk_0_0 hD, ob_some, dk_1_0 hD, ob_some, bn_eq, bn_eq, hC.1]
  refine scan_g (S := Sto) (call := fun (g : Sto → Int32 → Int32 → Option (Int32 × Sto)) s (j : Nat) => g s (iI S.1) (iI j)) (N := S.2.1.length) (P := lnR S.1 S.2.1 k) (I := fun s => Fr SC σ s) (Post := fun o r => OK r (fun o' => o'.1 = (if o.isSome then 1 else 0) ∧ Fr SC σ o'.2)) ?_ ?_ ?_ (by unfold FU; omega) (s := σ) Fr.rf
  · intro g s i1
    have c2 := (QV_fr h i1).2.2.2.2.1
    unfold FX11_isInLine_13
    rw [dk_0_0 hD, ob_some, dk_1_0 hD, ob_some, c2.2.1, if_pos (by rw [iI_leN (by omega) (by omega)]; omega), zr0]
    exact OK.so ⟨rfl, i1⟩
  all_goals
    intro g s j i1 hj hP
    have c2 := (QV_fr h i1).2.2.2.2.1
    have key : j ≠ k → ∀ (kk : Sto → Int32 → Int32 → Option (Int32 × Sto)), ∃ s', Fr SC σ s' ∧ (match fs (lnB S.1 S.2.1 k j) S.2.1.length with | some _ => OK (FX11_isInLine_13 ρ 0 (iI k) kk s (iI S.1) (iI j)) (fun o' => o'.1 = 1 ∧ Fr SC σ o'.2) | none => FX11_isInLine_13 ρ 0 (iI k) kk s (iI S.1) (iI j) = kk s' (iI S.1) (iI ((j + 1 : Nat) : Int))) := by
      intro hjk kk
      have hmk := mark_lt hS hk
      have hmj := mark_lt hS hj
      generalize hs1 : T3 s 89 (cX S.1 (S.2.1.getD k 0)) (cY S.1 (S.2.1.getD k 0)) (cZ S.1 (S.2.1.getD k 0)) = s1
      have f1 : Fr SC σ s1 := by rw [← hs1]; exact i1.tr (sc_T3 (by omega))
      have t1 : Tr s1 89 (cX S.1 (S.2.1.getD k 0)) (cY S.1 (S.2.1.getD k 0)) (cZ S.1 (S.2.1.getD k 0)) := by rw [← hs1]; exact T3_Tr
      have h1 := QV_fr h f1
      generalize hs2 : T3 s1 90 (cX S.1 (S.2.1.getD j 0)) (cY S.1 (S.2.1.getD j 0)) (cZ S.1 (S.2.1.getD j 0)) = s2
      have f2 : Fr SC σ s2 := by rw [← hs2]; exact f1.tr (sc_T3 (by omega))
      have t2 : Tr s2 89 (cX S.1 (S.2.1.getD k 0)) (cY S.1 (S.2.1.getD k 0)) (cZ S.1 (S.2.1.getD k 0)) := by rw [← hs2]; exact Tr_k t1 (fun i => T3_k (by decide))
      have t3 : Tr s2 90 (cX S.1 (S.2.1.getD j 0)) (cY S.1 (S.2.1.getD j 0)) (cZ S.1 (S.2.1.getD j 0)) := by rw [← hs2]; exact T3_Tr
      generalize hs3 : T3 s2 91 (crs S.1 (S.2.1.getD k 0) (S.2.1.getD j 0)).1 (crs S.1 (S.2.1.getD k 0) (S.2.1.getD j 0)).2.1 (crs S.1 (S.2.1.getD k 0) (S.2.1.getD j 0)).2.2 = s3
      have f3 : Fr SC σ s3 := by rw [← hs3]; exact f2.tr (sc_T3 (by omega))
      have t4 : Tr s3 91 (crs S.1 (S.2.1.getD k 0) (S.2.1.getD j 0)).1 (crs S.1 (S.2.1.getD k 0) (S.2.1.getD j 0)).2.1 (crs S.1 (S.2.1.getD k 0) (S.2.1.getD j 0)).2.2 := by rw [← hs3]; exact T3_Tr
      have E : FX11_isInLine_13 ρ 0 (iI k) kk s (iI S.1) (iI j) = fixN (fun _ _ _ _ => none) (FX11_isInLine_99 ρ 0 (iI k) (BX11_isInLine_166 ρ 0 (iI k) kk)) FU s3 (iI S.1) (iI j) (iI ((j + 1 : Nat) : Int)) := by
        unfold FX11_isInLine_13
        rw [dk_0_0 hD, ob_some, dk_1_0 hD, ob_some, c2.2.1, if_neg (by rw [iI_leN (by omega) (by omega)]; omega), if_neg (by rw [iI_eqN (by omega) (by omega)]; exact hjk), dk_0_11 hD, ob_some, ob_some, dk_1_0 hD, ob_some, k_mark (QV_fr h i1) hk, ob_some, c_placeN hp hmk, ob_some]
        dsimp only
        rw [if_neg ne10, hs1, dk_0_12 hD, ob_some, ob_some, dk_1_0 hD, ob_some, k_mark h1 hj, ob_some, c_placeN hp hmj, ob_some]
        dsimp only
        rw [if_neg ne10, hs2, dk_0_13 hD, ob_some, ob_some, ob_some, k_cross t2 t3, hs3, ob_some, bn_eq, iI_succ]
      rw [E]
      obtain ⟨q1, q2, q3⟩ := crs_bd (a := S.2.1.getD k 0) (b := S.2.1.getD j 0) hp
      refine scan_k (S := Sto) (call := fun (g : Sto → Int32 → Int32 → Int32 → Option (Int32 × Sto)) s (i : Nat) => g s (iI S.1) (iI j) (iI i)) (N := S.2.1.length) (P := lnB S.1 S.2.1 k j) (I := fun s => Fr SC σ s ∧ Tr s 91 (crs S.1 (S.2.1.getD k 0) (S.2.1.getD j 0)).1 (crs S.1 (S.2.1.getD k 0) (S.2.1.getD j 0)).2.1 (crs S.1 (S.2.1.getD k 0) (S.2.1.getD j 0)).2.2) (Post := fun o r => ∃ s', Fr SC σ s' ∧ (match o with | some _ => OK r (fun o' => o'.1 = 1 ∧ Fr SC σ o'.2) | none => r = kk s' (iI S.1) (iI ((j + 1 : Nat) : Int)))) ?_ ?_ (k0 := j + 1) ?_ (by unfold FU; omega) (s := s3) (by omega) (fun i hi => ?_) ⟨f3, t4⟩
      · intro g2 s4 ⟨m1, m2⟩
        have c4 := (QV_fr h m1).2.2.2.2.1
        refine ⟨s4, m1, ?_⟩
        dsimp only
        unfold FX11_isInLine_99 BX11_isInLine_166
        rw [dk_0_0 hD, ob_some, dk_1_0 hD, ob_some, c4.2.1, if_pos (by rw [iI_leN (by omega) (by omega)]; omega), bn_eq, iI_succ]
      · intro g2 s4 i ⟨m1, m2⟩ hi hPi
        have c4 := (QV_fr h m1).2.2.2.2.1
        have hmi := mark_lt hS hi
        unfold lnB at hPi
        simp only [Bool.and_eq_true, decide_eq_true_eq] at hPi
        obtain ⟨p1, p2, p3, p4⟩ := hPi
        rw [dt_cyc] at p4
        have p5 := of_decide_eq_true p4
        refine ⟨s4, m1, ?_⟩
        dsimp only
        unfold FX11_isInLine_99
        rw [dk_0_0 hD, ob_some, dk_1_0 hD, ob_some, c4.2.1, if_neg (by rw [iI_leN (by omega) (by omega)]; omega), if_neg (by rw [iI_eqN (by omega) (by omega)]; exact p3), dk_0_12 hD, ob_some, ob_some, dk_1_0 hD, ob_some, k_mark (QV_fr h m1) hi, ob_some, c_placeN hp hmi, ob_some]
        dsimp only
        rw [if_neg ne10, dk_0_13 hD, ob_some, ob_some, k_isOnB hp (Tr_k m2 (fun i => T3_k (by decide))) T3_Tr ⟨q1, q2, q3⟩ (cXYZ_bd hp), ob_some, if_pos p5, if_neg ne10, zr1]
        exact OK.so ⟨rfl, m1.tr (sc_T3 (by omega))⟩
      · intro g2 s4 i ⟨m1, m2⟩ hij hi hPi
        have c4 := (QV_fr h m1).2.2.2.2.1
        have hmi := mark_lt hS hi
        unfold lnB at hPi
        rw [dt_cyc] at hPi
        unfold FX11_isInLine_99 BX11_isInLine_160
        rw [dk_0_0 hD, ob_some, dk_1_0 hD, ob_some, c4.2.1, if_neg (by rw [iI_leN (by omega) (by omega)]; omega)]
        by_cases p3 : i = k
        · refine ⟨s4, ⟨m1, m2⟩, ?_⟩
          rw [if_pos (by rw [p3]), bn_eq, iI_succ]
        · refine ⟨T3 s4 90 (cX S.1 (S.2.1.getD i 0)) (cY S.1 (S.2.1.getD i 0)) (cZ S.1 (S.2.1.getD i 0)), ⟨m1.tr (sc_T3 (by omega)), Tr_k m2 (fun i => T3_k (by decide))⟩, ?_⟩
          rw [decide_eq_true (show j < i by omega), decide_eq_true hjk, decide_eq_true (show i ≠ k from p3), Bool.true_and, Bool.true_and, Bool.true_and] at hPi
          have p5 := of_decide_eq_false hPi
          rw [if_neg (by rw [iI_eqN (by omega) (by omega)]; exact p3), dk_0_12 hD, ob_some, ob_some, dk_1_0 hD, ob_some, k_mark (QV_fr h m1) hi, ob_some, c_placeN hp hmi, ob_some]
          dsimp only
          rw [if_neg ne10, dk_0_13 hD, ob_some, ob_some, k_isOnB hp (Tr_k m2 (fun i => T3_k (by decide))) T3_Tr ⟨q1, q2, q3⟩ (cXYZ_bd hp), ob_some, if_neg p5, if_pos rfl, bn_eq, iI_succ]
      · unfold lnB
        rw [decide_eq_false (show ¬ j < i by omega), Bool.false_and]
  · by_cases hjk : j = k
    · unfold lnR at hP
      have : fs (lnB S.1 S.2.1 k j) S.2.1.length = none := fs_none.mpr (fun i hi => by
        unfold lnB
        rw [decide_eq_false (show ¬ (j ≠ k) from fun z => z hjk), Bool.false_and, Bool.and_false])
      rw [this] at hP; cases hP
    · obtain ⟨s', -, r⟩ := key hjk g
      unfold lnR at hP
      cases hf : fs (lnB S.1 S.2.1 k j) S.2.1.length with
      | none => rw [hf] at hP; cases hP
      | some i => rw [hf] at r; exact r
  · by_cases hjk : j = k
    · refine ⟨s, i1, ?_⟩
      show FX11_isInLine_13 ρ 0 (iI k) g s (iI S.1) (iI j) = _
      unfold FX11_isInLine_13 BX11_isInLine_166
      rw [dk_0_0 hD, ob_some, dk_1_0 hD, ob_some, c2.2.1, if_neg (by rw [iI_leN (by omega) (by omega)]; omega), if_pos (by rw [hjk]), bn_eq, iI_succ]
    · obtain ⟨s', f', r⟩ := key hjk g
      unfold lnR at hP
      cases hf : fs (lnB S.1 S.2.1 k j) S.2.1.length with
      | none => rw [hf] at r; exact ⟨s', f', r⟩
      | some i => rw [hf] at hP; cases hP
theorem k_lined {σ : Sto} {ρ : Rho} {S : Sheet} (h : QV σ ρ S) : OK (MX11_marksInLine σ ρ 0) (fun o => o.1 = iI (ct (linB S.1 S.2.1) S.2.1.length : Nat) ∧ Fr SC σ o.2) := by
  obtain ⟨hD, hρ, -, hS, hC, hM⟩ := id h
  have hl := hS.2.1
  unfold MX11_marksInLine
  rw [bn_eq, bn_eq]
  refine cnt_g (S := Sto) (call := fun (g : Sto → Int32 → Int32 → Option (Int32 × Sto)) s (v k : Nat) => g s (iI v) (iI k)) (N := S.2.1.length) (P := linB S.1 S.2.1) (I := fun s => Fr SC σ s) (Post := fun r => OK r _) ?_ ?_ (by unfold FU; omega) (s := σ) Fr.rf
  · intro g s i1
    have c2 := (QV_fr h i1).2.2.2.2.1
    unfold FX11_marksInLine_4
    rw [dk_0_0 hD, ob_some, dk_1_0 hD, ob_some, c2.2.1, if_pos (by rw [iI_leN (by omega) (by omega)]; omega)]
    exact OK.so ⟨rfl, i1⟩
  · intro g s v k i1 hk hv
    have c2 := (QV_fr h i1).2.2.2.2.1
    obtain ⟨⟨x, s2⟩, e, r1, r2⟩ := k_inLine (QV_fr h i1) hk
    refine ⟨s2, i1.tr r2, ?_⟩
    unfold FX11_marksInLine_4 BX11_marksInLine_29
    dsimp only at r1
    rw [dk_0_0 hD, ob_some, dk_1_0 hD, ob_some, c2.2.1, if_neg (by rw [iI_leN (by omega) (by omega)]; omega), e, ob_some, r1]
    cases linB S.1 S.2.1 k <;> simp [bn_eq, iI_succ, ne10]
theorem crs_nz {p a b : Nat} (hp : PR p) (ha : a < NP p) (hb : b < NP p) (h : a ≠ b) : ¬ ((crs p a b).1 % p = 0 ∧ (crs p a b).2.1 % p = 0 ∧ (crs p a b).2.2 % p = 0) := by
  rintro ⟨h0, h1, h2⟩
  unfold crs at h0 h1 h2
  dsimp only at h0 h1 h2
  apply h
  have nz := cc_nz hp ha
  have hn := nrm_c (p := p) (by have := hp.le; omega) hb
  have self : nb p (cX p b) (cY p b) (cZ p b) = (b : Int) := nb_uniq (s := 1) hp hb (one_nz hp) (z_of (show (0 : Int) % p = 0 by simp) (by grind)) (z_of (show (0 : Int) % p = 0 by simp) (by grind)) (z_of (show (0 : Int) % p = 0 by simp) (by grind))
  have K : ∀ s : Int, (cX p a - s * cX p b) % p = 0 → (cY p a - s * cY p b) % p = 0 → (cZ p a - s * cZ p b) % p = 0 → a = b := by
    intro s k0 k1 k2
    have hs : s % p ≠ 0 := fun z => nz ⟨z_of (z_add k0 (z_mulR (cX p b) z)) (by grind), z_of (z_add k1 (z_mulR (cY p b) z)) (by grind), z_of (z_add k2 (z_mulR (cZ p b) z)) (by grind)⟩
    have := nb_uniq hp ha hs k0 k1 k2
    rw [self] at this; omega
  have zz : (0 : Int) % p = 0 := by simp
  rcases hn with ⟨e, -⟩ | ⟨e1, e2, -⟩ | ⟨e1, e2, e3⟩
  · refine K (cX p a) (z_of zz (by rw [e]; grind)) (z_of (z_neg.mpr h2) (by rw [e]; grind)) (z_of h1 (by rw [e]; grind))
  · refine K (cY p a) (z_of h2 (by rw [e1, e2]; grind)) (z_of zz (by rw [e2]; grind)) (z_of (z_neg.mpr h0) (by rw [e2]; grind))
  · refine K (cZ p a) (z_of (z_neg.mpr h1) (by rw [e1, e3]; grind)) (z_of h0 (by rw [e2, e3]; grind)) (z_of zz (by rw [e3]; grind))
theorem m_three {σ : Sto} {p a b c : Nat} (hp : PR p) (h7 : σ 92 7 = iI p) (ha : a < NP p) (hb : b < NP p) (hc : c < NP p) (hab : a ≠ b) : ∃ σ', MX12_areOnLine σ 92 (iI a) (iI b) (iI c) = some (if dt p a b c then 1 else 0, σ') ∧ Fr PX σ σ' := by
  obtain ⟨⟨v, s⟩, e, r1, r2⟩ := m_lineOf hp h7 ha hb
  obtain ⟨l, t, e2, hl, -⟩ := nb_ok hp (crs_nz hp ha hb hab)
  have e3 : nbc p a b = (l : Int) := e2
  dsimp only at r1 r2
  have h7' : s 92 7 = iI p := by rw [r2 92 7 (by unfold PX; omega)]; exact h7
  obtain ⟨s2, e4, f4⟩ := m_isOnLine' (n := c) (k := l) hp h7' hc hl
  refine ⟨s2, ?_, r2.tr f4⟩
  unfold MX12_areOnLine
  have e5 : liB p c l = dt p a b c := by
    have := li_nb (q := c) hp (crs_nz hp ha hb hab)
    rw [show nb p (crs p a b).1 (crs p a b).2.1 (crs p a b).2.2 = (l : Int) from e2, Int.toNat_natCast] at this
    rw [this]; rfl
  rw [e, ob_some]
  dsimp only
  rw [r1, e3, e4, ob_some, e5]
  cases dt p a b c
  · exact zr0 _
  · exact zr1 _
def anyB (P : Nat → Bool) (n : Nat) : Bool := (fs P n).isSome
theorem anyB_s {P : Nat → Bool} {n : Nat} : anyB P (n + 1) = (anyB P n || P n) := by
  unfold anyB
  show (match fs P n with | some k => some k | none => if P n then some n else none).isSome = _
  cases fs P n with
  | some k => rfl
  | none => cases P n <;> rfl
theorem anyB_z {P : Nat → Bool} {n : Nat} (h : ∀ j, j < n → P j = false) : anyB P n = false := by
  unfold anyB; rw [fs_none.mpr h]; rfl
def b32 (b : Bool) : Int32 := if b then 1 else 0
theorem m_lined {σ : Sto} {ρ : Rho} {S : Sheet} (h : QV σ ρ S) : OK (MX12_lined σ ρ 92) (fun o => o.1 = iI (ct (linB S.1 S.2.1) S.2.1.length : Nat) ∧ Fr SC σ o.2) := by
  obtain ⟨hD, hρ, -, hS, hC, hM⟩ := id h
  have hl := hS.2.1
  have hp := hS.1
  have g37 : ∀ s, Fr SC σ s → ag s 93 (37 : Int32) = some (iI S.2.1.length) := fun s hs => by
    rw [show (37 : Int32) = OfNat.ofNat 37 from rfl, ag93 37 (by decide)]
    have := (QV_fr h hs).2.2.2.2.2.2.1
    rw [show s 93 37 = s 93 (0 + 37) from rfl, this]
  have g38 : ∀ s, Fr SC σ s → ∀ i : Nat, i < S.2.1.length → ag s 93 ((38 : Int32) + iI i) = some (iI (S.2.1.getD i 0 : Nat)) := fun s hs i hi => by
    rw [show (38 : Int32) = iI 38 from rfl, iI_add, ag93i (by omega) (by omega), show (38 + (i : Int)).toNat = 0 + 38 + i by omega, (QV_fr h hs).2.2.2.2.2.2.2.2 i hi]
  unfold MX12_lined
  rw [hρ.1, ob_some, show (36 : Int32) = OfNat.ofNat 36 from rfl, ag93 36 (by decide), ob_some, bn_eq, bn_eq, bn_eq, show σ 93 36 = iI S.1 from hM.1]
  refine cnt_g (S := Sto) (call := fun (g : Sto → Int32 → Int32 → Option (Int32 × Sto)) s (v k : Nat) => g s (iI v) (iI k)) (N := S.2.1.length) (P := linB S.1 S.2.1) (I := fun s => Fr SC σ s ∧ s 92 7 = iI S.1) (Post := fun r => OK r _) ?_ ?_ (by unfold FU; omega) (s := su σ 92 7 (iI S.1)) ⟨sc_su7, su_s⟩
  · intro g s ⟨i1, i2⟩
    unfold FX12_lined_15
    rw [hρ.1, ob_some, g37 s i1, ob_some, if_pos (by rw [iI_leN (by omega) (by omega)]; omega)]
    exact OK.so ⟨rfl, i1⟩
  · intro g s v k ⟨i1, i2⟩ hk hv
    unfold FX12_lined_15
    rw [hρ.1, ob_some, g37 s i1, ob_some, if_neg (by rw [iI_leN (by omega) (by omega)]; omega), bn_eq, bn_eq]
    refine run_g (S := Sto) (call := fun (g : Sto → Int32 → Int32 → Int32 → Int32 → Option (Int32 × Sto)) s (i : Nat) => g s (iI v) (iI k) (b32 (anyB (lnR S.1 S.2.1 k) i)) (iI i)) (N := S.2.1.length) (I := fun _ s => Fr SC σ s ∧ s 92 7 = iI S.1) (Post := fun r => ∃ s', (Fr SC σ s' ∧ s' 92 7 = iI S.1) ∧ r = g s' (iI ((v + if linB S.1 S.2.1 k then 1 else 0 : Nat) : Int)) (iI ((k + 1 : Nat) : Int))) ?_ ?_ (by unfold FU; omega) (k0 := 0) (by omega) (s := s) ⟨i1, i2⟩
    · intro g2 s2 ⟨j1, j2⟩
      refine ⟨s2, ⟨j1, j2⟩, ?_⟩
      unfold FX12_lined_31 BX12_lined_131 BX12_lined_141
      rw [hρ.1, ob_some, g37 s2 j1, ob_some, if_pos (by rw [iI_leN (by omega) (by omega)]; omega)]
      have e : anyB (lnR S.1 S.2.1 k) S.2.1.length = linB S.1 S.2.1 k := rfl
      rw [e]
      cases linB S.1 S.2.1 k <;> simp [b32, bn_eq, iI_succ, iI_add0, ne10]
    · intro g2 s2 i ⟨j1, j2⟩ hi ih
      unfold FX12_lined_31
      rw [hρ.1, ob_some, g37 s2 j1, ob_some, if_neg (by rw [iI_leN (by omega) (by omega)]; omega), bn_eq, iI_succ]
      have e0 : anyB (lnR S.1 S.2.1 k) i = (anyB (lnR S.1 S.2.1 k) i || anyB (lnB S.1 S.2.1 k i) (i + 1)) := by
        rw [anyB_z (P := lnB S.1 S.2.1 k i) (n := i + 1) (fun j hj => by unfold lnB; rw [decide_eq_false (show ¬ i < j by omega), Bool.false_and]), Bool.or_false]
      rw [e0]
      refine run_g (S := Sto) (call := fun (g : Sto → Int32 → Int32 → Int32 → Int32 → Int32 → Option (Int32 × Sto)) s (j : Nat) => g s (iI v) (iI k) (b32 (anyB (lnR S.1 S.2.1 k) i || anyB (lnB S.1 S.2.1 k i) j)) (iI i) (iI j)) (N := S.2.1.length) (I := fun j s => Fr SC σ s ∧ s 92 7 = iI S.1 ∧ i < j) (Post := fun r => ∃ s', (Fr SC σ s' ∧ s' 92 7 = iI S.1) ∧ r = g s' (iI ((v + if linB S.1 S.2.1 k then 1 else 0 : Nat) : Int)) (iI ((k + 1 : Nat) : Int))) ?_ ?_ (by unfold FU; omega) (k0 := i + 1) (by omega) (s := s2) ⟨j1, j2, by omega⟩
      · intro g3 s3 ⟨m1, m2, m3⟩
        have ihh := ih s3 ⟨m1, m2⟩
        rw [anyB_s, show lnR S.1 S.2.1 k i = anyB (lnB S.1 S.2.1 k i) S.2.1.length from rfl] at ihh
        unfold FX12_lined_49 BX12_lined_125
        rw [hρ.1, ob_some, g37 s3 m1, ob_some, if_pos (by rw [iI_leN (by omega) (by omega)]; omega), bn_eq, iI_succ]
        exact ihh
      · intro g3 s3 j ⟨m1, m2, m3⟩ hj ih3
        have step : ∀ b s', Fr SC σ s' → s' 92 7 = iI S.1 → (anyB (lnR S.1 S.2.1 k) i || anyB (lnB S.1 S.2.1 k i) (j + 1)) = b → ∃ s'', (Fr SC σ s'' ∧ s'' 92 7 = iI S.1) ∧ g3 s' (iI v) (iI k) (b32 b) (iI i) (iI ((j + 1 : Nat) : Int)) = g s'' (iI ((v + if linB S.1 S.2.1 k then 1 else 0 : Nat) : Int)) (iI ((k + 1 : Nat) : Int)) := by
          intro b s' q1 q2 q3
          have := ih3 s' ⟨q1, q2, by omega⟩
          rw [q3] at this; exact this
        unfold FX12_lined_49 BX12_lined_113 BX12_lined_117 BX12_lined_118
        rw [hρ.1, ob_some, g37 s3 m1, ob_some, if_neg (by rw [iI_leN (by omega) (by omega)]; omega)]
        cases hb : (anyB (lnR S.1 S.2.1 k) i || anyB (lnB S.1 S.2.1 k i) j) with
        | true =>
          rw [if_neg (show ¬ b32 true = 0 by decide), bn_eq, bn_eq, iI_succ]
          exact step true s3 m1 m2 (by rw [anyB_s, ← Bool.or_assoc, hb, Bool.true_or])
        | false =>
          rw [if_pos (show b32 false = 0 by decide)]
          have nx : ∀ c : Bool, lnB S.1 S.2.1 k i j = c → (anyB (lnR S.1 S.2.1 k) i || anyB (lnB S.1 S.2.1 k i) (j + 1)) = c := fun c hc => by
            rw [anyB_s, ← Bool.or_assoc, hb, Bool.false_or, hc]
          by_cases c1 : i = k
          · rw [if_pos (by rw [c1]), bn_eq, bn_eq, iI_succ]
            exact step false s3 m1 m2 (nx false (by unfold lnB; rw [decide_eq_false (show ¬ (i ≠ k) from fun z => z c1), Bool.false_and, Bool.and_false]))
          · rw [if_neg (by rw [iI_eqN (by omega) (by omega)]; exact c1)]
            by_cases c2 : j = k
            · rw [if_pos (by rw [c2]), bn_eq, bn_eq, iI_succ]
              exact step false s3 m1 m2 (nx false (by unfold lnB; rw [decide_eq_false (show ¬ (j ≠ k) from fun z => z c2), Bool.false_and, Bool.and_false, Bool.and_false]))
            · obtain ⟨s4, e4, f4⟩ := m_three hp m2 (mark_lt hS hi) (mark_lt hS hj) (mark_lt hS hk) (mark_ne hS hi hj (by omega))
              have q1 : Fr SC σ s4 := m1.tr (f4.mo (fun _ _ h => sc_PX h))
              have q2 : s4 92 7 = iI S.1 := by rw [f4 92 7 (by unfold PX; omega)]; exact m2
              have hlb : lnB S.1 S.2.1 k i j = dt S.1 (S.2.1.getD i 0) (S.2.1.getD j 0) (S.2.1.getD k 0) := by
                unfold lnB
                rw [decide_eq_true m3, decide_eq_true (show i ≠ k from c1), decide_eq_true (show j ≠ k from c2), Bool.true_and, Bool.true_and, Bool.true_and]
              rw [if_neg (by rw [iI_eqN (by omega) (by omega)]; exact c2), ob_some, g38 s3 m1 i hi, ob_some, ob_some, g38 s3 m1 j hj, ob_some, ob_some, g38 s3 m1 k hk, ob_some, e4, ob_some]
              cases hd : dt S.1 (S.2.1.getD i 0) (S.2.1.getD j 0) (S.2.1.getD k 0) with
              | false =>
                have := step false s4 q1 q2 (nx false (by rw [hlb, hd]))
                simpa [bn_eq, iI_succ, b32] using this
              | true =>
                have := step true s4 q1 q2 (nx true (by rw [hlb, hd]))
                simpa [bn_eq, iI_succ, b32, ne10] using this
