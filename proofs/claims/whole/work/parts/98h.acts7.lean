/-! ACTS: why, fault, end, image, again -/
noncomputable def aWhy (A : AS) (w : Int) : Int32 := cs (w = 0) A.1.2.2.2.2.2.1 (cs (w = 1) A.1.2.2.2.2.2.2 (-1))
noncomputable def aFault (A : AS) (w : Int) : Int32 := cs (w = 0) A.1.2.2.2.1 (cs (w = 1) A.1.2.2.2.2.1 (-1))
theorem k_why {σ : Sto} {ρ : Rho} {A : AS} {w : Int} (hD : Dk ρ) (h : KR σ A) (hw : rg32 w) : MX11_why σ ρ 0 (iI w) = some (aWhy A w) := by
  unfold MX11_why aWhy
  by_cases c0 : w = 0
  · rw [if_pos (by rw [c0]; rfl), cs_pos c0, dk_0_0 hD, ob_some, h.1.2.2.2.2.2.1]
  · rw [if_neg (by rw [w0, iI_eq hw ⟨by omega, by omega⟩]; exact c0), cs_neg c0]
    by_cases c1 : w = 1
    · rw [if_pos (by rw [c1]; rfl), cs_pos c1, dk_0_0 hD, ob_some, h.1.2.2.2.2.2.2]
    · rw [if_neg (by rw [w1, iI_eq hw ⟨by omega, by omega⟩]; exact c1), cs_neg c1]
theorem k_fault {σ : Sto} {ρ : Rho} {A : AS} {w : Int} (hD : Dk ρ) (h : KR σ A) (hw : rg32 w) : MX11_fault σ ρ 0 (iI w) = some (aFault A w) := by
  unfold MX11_fault aFault
  by_cases c0 : w = 0
  · rw [if_pos (by rw [c0]; rfl), cs_pos c0, dk_0_0 hD, ob_some, h.1.2.2.2.1]
  · rw [if_neg (by rw [w0, iI_eq hw ⟨by omega, by omega⟩]; exact c0), cs_neg c0]
    by_cases c1 : w = 1
    · rw [if_pos (by rw [c1]; rfl), cs_pos c1, dk_0_0 hD, ob_some, h.1.2.2.2.2.1]
    · rw [if_neg (by rw [w1, iI_eq hw ⟨by omega, by omega⟩]; exact c1), cs_neg c1]
theorem m_fault {σ : Sto} {A : AS} {w : Int} (h : MR σ A) (hw : rg32 w) : MX12_fault σ 92 (iI w) = some (aFault A w) := by
  unfold MX12_fault aFault
  by_cases c0 : w = 0
  · rw [if_pos (by rw [c0]; rfl), cs_pos c0, h.1.2.2.2.1]
  · rw [if_neg (by rw [w0, iI_eq hw ⟨by omega, by omega⟩]; exact c0), cs_neg c0]
    by_cases c1 : w = 1
    · rw [if_pos (by rw [c1]; rfl), cs_pos c1, h.1.2.2.2.2.1]
    · rw [if_neg (by rw [w1, iI_eq hw ⟨by omega, by omega⟩]; exact c1), cs_neg c1]
theorem m_why {σ : Sto} {ρ : Rho} {A : AS} {w : Int} (hρ : Md ρ) (h : MR σ A) (hw : rg32 w) : MX12_why σ ρ 92 (iI w) = some (aWhy A w) := by
  unfold MX12_why aWhy
  have e := m_isIn (a := w) (b := 0) (c := 1) hw ⟨by omega, by omega⟩ ⟨by omega, by omega⟩
  rw [show iI 0 = (0 : Int32) from rfl, show iI 1 = (1 : Int32) from rfl] at e
  rcases e with ⟨a1, a2, e⟩ | ⟨a, e⟩
  · rw [e, ob_some, if_neg ne10, hρ.1, ob_some, show (46 : Int32) = iI 46 from rfl, iI_add, ag93i (by omega) (by omega), ob_some]
    by_cases c0 : w = 0
    · rw [cs_pos c0, c0]; exact congrArg some h.1.2.2.2.2.2.1
    · have c1 : w = 1 := by omega
      rw [cs_neg c0, cs_pos c1, c1]; exact congrArg some h.1.2.2.2.2.2.2
  · rw [e, ob_some, if_pos rfl, cs_neg (by omega), cs_neg (by omega)]
/-- end -/
def endA (A : AS) (n : Nat) : AS := ((A.1.1, A.1.2.1, n, A.1.2.2.2), A.2)
noncomputable def aEnd (A : AS) (n : Int) : Int32 × AS := cs (0 ≤ n ∧ n ≤ A.1.2.2.1) (iI n, endA A n.toNat) (-1, A)
theorem k_end {σ : Sto} {ρ : Rho} {A : AS} {n : Int} (hD : Dk ρ) (hA : AOK A) (h : KR σ A) (hn : rg32 n) : OK (MX11_end σ ρ 0 (iI n)) (Kq σ (aEnd A n)) := by
  have hl := hA.1.2.1
  unfold MX11_end aEnd
  by_cases c0 : n < 0
  · rw [if_pos (by rw [w0, iI_lt hn ⟨by omega, by omega⟩]; exact c0), cs_neg (by omega)]
    exact OK.so ⟨rfl, h, Fr.rf⟩
  · rw [if_neg (by rw [w0, iI_lt hn ⟨by omega, by omega⟩]; exact c0), dk_0_0 hD, ob_some, dk_1_1 hD, ob_some, h.1.2.1]
    by_cases c1 : n ≤ A.1.2.2.1
    · rw [if_pos (by rw [iI_le hn ⟨by omega, by omega⟩]; exact c1), cs_pos ⟨by omega, c1⟩, ob_some, dk_1_1 hD, ob_some, bn_eq]
      have fr : ∀ k i, k ≠ 5 → su σ 5 1 (iI n) k i = σ k i := fun k i hk => su_k hk
      obtain ⟨h1, hp, hi⟩ := h
      have key : KR (su σ 5 1 (iI n)) (endA A n.toNat) := by
        refine ⟨⟨CS_k h1.1 (fun i => fr _ _ (by decide)) (fun i => fr _ _ (by decide)) (fun i => fr _ _ (by decide)), ?_, fun i hi => by rw [fr _ _ (by decide)]; exact h1.2.2.1 i hi, (fr _ _ (by decide)).trans h1.2.2.2.1, (fr _ _ (by decide)).trans h1.2.2.2.2.1, (fr _ _ (by decide)).trans h1.2.2.2.2.2.1, (fr _ _ (by decide)).trans h1.2.2.2.2.2.2⟩, KP_fr hp (fun k i a b => fr k i (by omega)), KI_fr hi (fun k i a b => fr k i (by omega))⟩
        show su σ 5 1 (iI n) 5 1 = iI (n.toNat : Int)
        rw [su_s, Int.toNat_of_nonneg (by omega)]
      exact OK.so ⟨rfl, key, fun k i hk => fr k i (by unfold CL at hk; omega)⟩
    · rw [if_neg (by rw [iI_le hn ⟨by omega, by omega⟩]; exact c1), cs_neg (by omega)]
      exact OK.so ⟨rfl, h, Fr.rf⟩
theorem m_end {σ : Sto} {A : AS} {n : Int} (hA : AOK A) (h : MR σ A) (hn : rg32 n) : OK (MX12_end σ 92 (iI n)) (Mq σ (aEnd A n)) := by
  have hl := hA.1.2.1
  unfold MX12_end aEnd
  rw [h.1.2.1, show (0 : Int32) = iI 0 from rfl]
  rcases m_isIn (a := n) (b := 0) (c := (A.1.2.2.1 : Nat)) hn ⟨by omega, by omega⟩ ⟨by omega, by omega⟩ with ⟨a1, a2, e⟩ | ⟨a, e⟩
  · rw [e, ob_some, if_neg (show ¬ (1 : Int32) = iI 0 by decide), cs_pos ⟨a1, a2⟩, bn_eq]
    have fr : ∀ k i, ¬ (k = 92 ∧ i = 3) → su σ 92 3 (iI n) k i = σ k i := fun k i hk => su_n (by omega)
    obtain ⟨h1, hp, hi⟩ := h
    have key : MR (su σ 92 3 (iI n)) (endA A n.toNat) := by
      refine ⟨⟨MS_e h1.1 hA.1.1.2.1 (fun i hi => fr _ _ (by omega)), ?_, fun i hi => (fr _ _ (by omega)).trans (h1.2.2.1 i hi), (fr _ _ (by omega)).trans h1.2.2.2.1, (fr _ _ (by omega)).trans h1.2.2.2.2.1, (fr _ _ (by omega)).trans h1.2.2.2.2.2.1, (fr _ _ (by omega)).trans h1.2.2.2.2.2.2⟩, MP_fr (L := A.2.1) hp (past8 hA) hA.2.2.1 (fr _ _ (by omega)) (fun i a b => fr _ _ (by omega)), MI_fr (im := A.2.2) hi hA.2.2.2 (fun i hi => fr _ _ (by omega)) (fun i a b => fr _ _ (by omega))⟩
      show su σ 92 3 (iI n) 92 3 = iI (n.toNat : Int)
      rw [su_s, Int.toNat_of_nonneg (by omega)]
    exact OK.so ⟨rfl, key, fun k i hk => fr k i (by unfold ML at hk; omega)⟩
  · rw [e, ob_some, if_pos (show (0 : Int32) = iI 0 from rfl), cs_neg a]
    exact OK.so ⟨rfl, h, Fr.rf⟩
theorem AOK_end {A : AS} {n : Int} (h : AOK A) : AOK (aEnd A n).2 := by
  unfold aEnd
  by_cases c : 0 ≤ n ∧ n ≤ A.1.2.2.1
  · rw [cs_pos c]
    have hl := h.1.2.1
    exact ⟨⟨h.1.1, by show n.toNat ≤ 500; omega, h.1.2.2⟩, h.2⟩
  · rw [cs_neg c]; exact h
/-- a moment's copy, the class -/
def MoR (ρ : Rho) (m : Nat) : Prop := ρ m 0 = some (m + 1) ∧ ρ m 1 = some (m + 4) ∧ ρ (m + 4) 0 = some (m + 5) ∧ Sr ρ (m + 1) ∧ ln (m + 5) = 500
theorem MoR_1 {ρ : Rho} (h : Dk ρ) : MoR ρ 1 := ⟨dk_1_0 h, dk_1_1 h, dk_5_0 h, Sr_2 h, by decide +kernel⟩
theorem MoR_img {ρ : Rho} (h : Dk ρ) {k : Nat} (hk : k < 3) : MoR ρ (34 + 6 * k) := by
  obtain ⟨a, b, c, d, e, f⟩ := dk_img h hk
  have L : ∀ k, k < 3 → ln (34 + 6 * k + 1 + 1) = 8 ∧ ln (34 + 6 * k + 1 + 2) = 36 ∧ ln (34 + 6 * k + 5) = 500 := by decide +kernel
  exact ⟨b, c, f, ⟨d, e, (L k hk).1, (L k hk).2.1⟩, (L k hk).2.2⟩
theorem c_cpa {τ : Sto} {a c m : Nat} (ha : ln a = m) (hc : ln c = m) (hm : m ≤ 500) : cpa τ a (0 : Int32) c (0 : Int32) (iI (m : Nat)) = some (cpf τ a 0 c 0 m) := by
  unfold cpa
  have z : ((0 : Int32)).toNatClampNeg = 0 := rfl
  have e : (iI (m : Nat)).toNatClampNeg = m := by rw [iI_cl ⟨by omega, by omega⟩]; rfl
  rw [if_neg, z, e]
  rw [z, e, show (0 : Int32) = iI 0 from rfl, iI_lt ⟨by omega, by omega⟩ ⟨by omega, by omega⟩, iI_lt ⟨by omega, by omega⟩ ⟨by omega, by omega⟩]
  omega
theorem c_copyM {σ : Sto} {ρ : Rho} {d s : Nat} {M : Mo} (hd : MoR ρ d) (hs : MoR ρ s) (hne : d + 5 < s ∨ s + 5 < d) (hl : M.1.2.1.length ≤ 8) (h : CMo σ s M) : OK (MX4_copy σ ρ d s) (fun s' => CMo s' d M ∧ ∀ k i, (k < d ∨ d + 5 < k) → s' k i = σ k i) := by
  obtain ⟨d0, d1, d2, d3, d4⟩ := hd
  obtain ⟨s0, s1, s2, s3, s4⟩ := hs
  unfold MX4_copy MX9_copy
  rw [d0, ob_some, s0, ob_some]
  refine OK.bi (c_copyS (d := d + 1) (s := s + 1) s3 d3 (by omega) hl h.1) ?_
  intro t ⟨g1, g2⟩
  have ht : ∀ k i, (k < d + 1 ∨ d + 3 < k) → t k i = σ k i := fun k i hk => g2 k i (by omega) (by omega) (by omega)
  rw [d1, ob_some, s1, ob_some, bn_eq, s2, ob_some, d2, ob_some, show (500 : Int32) = iI ((500 : Nat) : Int) from rfl, c_cpa s4 d4 (by omega), ob_some, ob_some, bn_eq, bn_eq, bn_eq, bn_eq]
  have e41 : t (s + 4) 1 = iI M.2.2.1 := (ht _ _ (by omega)).trans h.2.1
  rw [e41]
  have C : ∀ k i, (k ≠ d + 5) → cpf (su t (d + 4) 1 (iI M.2.2.1)) (s + 5) 0 (d + 5) 0 500 k i = su t (d + 4) 1 (iI M.2.2.1) k i := fun k i hk => by
    unfold cpf; rw [if_neg (by omega)]
  have C5 : ∀ i, i < 500 → cpf (su t (d + 4) 1 (iI M.2.2.1)) (s + 5) 0 (d + 5) 0 500 (d + 5) i = t (s + 5) i := fun i hi => by
    unfold cpf; rw [if_pos (by omega), su_k (by omega)]
    congr 1; omega
  generalize hu : cpf (su t (d + 4) 1 (iI M.2.2.1)) (s + 5) 0 (d + 5) 0 500 = u at C C5 ⊢
  have u2 : ∀ i, u s i = σ s i := fun i => by rw [C _ _ (by omega), su_k (by omega)]; exact ht _ _ (by omega)
  rw [u2, show su u d 2 (σ s 2) s 3 = σ s 3 by rw [su_k (by omega)]; exact u2 3, show su (su u d 2 (σ s 2)) d 3 (σ s 3) s 4 = σ s 4 by rw [su_k (by omega), su_k (by omega)]; exact u2 4, show su (su (su u d 2 (σ s 2)) d 3 (σ s 3)) d 4 (σ s 4) s 5 = σ s 5 by rw [su_k (by omega), su_k (by omega), su_k (by omega)]; exact u2 5]
  have V : ∀ k i, k ≠ d → su (su (su (su u d 2 (σ s 2)) d 3 (σ s 3)) d 4 (σ s 4)) d 5 (σ s 5) k i = u k i := fun k i hk => by rw [su_k hk, su_k hk, su_k hk, su_k hk]
  have key : CMo (su (su (su (su u d 2 (σ s 2)) d 3 (σ s 3)) d 4 (σ s 4)) d 5 (σ s 5)) d M := by
    refine ⟨CS_k g1 (fun i => ?_) (fun i => ?_) (fun i => ?_), ?_, fun i hi => ?_, ?_, ?_, ?_, ?_⟩
    · rw [V _ _ (by omega), C _ _ (by omega), su_k (by omega)]
    · rw [V _ _ (by omega), C _ _ (by omega), su_k (by omega)]
    · rw [V _ _ (by omega), C _ _ (by omega), su_k (by omega)]
    · rw [V _ _ (by omega), C _ _ (by omega), su_s]
    · rw [V _ _ (by omega), C5 i hi, ht _ _ (by omega)]; exact h.2.2.1 i hi
    · rw [su_i (by decide), su_i (by decide), su_i (by decide), su_s]; exact h.2.2.2.1
    · rw [su_i (by decide), su_i (by decide), su_s]; exact h.2.2.2.2.1
    · rw [su_i (by decide), su_s]; exact h.2.2.2.2.2.1
    · rw [su_s]; exact h.2.2.2.2.2.2
  refine OK.so ⟨key, fun k i hk => ?_⟩
  rw [V _ _ (by omega), C _ _ (by omega), su_k (by omega)]
  exact ht _ _ (by omega)
theorem ln33 : ln 33 = 3 := by decide +kernel
theorem ln52 : ln 52 = 3 := by decide +kernel
theorem rg33 {ρ : Rho} {n : Nat} (hn : n < 3) : rg ρ 33 (iI n) = ρ 33 n := by
  unfold rg
  have hr : rg32 (n : Int) := ⟨by omega, by omega⟩
  rw [if_neg, iI_cl hr]; rfl
  rw [iI_cl hr, ln33, show (0 : Int32) = iI 0 from rfl, iI_lt hr ⟨by omega, by omega⟩]
  omega
/-- image -/
def imgA (A : AS) (n : Nat) : AS := (A.1, A.2.1, fun j => if j = n then some A.1 else A.2.2 j)
noncomputable def aImage (A : AS) (k : Int) : Int32 × AS := cs (0 ≤ k ∧ k < 3) (1, imgA A k.toNat) (0, A)
theorem AOK_image {A : AS} {k : Int} (h : AOK A) : AOK (aImage A k).2 := by
  unfold aImage
  by_cases c : 0 ≤ k ∧ k < 3
  · rw [cs_pos c]
    refine ⟨h.1, h.2.1, h.2.2.1, fun j M hj hM => ?_⟩
    have hM : (if j = k.toNat then some A.1 else A.2.2 j) = some M := hM
    by_cases e : j = k.toNat
    · rw [if_pos e] at hM; rw [← Option.some.inj hM]; exact h.1
    · rw [if_neg e] at hM; exact h.2.2.2 j M hj hM
  · rw [cs_neg c]; exact h
theorem k_image {σ : Sto} {ρ : Rho} {A : AS} {k : Int} (hD : Dk ρ) (hA : AOK A) (h : KR σ A) (hk : rg32 k) : OK (MX11_image σ ρ 0 (iI k)) (Kq σ (aImage A k)) := by
  unfold MX11_image aImage
  by_cases c0 : k < 0
  · rw [if_pos (by rw [w0, iI_lt hk ⟨by omega, by omega⟩]; exact c0), cs_neg (by omega), zr0]
    exact OK.so ⟨rfl, h, Fr.rf⟩
  · rw [if_neg (by rw [w0, iI_lt hk ⟨by omega, by omega⟩]; exact c0)]
    by_cases c1 : k < 3
    · rw [if_pos (by rw [w3, iI_lt hk ⟨by omega, by omega⟩]; exact c1), cs_pos ⟨by omega, c1⟩]
      obtain ⟨n, rfl, n3⟩ : ∃ n : Nat, k = n ∧ n < 3 := ⟨k.toNat, by omega, by omega⟩
      simp only [cs_tn]
      rw [dk_0_2 hD, ob_some, rg33 n3, (dk_img hD n3).1, ob_some, dk_0_0 hD, ob_some]
      refine OK.bi (c_copyM (MoR_img hD n3) (MoR_1 hD) (by omega) hA.1.1.2.1 h.1) ?_
      intro s ⟨g1, g2⟩
      rw [dk_0_3 hD, ob_some, ap_ok (by omega) (by rw [ln52]; omega) (by rw [ln52]; omega), ob_some, zr1, show ((n : Int)).toNat = n from rfl]
      have fr : ∀ k i, (k < 34 + 6 * n ∨ 34 + 6 * n + 5 < k) → ¬ (k = 52 ∧ i = n) → su s 52 n (1 : Int32) k i = σ k i := fun k i a b => by rw [su_n (by omega)]; exact g2 k i a
      obtain ⟨hm, hp, hi⟩ := h
      have key : KR (su s 52 n (1 : Int32)) (imgA A n) := by
        refine ⟨CMo_fr hm (fun k i a b => fr k i (by omega) (by omega)), KP_fr hp (fun k i a b => fr k i (by omega) (by omega)), fun j hj => ?_⟩
        show ((if j = n then some A.1 else A.2.2 j) = none ∧ _) ∨ ∃ M, (if j = n then some A.1 else A.2.2 j) = some M ∧ _
        by_cases e : j = n
        · subst e
          rw [if_pos rfl]
          exact Or.inr ⟨A.1, rfl, su_s, CMo_fr g1 (fun k i a b => su_k (by omega))⟩
        · rw [if_neg e]
          rcases hi j hj with ⟨a, b⟩ | ⟨M, a, b, c⟩
          · exact Or.inl ⟨a, (fr _ _ (by omega) (by omega)).trans b⟩
          · exact Or.inr ⟨M, a, (fr _ _ (by omega) (by omega)).trans b, CMo_fr c (fun k i a b => fr k i (by omega) (by omega))⟩
      exact OK.so ⟨rfl, key, fun k i hk => fr k i (by unfold CL at hk; omega) (by unfold CL at hk; omega)⟩
    · rw [if_neg (by rw [w3, iI_lt hk ⟨by omega, by omega⟩]; exact c1), cs_neg (by omega), zr0]
      exact OK.so ⟨rfl, h, Fr.rf⟩
/-- again -/
def againA (A : AS) (M : Mo) : AS := (M, [], A.2.2)
noncomputable def aAgain (A : AS) (k : Int) : Int32 × AS := cs (0 ≤ k ∧ k < 3) (match A.2.2 k.toNat with | some M => (1, againA A M) | none => (0, A)) (0, A)
theorem AOK_again {A : AS} {k : Int} (h : AOK A) : AOK (aAgain A k).2 := by
  unfold aAgain
  by_cases c : 0 ≤ k ∧ k < 3
  · rw [cs_pos c]
    cases e : A.2.2 k.toNat with
    | none => exact h
    | some M =>
      have r : AOK (againA A M) := ⟨h.2.2.2 _ M (by omega) e, (fun S hS => absurd hS List.not_mem_nil), Nat.zero_le _, h.2.2.2⟩
      exact r
  · rw [cs_neg c]; exact h
theorem k_again {σ : Sto} {ρ : Rho} {A : AS} {k : Int} (hD : Dk ρ) (hA : AOK A) (h : KR σ A) (hk : rg32 k) : OK (MX11_again σ ρ 0 (iI k)) (Kq σ (aAgain A k)) := by
  unfold MX11_again aAgain
  by_cases c0 : k < 0
  · rw [if_pos (by rw [w0, iI_lt hk ⟨by omega, by omega⟩]; exact c0), cs_neg (by omega), zr0]
    exact OK.so ⟨rfl, h, Fr.rf⟩
  · rw [if_neg (by rw [w0, iI_lt hk ⟨by omega, by omega⟩]; exact c0)]
    by_cases c1 : k < 3
    · rw [if_neg (by rw [w3, iI_le ⟨by omega, by omega⟩ hk]; omega), cs_pos ⟨by omega, c1⟩]
      obtain ⟨n, rfl, n3⟩ : ∃ n : Nat, k = n ∧ n < 3 := ⟨k.toNat, by omega, by omega⟩
      simp only [cs_tn]
      rw [dk_0_3 hD, ob_some, ag_ok (by omega) (by rw [ln52]; omega) (by rw [ln52]; omega), ob_some, show ((n : Int)).toNat = n from rfl]
      rcases h.2.2 n n3 with ⟨a, b⟩ | ⟨M, a, b, c⟩
      · rw [b, if_pos rfl, zr0, a]; exact OK.so ⟨rfl, h, Fr.rf⟩
      · have hM := hA.2.2.2 n M n3 a
        rw [b, if_neg ne10, a, dk_0_0 hD, ob_some, dk_0_2 hD, ob_some, rg33 n3, (dk_img hD n3).1, ob_some]
        refine OK.bi (c_copyM (MoR_1 hD) (MoR_img hD n3) (by omega) hM.1.2.1 c) ?_
        intro s ⟨g1, g2⟩
        unfold MX5_forget
        rw [dk_0_1 hD, ob_some, bn_eq, ob_some, zr1]
        have fr : ∀ k i, (k < 1 ∨ 6 < k) → k ≠ 7 → su s 7 2 (0 : Int32) k i = σ k i := fun k i a b => by rw [su_k b]; exact g2 k i (by omega)
        obtain ⟨hm, ⟨nx, p1, p2, p3, p4⟩, hi⟩ := h
        have key : KR (su s 7 2 (0 : Int32)) (againA A M) := by
          refine ⟨CMo_fr g1 (fun k i a b => su_k (by omega)), ⟨nx, p1, ?_, su_s, fun i hi => absurd hi (Nat.not_lt_zero _)⟩, KI_fr hi (fun k i a b => fr k i (by omega) (by omega))⟩
          rw [su_i (by decide), g2 7 1 (by omega)]; exact p2
        exact OK.so ⟨rfl, key, fun k i hk => fr k i (by unfold CL at hk; omega) (by unfold CL at hk; omega)⟩
    · rw [if_pos (by rw [w3, iI_le ⟨by omega, by omega⟩ hk]; omega), cs_neg (by omega), zr0]
      exact OK.so ⟨rfl, h, Fr.rf⟩
theorem ag94c {σ : Sto} {n : Nat} (h : n < 500) : ag σ 94 (iI n) = some (σ 94 n) := by
  have l : ln 94 = 500 := by decide +kernel
  rw [ag_ok (by omega) (by rw [l]; omega) (by rw [l]; omega)]; rfl
theorem ap94c {σ : Sto} {n : Nat} {x : Int32} (h : n < 500) : ap σ 94 (iI n) x = some (su σ 94 n x) := by
  have l : ln 94 = 500 := by decide +kernel
  rw [ap_ok (by omega) (by rw [l]; omega) (by rw [l]; omega)]; rfl
theorem ag93c {σ : Sto} {n : Nat} (h : n < 2115) : ag σ 93 (iI n) = some (σ 93 n) := by
  rw [ag93i (by omega) (by omega)]; rfl
theorem m_image {σ : Sto} {ρ : Rho} {A : AS} {k : Int} (hρ : Md ρ) (hA : AOK A) (h : MR σ A) (hk : rg32 k) : OK (MX12_image σ ρ 92 (iI k)) (Mq σ (aImage A k)) := by
  unfold MX12_image aImage
  have e := m_isIn (a := k) (b := 0) (c := 2) hk ⟨by omega, by omega⟩ ⟨by omega, by omega⟩
  rw [show iI 0 = (0 : Int32) from rfl, show iI 2 = (2 : Int32) from rfl] at e
  rcases e with ⟨a1, a2, e⟩ | ⟨a, e⟩
  · rw [e, ob_some, if_neg ne10, cs_pos ⟨a1, by omega⟩, bn_eq]
    obtain ⟨n, rfl, n3⟩ : ∃ n : Nat, k = n ∧ n < 3 := ⟨k.toNat, by omega, by omega⟩
    simp only [cs_tn]
    obtain ⟨b, hb⟩ : ∃ b, b = 462 + 551 * n := ⟨_, rfl⟩
    rw [show (462 : Int32) + (551 : Int32) * iI (n : Int) = iI (b : Nat) by rw [show (462 : Int32) = iI 462 from rfl, show (551 : Int32) = iI 551 from rfl, iI_mul, iI_add, hb]; congr 1]
    refine OK.bi (m_copies (f := 0) (t := b) (n := 48) hρ (by omega) (by omega) (by omega)) ?_
    intro s ⟨c1, c2⟩
    rw [bn_eq]
    have hm := h.1
    refine run_g (S := Sto) (call := fun (g : Sto → Int32 → Int32 → Option (Int32 × Sto)) τ (j : Nat) => g τ (iI (b : Nat)) (iI j)) (N := 500) (I := fun j τ => (∀ i, τ 93 i = if b + 48 ≤ i ∧ i < b + 48 + j then σ 94 (i - (b + 48)) else s 93 i) ∧ ∀ k i, k ≠ 93 → τ k i = σ k i) (Post := fun o => OK o _) ?_ ?_ (by unfold FU; omega) (k0 := 0) (by omega) (s := s) ⟨fun i => by rw [if_neg (by omega)], c2⟩
    · intro g τ ⟨i1, i2⟩
      show OK (FX12_image_31 ρ 92 (iI (n : Int)) (BX12_image_61 ρ 92 (iI (n : Int))) g τ (iI (b : Nat)) (iI (500 : Nat))) _
      unfold FX12_image_31 BX12_image_61
      rw [if_pos (by decide), hρ.1, ob_some, show iI (b : Int) + (48 : Int32) + (500 : Int32) = iI ((b + 548 : Nat) : Int) by rw [show (48 : Int32) = iI 48 from rfl, show (500 : Int32) = iI 500 from rfl, iI_add, iI_add]; congr 1, ap93c (by omega), ob_some, ob_some, iI_succ, ap93c (by omega), ob_some, ob_some, show iI ((b + 548 : Nat) : Int) + (2 : Int32) = iI ((b + 550 : Nat) : Int) by rw [show (2 : Int32) = iI 2 from rfl, iI_add]; congr 1, ap93c (by omega), ob_some, hρ.2.2.1, ob_some, ap_ok (by omega) (by rw [ln95]; omega) (by rw [ln95]; omega), ob_some, zr1, show ((n : Int)).toNat = n from rfl]
      have f3 : τ 92 3 = iI A.1.2.2.1 := (i2 _ _ (by decide)).trans hm.2.1
      have f4 : su τ 93 (b + 548) (τ 92 3) 92 4 = A.1.2.2.2.1 := by rw [su_k (by decide)]; exact (i2 _ _ (by decide)).trans hm.2.2.2.1
      have f5 : su (su τ 93 (b + 548) (τ 92 3)) 93 (b + 548 + 1) (su τ 93 (b + 548) (τ 92 3) 92 4) 92 5 = A.1.2.2.2.2.1 := by rw [su_k (by decide), su_k (by decide)]; exact (i2 _ _ (by decide)).trans hm.2.2.2.2.1
      rw [f5, f4, f3]
      generalize hu : su (su (su (su τ 93 (b + 548) (iI A.1.2.2.1)) 93 (b + 548 + 1) A.1.2.2.2.1) 93 (b + 550) A.1.2.2.2.2.1) 95 n (1 : Int32) = u
      have U : ∀ k i, k ≠ 93 → ¬ (k = 95 ∧ i = n) → u k i = σ k i := fun k i x y => by rw [← hu, su_n (by omega), su_k x, su_k x, su_k x]; exact i2 k i x
      have U3 : ∀ i, i ≠ b + 548 → i ≠ b + 549 → i ≠ b + 550 → u 93 i = if b + 48 ≤ i ∧ i < b + 548 then σ 94 (i - (b + 48)) else if b ≤ i ∧ i < b + 48 then σ 93 (i - b) else σ 93 i := fun i x y z => by
        rw [← hu, su_k (by decide), su_i z, su_i y, su_i x, i1, c1]
        congr 1
        rw [Nat.zero_add]
      have key : MR u (imgA A n) := by
        refine ⟨⟨MS_e hm.1 hA.1.1.2.1 (fun j hj => ?_), (U _ _ (by decide) (by omega)).trans hm.2.1, fun i hi => (U _ _ (by decide) (by omega)).trans (hm.2.2.1 i hi), (U _ _ (by decide) (by omega)).trans hm.2.2.2.1, (U _ _ (by decide) (by omega)).trans hm.2.2.2.2.1, ?_, ?_⟩, MP_fr (L := A.2.1) h.2.1 (past8 hA) hA.2.2.1 (U _ _ (by decide) (by omega)) (fun i x y => ?_), fun j hj => ?_⟩
        · rw [U3 _ (by omega) (by omega) (by omega), if_neg (by omega), if_neg (by omega)]
        · rw [U3 _ (by omega) (by omega) (by omega), if_neg (by omega), if_neg (by omega)]; exact hm.2.2.2.2.2.1
        · rw [U3 _ (by omega) (by omega) (by omega), if_neg (by omega), if_neg (by omega)]; exact hm.2.2.2.2.2.2
        · rw [U3 _ (by omega) (by omega) (by omega), if_neg (by omega), if_neg (by omega)]
        · show ((if j = n then some A.1 else A.2.2 j) = none ∧ _) ∨ ∃ M, (if j = n then some A.1 else A.2.2 j) = some M ∧ _
          by_cases e : j = n
          · subst e
            rw [if_pos rfl, ← hb]
            refine Or.inr ⟨A.1, rfl, by rw [← hu, su_s], ⟨MS_e hm.1 hA.1.1.2.1 (fun i hi => ?_), ?_, fun i hi => ?_, ?_, ?_, ?_, ?_⟩⟩
            · rw [U3 _ (by omega) (by omega) (by omega), if_neg (by omega), if_pos (by omega)]
              congr 1; omega
            · rw [← hu, su_k (by decide), su_i (by omega), su_i (by omega), su_s]
            · rw [U3 _ (by omega) (by omega) (by omega), if_pos (by omega), show b + 48 + i - (b + 48) = i by omega]; exact hm.2.2.1 i hi
            · rw [← hu, su_k (by decide), su_i (by omega), show b + 549 = b + 548 + 1 by omega, su_s]
            · rw [← hu, su_k (by decide), su_s]
            · rw [U3 _ (by omega) (by omega) (by omega), if_neg (by omega), if_pos (by omega), show b + 46 - b = 46 by omega]; exact hm.2.2.2.2.2.1
            · rw [U3 _ (by omega) (by omega) (by omega), if_neg (by omega), if_pos (by omega), show b + 47 - b = 47 by omega]; exact hm.2.2.2.2.2.2
          · rw [if_neg e]
            rcases h.2.2 j hj with ⟨x, y⟩ | ⟨M, x, y, z⟩
            · exact Or.inl ⟨x, (U _ _ (by decide) (by omega)).trans y⟩
            · exact Or.inr ⟨M, x, (U _ _ (by decide) (by omega)).trans y, MMi_fr z (hA.2.2.2 j M hj x).1.2.1 (fun i h1 h2 => by rw [U3 _ (by omega) (by omega) (by omega), if_neg (by omega), if_neg (by omega)])⟩
      exact OK.so ⟨rfl, key, fun k i hk => U k i (by unfold ML at hk; omega) (by unfold ML at hk; omega)⟩
    · intro g τ j ⟨i1, i2⟩ hj ih
      show OK (FX12_image_31 ρ 92 (iI (n : Int)) (BX12_image_61 ρ 92 (iI (n : Int))) g τ (iI (b : Nat)) (iI j)) _
      unfold FX12_image_31
      rw [if_neg (by rw [show (500 : Int32) = iI ((500 : Nat) : Int) from rfl, iI_leN (by omega) (by omega)]; omega), hρ.1, ob_some, hρ.2.1, ob_some, ag94c hj, ob_some, show iI (b : Int) + (48 : Int32) + iI (j : Int) = iI ((b + 48 + j : Nat) : Int) by rw [show (48 : Int32) = iI 48 from rfl, iI_add, iI_add]; congr 1, ap93c (by omega), ob_some, bn_eq, iI_succ]
      refine ih _ ⟨fun i => ?_, fun k' i' hk' => by rw [su_k hk']; exact i2 k' i' hk'⟩
      by_cases q : i = b + 48 + j
      · subst q
        rw [su_s, if_pos (by omega), i2 94 j (by decide), show b + 48 + j - (b + 48) = j by omega]
      · rw [su_i q, i1]
        by_cases q2 : b + 48 ≤ i ∧ i < b + 48 + j
        · rw [if_pos q2, if_pos (by omega)]
        · rw [if_neg q2, if_neg (by omega)]
  · rw [e, ob_some, if_pos rfl, cs_neg (by omega), zr0]
    exact OK.so ⟨rfl, h, Fr.rf⟩
theorem m_again {σ : Sto} {ρ : Rho} {A : AS} {k : Int} (hρ : Md ρ) (hA : AOK A) (h : MR σ A) (hk : rg32 k) : OK (MX12_again σ ρ 92 (iI k)) (Mq σ (aAgain A k)) := by
  unfold MX12_again aAgain
  have e := m_isIn (a := k) (b := 0) (c := 2) hk ⟨by omega, by omega⟩ ⟨by omega, by omega⟩
  rw [show iI 0 = (0 : Int32) from rfl, show iI 2 = (2 : Int32) from rfl] at e
  rcases e with ⟨a1, a2, e⟩ | ⟨a, e⟩
  · rw [e, ob_some, if_neg ne10, cs_pos ⟨a1, by omega⟩, hρ.2.2.1, ob_some]
    obtain ⟨n, rfl, n3⟩ : ∃ n : Nat, k = n ∧ n < 3 := ⟨k.toNat, by omega, by omega⟩
    simp only [cs_tn]
    rw [ag_ok (by omega) (by rw [ln95]; omega) (by rw [ln95]; omega), ob_some, show ((n : Int)).toNat = n from rfl]
    rcases h.2.2 n n3 with ⟨a, b⟩ | ⟨M, a, b9, c⟩
    · rw [b, if_pos rfl, zr0, a]; exact OK.so ⟨rfl, h, Fr.rf⟩
    · have hM := hA.2.2.2 n M n3 a
      obtain ⟨b, hb⟩ : ∃ b, b = 462 + 551 * n := ⟨_, rfl⟩
      rw [b9, if_neg ne10, a, bn_eq, show (462 : Int32) + (551 : Int32) * iI (n : Int) = iI (b : Nat) by rw [show (462 : Int32) = iI 462 from rfl, show (551 : Int32) = iI 551 from rfl, iI_mul, iI_add, hb]; congr 1]
      rw [← hb] at c
      refine OK.bi (m_copies (f := b) (t := 0) (n := 48) hρ (by omega) (by omega) (by omega)) ?_
      intro s ⟨c1, c2⟩
      rw [bn_eq]
      refine run_g (S := Sto) (call := fun (g : Sto → Int32 → Int32 → Option (Int32 × Sto)) τ (j : Nat) => g τ (iI (b : Nat)) (iI j)) (N := 500) (I := fun j τ => (∀ i, i < j → τ 94 i = σ 93 (b + 48 + i)) ∧ (∀ k i, k ≠ 94 → τ k i = s k i)) (Post := fun o => OK o _) ?_ ?_ (by unfold FU; omega) (k0 := 0) (by omega) (s := s) ⟨fun i hi => by omega, fun _ _ _ => rfl⟩
      · intro g τ ⟨i1, i2⟩
        show OK (FX12_again_40 ρ 92 (iI (n : Int)) (BX12_again_70 ρ 92 (iI (n : Int))) g τ (iI (b : Nat)) (iI (500 : Nat))) _
        unfold FX12_again_40 BX12_again_70
        rw [if_pos (by decide), hρ.1, ob_some, show iI (b : Int) + (48 : Int32) + (500 : Int32) = iI ((b + 548 : Nat) : Int) by rw [show (48 : Int32) = iI 48 from rfl, show (500 : Int32) = iI 500 from rfl, iI_add, iI_add]; congr 1, ag93c (by omega), ob_some, bn_eq, ob_some, iI_succ, ag93c (by omega), ob_some, bn_eq, ob_some, show iI ((b + 548 : Nat) : Int) + (2 : Int32) = iI ((b + 550 : Nat) : Int) by rw [show (2 : Int32) = iI 2 from rfl, iI_add]; congr 1, ag93c (by omega), ob_some, bn_eq, bn_eq, zr1]
        have T3 : ∀ i, 48 ≤ i → τ 93 i = σ 93 i := fun i hi => by rw [i2 _ _ (by decide), c1, if_neg (by omega)]
        rw [su_k (show (93 : Nat) ≠ 92 by decide), su_k (show (93 : Nat) ≠ 92 by decide), su_k (show (93 : Nat) ≠ 92 by decide), T3 _ (by omega), T3 _ (by omega), T3 _ (by omega), c.2.1, show b + 548 + 1 = b + 549 by omega, c.2.2.2.1, c.2.2.2.2.1]
        generalize hu : su (su (su (su τ 92 3 (iI M.2.2.1)) 92 4 M.2.2.2.1) 92 5 M.2.2.2.2.1) 92 6 (0 : Int32) = u
        have U : ∀ k i, ¬ (k = 92 ∧ 3 ≤ i ∧ i ≤ 6) → k ≠ 94 → ¬ (k = 93 ∧ i < 48) → u k i = σ k i := fun k i x y z => by
          rw [← hu, su_n (by omega), su_n (by omega), su_n (by omega), su_n (by omega), i2 k i y]
          by_cases q : k = 93
          · subst q; rw [c1, if_neg (by omega)]
          · exact c2 k i q
        have U0 : ∀ i, i < 48 → u 93 i = σ 93 (b + i) := fun i hi => by
          rw [← hu, su_k (by decide), su_k (by decide), su_k (by decide), su_k (by decide), i2 _ _ (by decide), c1, if_pos (by omega), Nat.sub_zero]
        have key : MR u (againA A M) := by
          refine ⟨⟨MS_e (b := b) c.1 hM.1.2.1 (fun j hj => ?_), ?_, fun i hi => ?_, ?_, ?_, ?_, ?_⟩, ⟨?_, fun i hi => absurd hi (Nat.not_lt_zero _)⟩, MI_fr h.2.2 hA.2.2.2 (fun i hi => U _ _ (by omega) (by omega) (by omega)) (fun i x y => U _ _ (by omega) (by omega) (by omega))⟩
          · rw [Nat.zero_add, U0 _ (by omega)]
          · rw [← hu, su_i (by decide), su_i (by decide), su_i (by decide), su_s]; rfl
          · rw [← hu, su_k (by decide), su_k (by decide), su_k (by decide), su_k (by decide), i1 i hi]; exact c.2.2.1 i hi
          · rw [← hu, su_i (by decide), su_i (by decide), su_s]; rfl
          · rw [← hu, su_i (by decide), su_s]; rfl
          · rw [U0 _ (by omega)]; exact c.2.2.2.2.2.1
          · rw [U0 _ (by omega)]; exact c.2.2.2.2.2.2
          · rw [← hu, su_s]; rfl
        exact OK.so ⟨rfl, key, fun k i hk => U k i (by unfold ML at hk; omega) (by unfold ML at hk; omega) (by unfold ML at hk; omega)⟩
      · intro g τ j ⟨i1, i2⟩ hj ih
        show OK (FX12_again_40 ρ 92 (iI (n : Int)) (BX12_again_70 ρ 92 (iI (n : Int))) g τ (iI (b : Nat)) (iI j)) _
        unfold FX12_again_40
        rw [if_neg (by rw [show (500 : Int32) = iI ((500 : Nat) : Int) from rfl, iI_leN (by omega) (by omega)]; omega), hρ.2.1, ob_some, hρ.1, ob_some, show iI (b : Int) + (48 : Int32) + iI (j : Int) = iI ((b + 48 + j : Nat) : Int) by rw [show (48 : Int32) = iI 48 from rfl, iI_add, iI_add]; congr 1, ag93c (by omega), ob_some, ap94c hj, ob_some, bn_eq, iI_succ]
        refine ih _ ⟨fun i hi => ?_, fun k' i' hk' => by rw [su_k hk']; exact i2 k' i' hk'⟩
        by_cases q : i = j
        · subst q
          rw [su_s, i2 _ _ (by decide), c1, if_neg (by omega)]
        · rw [su_i q]; exact i1 i (by omega)
  · rw [e, ob_some, if_pos rfl, cs_neg (by omega), zr0]
    exact OK.so ⟨rfl, h, Fr.rf⟩
