/-! THE STATE of both sides -/
abbrev Mo : Type := Sheet × (Nat → Int) × Nat × Int32 × Int32 × Int32 × Int32
abbrev AS : Type := Mo × List Sheet × (Nat → Option Mo)
def sh0 : Sheet := (7, [], fun _ => 0)
def CMo (σ : Sto) (m : Nat) (M : Mo) : Prop := CS σ (m + 1) M.1 ∧ σ (m + 4) 1 = iI M.2.2.1 ∧ (∀ i, i < 500 → σ (m + 5) i &&& 255 = iI (M.2.1 i)) ∧ σ m 2 = M.2.2.2.1 ∧ σ m 3 = M.2.2.2.2.1 ∧ σ m 4 = M.2.2.2.2.2.1 ∧ σ m 5 = M.2.2.2.2.2.2
def MMn (σ : Sto) (M : Mo) : Prop := MS σ 0 M.1 ∧ σ 92 3 = iI M.2.2.1 ∧ (∀ i, i < 500 → σ 94 i = iI (M.2.1 i)) ∧ σ 92 4 = M.2.2.2.1 ∧ σ 92 5 = M.2.2.2.2.1 ∧ σ 93 46 = M.2.2.2.2.2.1 ∧ σ 93 47 = M.2.2.2.2.2.2
def MMi (σ : Sto) (b : Nat) (M : Mo) : Prop := MS σ b M.1 ∧ σ 93 (b + 548) = iI M.2.2.1 ∧ (∀ i, i < 500 → σ 93 (b + 48 + i) = iI (M.2.1 i)) ∧ σ 93 (b + 549) = M.2.2.2.1 ∧ σ 93 (b + 550) = M.2.2.2.2.1 ∧ σ 93 (b + 46) = M.2.2.2.2.2.1 ∧ σ 93 (b + 47) = M.2.2.2.2.2.2
def MOK (M : Mo) : Prop := SOK M.1 ∧ M.2.2.1 ≤ 500 ∧ ∀ i, i < 500 → 0 ≤ M.2.1 i ∧ M.2.1 i ≤ 255
def KP (σ : Sto) (L : List Sheet) : Prop := ∃ nx : Nat, nx < 8 ∧ σ 7 1 = iI nx ∧ σ 7 2 = iI L.length ∧ ∀ i, i < L.length → CS σ (9 + 3 * ((nx + 7 - i) % 8)) (L.getD i sh0)
def MP (σ : Sto) (L : List Sheet) : Prop := σ 92 6 = iI L.length ∧ ∀ i, i < L.length → MS σ (94 + 46 * (L.length - 1 - i)) (L.getD i sh0)
def KI (σ : Sto) (im : Nat → Option Mo) : Prop := ∀ k, k < 3 → (im k = none ∧ σ 52 k = 0) ∨ ∃ M, im k = some M ∧ σ 52 k = 1 ∧ CMo σ (34 + 6 * k) M
def MI (σ : Sto) (im : Nat → Option Mo) : Prop := ∀ k, k < 3 → (im k = none ∧ σ 95 k = 0) ∨ ∃ M, im k = some M ∧ σ 95 k = 1 ∧ MMi σ (462 + 551 * k) M
def AOK (A : AS) : Prop := MOK A.1 ∧ (∀ S ∈ A.2.1, SOK S) ∧ A.2.1.length ≤ 8 ∧ ∀ k M, k < 3 → A.2.2 k = some M → MOK M
def KR (σ : Sto) (A : AS) : Prop := CMo σ 1 A.1 ∧ KP σ A.2.1 ∧ KI σ A.2.2
def MR (σ : Sto) (A : AS) : Prop := MMn σ A.1 ∧ MP σ A.2.1 ∧ MI σ A.2.2
theorem MS_e {σ σ' : Sto} {b b' : Nat} {S : Sheet} (h : MS σ b S) (hl : S.2.1.length ≤ 8) (e : ∀ i, i < 46 → σ' 93 (b' + i) = σ 93 (b + i)) : MS σ' b' S := by
  obtain ⟨h1, h2, h3, h4⟩ := h
  refine ⟨(e 36 (by omega)).trans h1, (e 37 (by omega)).trans h2, fun i hi => (e i (by omega)).trans (h3 i hi), fun k hk => ?_⟩
  rw [← h4 k hk]
  have := e (38 + k) (by omega)
  rw [show b' + 38 + k = b' + (38 + k) by omega, show b + 38 + k = b + (38 + k) by omega]; exact this
theorem CS_e {σ σ' : Sto} {s s' : Nat} {S : Sheet} (h : CS σ s S) (hl : S.2.1.length ≤ 8) (e0 : σ' s' 0 = σ s 0) (e1 : σ' s' 1 = σ s 1) (e2 : ∀ i, i < 8 → σ' (s' + 1) i = σ (s + 1) i) (e3 : ∀ i, i < 36 → σ' (s' + 2) i = σ (s + 2) i) : CS σ' s' S := by
  obtain ⟨h1, h2, h3, h4⟩ := h
  exact ⟨e0.trans h1, e1.trans h2, fun i hi => (e3 i hi).trans (h3 i hi), fun k hk => (e2 k (by omega)).trans (h4 k hk)⟩
theorem CMo_fr {σ σ' : Sto} {m : Nat} {M : Mo} (h : CMo σ m M) (e : ∀ k i, m ≤ k → k ≤ m + 5 → σ' k i = σ k i) : CMo σ' m M := by
  obtain ⟨h1, h2, h3, h4, h5, h6, h7⟩ := h
  exact ⟨CS_k h1 (fun i => e _ _ (by omega) (by omega)) (fun i => e _ _ (by omega) (by omega)) (fun i => e _ _ (by omega) (by omega)), (e _ _ (by omega) (by omega)).trans h2, fun i hi => by rw [e _ _ (by omega) (by omega)]; exact h3 i hi, (e _ _ (by omega) (by omega)).trans h4, (e _ _ (by omega) (by omega)).trans h5, (e _ _ (by omega) (by omega)).trans h6, (e _ _ (by omega) (by omega)).trans h7⟩
theorem KP_fr {σ σ' : Sto} {L : List Sheet} (h : KP σ L) (e : ∀ k i, 7 ≤ k → k ≤ 32 → σ' k i = σ k i) : KP σ' L := by
  obtain ⟨nx, h1, h2, h3, h4⟩ := h
  refine ⟨nx, h1, (e _ _ (by omega) (by omega)).trans h2, (e _ _ (by omega) (by omega)).trans h3, fun i hi => ?_⟩
  have : (nx + 7 - i) % 8 < 8 := Nat.mod_lt _ (by omega)
  exact CS_k (h4 i hi) (fun j => e _ _ (by omega) (by omega)) (fun j => e _ _ (by omega) (by omega)) (fun j => e _ _ (by omega) (by omega))
theorem KI_fr {σ σ' : Sto} {im : Nat → Option Mo} (h : KI σ im) (e : ∀ k i, 34 ≤ k → k ≤ 52 → σ' k i = σ k i) : KI σ' im := by
  intro k hk
  rcases h k hk with ⟨a, b⟩ | ⟨M, a, b, c⟩
  · exact Or.inl ⟨a, (e _ _ (by omega) (by omega)).trans b⟩
  · exact Or.inr ⟨M, a, (e _ _ (by omega) (by omega)).trans b, CMo_fr c (fun k' i h1 h2 => e _ _ (by omega) (by omega))⟩
theorem KR_fr {σ σ' : Sto} {A : AS} (h : KR σ A) (e : ∀ k i, k < 53 → σ' k i = σ k i) : KR σ' A :=
  ⟨CMo_fr h.1 (fun k i _ _ => e _ _ (by omega)), KP_fr h.2.1 (fun k i _ _ => e _ _ (by omega)), KI_fr h.2.2 (fun k i _ _ => e _ _ (by omega))⟩
theorem KR_sc {σ σ' : Sto} {A : AS} (h : KR σ A) (hf : Fr SC σ σ') : KR σ' A := KR_fr h (fun k i hk => hf k i (by unfold SC; omega))
theorem MP_fr {σ σ' : Sto} {L : List Sheet} (h : MP σ L) (hL : ∀ S ∈ L, S.2.1.length ≤ 8) (h8 : L.length ≤ 8) (e : σ' 92 6 = σ 92 6) (e2 : ∀ i, 94 ≤ i → i < 462 → σ' 93 i = σ 93 i) : MP σ' L := by
  refine ⟨e.trans h.1, fun i hi => ?_⟩
  have hm : L.getD i sh0 ∈ L := by
    rw [List.getD_eq_getElem?_getD, List.getElem?_eq_getElem hi]; exact List.getElem_mem hi
  exact MS_e (h.2 i hi) (hL _ hm) (fun j hj => e2 _ (by omega) (by omega))
theorem MMi_fr {σ σ' : Sto} {b : Nat} {M : Mo} (h : MMi σ b M) (hl : M.1.2.1.length ≤ 8) (e : ∀ i, b ≤ i → i < b + 551 → σ' 93 i = σ 93 i) : MMi σ' b M := by
  obtain ⟨h1, h2, h3, h4, h5, h6, h7⟩ := h
  exact ⟨MS_e h1 hl (fun j hj => e _ (by omega) (by omega)), (e _ (by omega) (by omega)).trans h2, fun i hi => (e _ (by omega) (by omega)).trans (h3 i hi), (e _ (by omega) (by omega)).trans h4, (e _ (by omega) (by omega)).trans h5, (e _ (by omega) (by omega)).trans h6, (e _ (by omega) (by omega)).trans h7⟩
theorem MI_fr {σ σ' : Sto} {im : Nat → Option Mo} (h : MI σ im) (hM : ∀ k M, k < 3 → im k = some M → MOK M) (e : ∀ i, i < 3 → σ' 95 i = σ 95 i) (e2 : ∀ i, 462 ≤ i → i < 2115 → σ' 93 i = σ 93 i) : MI σ' im := by
  intro k hk
  rcases h k hk with ⟨a, b⟩ | ⟨M, a, b, c⟩
  · exact Or.inl ⟨a, (e k hk).trans b⟩
  · exact Or.inr ⟨M, a, (e k hk).trans b, MMi_fr c (hM k M hk a).1.2.1 (fun i h1 h2 => e2 i (by omega) (by omega))⟩
theorem MR_fr {σ σ' : Sto} {A : AS} (hA : AOK A) (h : MR σ A) (e : ∀ k i, 92 ≤ k → ¬ SC k i → σ' k i = σ k i) : MR σ' A := by
  obtain ⟨⟨h1, h2, h3, h4, h5, h6, h7⟩, hp, hi⟩ := h
  obtain ⟨a1, a2, a3, a4⟩ := hA
  have E : ∀ i, i < 48 ∨ 94 ≤ i → σ' 93 i = σ 93 i := fun i hi => e _ _ (by omega) (by unfold SC; omega)
  refine ⟨⟨MS_e h1 a1.1.2.1 (fun j hj => E _ (by omega)), (e _ _ (by omega) (by unfold SC; omega)).trans h2, fun i hi => (e _ _ (by omega) (by unfold SC; omega)).trans (h3 i hi), (e _ _ (by omega) (by unfold SC; omega)).trans h4, (e _ _ (by omega) (by unfold SC; omega)).trans h5, (E _ (by omega)).trans h6, (E _ (by omega)).trans h7⟩, MP_fr hp (fun S hS => (a2 S hS).2.1) a3 (e _ _ (by omega) (by unfold SC; omega)) (fun i h1 h2 => E _ (by omega)), MI_fr hi a4 (fun i hi => e _ _ (by omega) (by unfold SC; omega)) (fun i h1 h2 => E _ (by omega))⟩
theorem MR_sc {σ σ' : Sto} {A : AS} (hA : AOK A) (h : MR σ A) (hf : Fr SC σ σ') : MR σ' A := MR_fr hA h (fun k i _ hn => hf k i hn)
/-- the class's cells; the reference's cells -/
def CL (k _i : Nat) : Prop := k < 92
def ML (k _i : Nat) : Prop := 92 ≤ k
theorem MR_cl {σ σ' : Sto} {A : AS} (hA : AOK A) (h : MR σ A) (hf : Fr CL σ σ') : MR σ' A := MR_fr hA h (fun k i hk _ => hf k i (by unfold CL; omega))
theorem KR_ml {σ σ' : Sto} {A : AS} (h : KR σ A) (hf : Fr ML σ σ') : KR σ' A := KR_fr h (fun k i hk => hf k i (by unfold ML; omega))
def Rel (σ : Sto) (ρ : Rho) (A : AS) : Prop := Dk ρ ∧ Md ρ ∧ Pm ρ ∧ AOK A ∧ KR σ A ∧ MR σ A
theorem Rel.qv {σ : Sto} {ρ : Rho} {A : AS} (h : Rel σ ρ A) : QV σ ρ A.1.1 := ⟨h.1, h.2.1, h.2.2.1, h.2.2.2.1.1.1, h.2.2.2.2.1.1.1, h.2.2.2.2.2.1.1⟩
theorem Rel.sc {σ σ' : Sto} {ρ ρ' : Rho} {A : AS} (h : Rel σ ρ A) (hf : Fr SC σ σ') (hr : RFr ρ ρ') (hp : Pm ρ') : Rel σ' ρ' A := ⟨h.1.fr hr, h.2.1.fr hr, hp, h.2.2.2.1, KR_sc h.2.2.2.2.1 hf, MR_sc h.2.2.2.1 h.2.2.2.2.2 hf⟩
/-- copies in the reference's row -/
theorem m_copies {σ : Sto} {ρ : Rho} {f t n : Nat} (hρ : Md ρ) (hf : f + n ≤ 2115) (ht : t + n ≤ 2115) (hd : t ≤ f ∨ f + n ≤ t) : OK (MX12_copies σ ρ 92 (iI f) (iI t) (iI n)) (fun s => (∀ i, s 93 i = if t ≤ i ∧ i < t + n then σ 93 (f + (i - t)) else σ 93 i) ∧ ∀ k i, k ≠ 93 → s k i = σ k i) := by
  unfold MX12_copies
  rw [bn_eq]
  refine run_g (S := Sto) (call := fun (g : Sto → Int32 → Option Sto) s (k : Nat) => g s (iI k)) (N := n) (I := fun k s => (∀ i, s 93 i = if t ≤ i ∧ i < t + k then σ 93 (f + (i - t)) else σ 93 i) ∧ ∀ k i, k ≠ 93 → s k i = σ k i) (Post := fun o => OK o _) ?_ ?_ (by unfold FU; omega) (k0 := 0) (by omega) (s := σ) ⟨fun i => by rw [if_neg (by omega)], fun _ _ _ => rfl⟩
  · intro g s ⟨i1, i2⟩
    unfold FX12_copies_3
    rw [if_pos (by rw [iI_leN (by omega) (by omega)]; omega)]
    exact OK.so ⟨i1, i2⟩
  · intro g s k ⟨i1, i2⟩ hk ih
    show OK (FX12_copies_3 ρ 92 (iI f) (iI t) (iI n) g s (iI k)) _
    unfold FX12_copies_3
    rw [if_neg (by rw [iI_leN (by omega) (by omega)]; omega), hρ.1, ob_some, ob_some, iI_add, ag93i (by omega) (by omega), ob_some, iI_add, ap93i (by omega) (by omega), ob_some, bn_eq, iI_succ, show ((f : Int) + k).toNat = f + k by omega, show ((t : Int) + k).toNat = t + k by omega]
    refine ih _ ⟨fun i => ?_, fun k' i' hk' => ?_⟩
    · by_cases c : i = t + k
      · subst c
        rw [su_s, i1, if_neg (by omega), if_pos (by omega), show f + (t + k - t) = f + k by omega]
      · rw [su_i c, i1]
        by_cases c2 : t ≤ i ∧ i < t + k
        · rw [if_pos c2, if_pos (by omega)]
        · rw [if_neg c2, if_neg (by omega)]
    · rw [su_k hk']; exact i2 k' i' hk'
/-- the class's copy of a sheet -/
theorem c_copyS {σ : Sto} {ρ : Rho} {d s : Nat} {S : Sheet} (hrs : Sr ρ s) (hrd : Sr ρ d) (hne : d + 2 < s ∨ s + 2 < d) (hl : S.2.1.length ≤ 8) (h : CS σ s S) : OK (MX8_copy σ ρ d s) (fun s' => CS s' d S ∧ ∀ k i, k ≠ d → k ≠ d + 1 → k ≠ d + 2 → s' k i = σ k i) := by
  obtain ⟨r2, r3, l8, l36⟩ := hrs
  obtain ⟨d2, d3, dl8, dl36⟩ := hrd
  have cp : ∀ (τ : Sto) (a c m : Nat), ln a = m → ln c = m → m ≤ 500 → cpa τ a (0 : Int32) c (0 : Int32) (iI (m : Nat)) = some (cpf τ a 0 c 0 m) := by
    intro τ a c m ha hc hm
    unfold cpa
    have z : ((0 : Int32)).toNatClampNeg = 0 := rfl
    have e : (iI (m : Nat)).toNatClampNeg = m := by rw [iI_cl ⟨by omega, by omega⟩]; rfl
    rw [if_neg, z, e]
    rw [z, e, show (0 : Int32) = iI 0 from rfl, iI_lt ⟨by omega, by omega⟩ ⟨by omega, by omega⟩, iI_lt ⟨by omega, by omega⟩ ⟨by omega, by omega⟩]
    omega
  have c8 := fun τ => cp τ (s + 1) (d + 1) 8 l8 dl8 (by omega)
  have c36 := fun τ => cp τ (s + 2) (d + 2) 36 l36 dl36 (by omega)
  unfold MX8_copy
  rw [bn_eq, bn_eq, r2, ob_some, d2, ob_some, show (8 : Int32) = iI ((8 : Nat) : Int) from rfl, c8, ob_some, r3, ob_some, d3, ob_some, show (36 : Int32) = iI ((36 : Nat) : Int) from rfl, c36, ob_some]
  refine OK.so ⟨CS_e h hl ?_ ?_ (fun i hi => ?_) (fun i hi => ?_), fun k i h1 h2 h3 => ?_⟩
  · unfold cpf
    rw [if_neg (by omega), if_neg (by omega), su_i (by decide), su_s]
  · unfold cpf
    rw [if_neg (by omega), if_neg (by omega), su_s, su_k (by omega)]
  · unfold cpf
    rw [if_neg (by omega), if_pos (by omega), Nat.zero_add, Nat.sub_zero, su_k (by omega), su_k (by omega)]
  · unfold cpf
    rw [if_pos (by omega), if_neg (by omega), Nat.zero_add, Nat.sub_zero, su_k (by omega), su_k (by omega)]
  · unfold cpf
    rw [if_neg (by omega), if_neg (by omega), su_k h1, su_k h1]
theorem Sr_ring {ρ : Rho} (h : Dk ρ) {j : Nat} (hj : j < 8) : Sr ρ (9 + 3 * j) := by
  obtain ⟨a, b⟩ := dk_ringS h hj
  have : ∀ j, j < 8 → ln (9 + 3 * j + 1) = 8 ∧ ln (9 + 3 * j + 2) = 36 := by decide +kernel
  exact ⟨a, b, (this j hj).1, (this j hj).2⟩
theorem ln8 : ln 8 = 8 := by decide +kernel
theorem rg8 {ρ : Rho} {n : Nat} (hn : n < 8) : rg ρ 8 (iI n) = ρ 8 n := by
  unfold rg
  have hr : rg32 (n : Int) := ⟨by omega, by omega⟩
  rw [if_neg, iI_cl hr]; rfl
  rw [iI_cl hr, ln8, show (0 : Int32) = iI 0 from rfl, iI_lt hr ⟨by omega, by omega⟩]
  omega
theorem getD_take {L : List Sheet} {n i : Nat} (h : i < n) : (L.take n).getD i sh0 = L.getD i sh0 := by
  rw [List.getD_eq_getElem?_getD, List.getD_eq_getElem?_getD, List.getElem?_take, if_pos h]
/-- a sheet kept: the class -/
theorem k_keep {σ : Sto} {ρ : Rho} {L : List Sheet} {S : Sheet} (hD : Dk ρ) (hl : S.2.1.length ≤ 8) (hL : ∀ T ∈ L, T.2.1.length ≤ 8) (h8 : L.length ≤ 8) (hC : CS σ 2 S) (hP : KP σ L) : OK (MX5_keep σ ρ 7 2) (fun s => KP s ((S :: L).take 8) ∧ ∀ k i, k ≠ 7 → (k < 9 ∨ 32 < k) → s k i = σ k i) := by
  obtain ⟨nx, h1, h2, h3, h4⟩ := hP
  unfold MX5_keep
  have hx : rg32 (nx : Int) := ⟨by omega, by omega⟩
  have q1 : ¬ (σ 7 1 < 0) := by rw [h2, w0, iI_lt hx ⟨by omega, by omega⟩]; omega
  have q2 : σ 7 1 < (8 : Int32) := by rw [h2, w8, iI_lt hx ⟨by omega, by omega⟩]; omega
  rw [if_neg q1, if_pos q2, dk_7_0 hD, ob_some, h2, rg8 h1, dk_ring hD h1, ob_some]
  refine OK.bi (c_copyS (d := 9 + 3 * nx) (Sr_2 hD) (Sr_ring hD h1) (by omega) hl hC) ?_
  intro s ⟨g1, g2⟩
  have e1 : s 7 1 = iI nx := by rw [g2 7 1 (by omega) (by omega) (by omega)]; exact h2
  have e2 : s 7 2 = iI L.length := by rw [g2 7 2 (by omega) (by omega) (by omega)]; exact h3
  have B : ∀ nx' : Nat, nx' < 8 → nx' = (nx + 1) % 8 → OK (BX5_keep_52 ρ 7 2 s 7 (iI nx')) (fun s => KP s ((S :: L).take 8) ∧ ∀ k i, k ≠ 7 → (k < 9 ∨ 32 < k) → s k i = σ k i) := by
    intro nx' hn1 hn2
    unfold BX5_keep_52 MJ9_min_7cf53
    rw [bn_eq, su_i (show (2 : Nat) ≠ 1 by decide), e2, iI_succ]
    have key : ∀ v : Nat, v = min (L.length + 1) 8 → OK (bn (su (su s 7 1 (iI nx')) 7 2 (iI v)) fun σ3 => some σ3) (fun s => KP s ((S :: L).take 8) ∧ ∀ k i, k ≠ 7 → (k < 9 ∨ 32 < k) → s k i = σ k i) := by
      intro v hv
      rw [bn_eq]
      have hlen : ((S :: L).take 8).length = v := by rw [List.length_take, List.length_cons, hv]; omega
      refine OK.so ⟨⟨nx', hn1, by rw [su_i (by decide), su_s], by rw [su_s, hlen], fun i hi => ?_⟩, fun k i k1 k2 => ?_⟩
      · rw [hlen] at hi
        rw [getD_take (by omega)]
        have fr : ∀ k j, k ≠ 7 → su (su s 7 1 (iI nx')) 7 2 (iI v) k j = s k j := fun k j hk => by rw [su_k hk, su_k hk]
        by_cases c : i = 0
        · subst c
          have e : (nx' + 7 - 0) % 8 = nx := by omega
          rw [e]
          exact CS_k g1 (fun j => fr _ _ (by omega)) (fun j => fr _ _ (by omega)) (fun j => fr _ _ (by omega))
        · obtain ⟨j, rfl⟩ : ∃ j, i = j + 1 := ⟨i - 1, by omega⟩
          have e : (nx' + 7 - (j + 1)) % 8 = (nx + 7 - j) % 8 := by omega
          have hne : (nx + 7 - j) % 8 ≠ nx := by omega
          have hlt : (nx + 7 - j) % 8 < 8 := Nat.mod_lt _ (by omega)
          rw [e]
          have hj := h4 j (by omega)
          exact CS_k hj (fun i => (fr _ _ (by omega)).trans (g2 _ _ (by omega) (by omega) (by omega))) (fun i => (fr _ _ (by omega)).trans (g2 _ _ (by omega) (by omega) (by omega))) (fun i => (fr _ _ (by omega)).trans (g2 _ _ (by omega) (by omega) (by omega)))
      · rw [su_k k1, su_k k1]; exact g2 _ _ (by omega) (by omega) (by omega)
    by_cases c : 8 < L.length + 1
    · rw [if_pos (by rw [w8, iI_lt ⟨by omega, by omega⟩ ⟨by omega, by omega⟩]; omega), ob_some]
      exact key 8 (by omega)
    · rw [if_neg (by rw [w8, iI_lt ⟨by omega, by omega⟩ ⟨by omega, by omega⟩]; omega), ob_some]
      exact key (L.length + 1) (by omega)
  by_cases c : 8 ≤ nx + 1
  · rw [if_pos (by rw [e1, iI_succ, w8, iI_leN (by omega) (by omega)]; exact c)]
    exact B 0 (by omega) (by omega)
  · rw [if_neg (by rw [e1, iI_succ, w8, iI_leN (by omega) (by omega)]; exact c), e1, iI_succ]
    exact B (nx + 1) (by omega) (by omega)
/-- a sheet kept: the reference -/
theorem m_keeps {σ : Sto} {ρ : Rho} {L : List Sheet} {S : Sheet} (hρ : Md ρ) (hl : S.2.1.length ≤ 8) (hL : ∀ T ∈ L, T.2.1.length ≤ 8) (h8 : L.length ≤ 8) (hM : MS σ 0 S) (hP : MP σ L) : OK (MX12_keeps σ ρ 92) (fun s => MP s ((S :: L).take 8) ∧ (∀ i, i < 94 ∨ 462 ≤ i → s 93 i = σ 93 i) ∧ ∀ k i, k ≠ 93 → ¬ (k = 92 ∧ i = 6) → s k i = σ k i) := by
  obtain ⟨p1, p2⟩ := hP
  have gm : ∀ (L : List Sheet) i, i < L.length → L.getD i sh0 ∈ L := fun L i hi => by
    rw [List.getD_eq_getElem?_getD, List.getElem?_eq_getElem hi]; exact List.getElem_mem hi
  -- the end of it: u sheets are there
  have B : ∀ (τ : Sto) (u : Nat), u < 8 → u ≤ L.length → τ 92 6 = iI u → (∀ i, i < u → MS τ (94 + 46 * (u - 1 - i)) (L.getD i sh0)) → (∀ i, i < 94 ∨ 462 ≤ i → τ 93 i = σ 93 i) → (∀ k i, k ≠ 93 → ¬ (k = 92 ∧ i = 6) → τ k i = σ k i) → (u = min L.length 7) → OK (BX12_keeps_31 ρ 92 τ) (fun s => MP s ((S :: L).take 8) ∧ (∀ i, i < 94 ∨ 462 ≤ i → s 93 i = σ 93 i) ∧ ∀ k i, k ≠ 93 → ¬ (k = 92 ∧ i = 6) → s k i = σ k i) := by
    intro τ u hu huL t1 t2 t3 t4 hmin
    unfold BX12_keeps_31
    have hc := m_copies (σ := τ) (f := 0) (t := 94 + 46 * u) (n := 46) hρ (by omega) (by omega) (by omega)
    rw [t1, show (94 : Int32) + (46 : Int32) * iI u = iI ((94 + 46 * u : Nat) : Int) by rw [show (94 : Int32) = iI 94 from rfl, show (46 : Int32) = iI 46 from rfl, iI_mul, iI_add]; congr 1]
    refine OK.bi hc ?_
    intro s ⟨c1, c2⟩
    rw [bn_eq, show s 92 6 = iI u from (c2 92 6 (by decide)).trans t1, iI_succ]
    have hlen : ((S :: L).take 8).length = u + 1 := by rw [List.length_take, List.length_cons, hmin]; omega
    refine OK.so ⟨⟨by rw [su_s, hlen], fun i hi => ?_⟩, fun i hi => ?_, fun k i k1 k2 => ?_⟩
    · rw [hlen] at hi ⊢
      rw [getD_take (by omega)]
      by_cases c : i = 0
      · subst c
        refine MS_e hM hl (fun j hj => ?_)
        rw [su_k (by decide), c1, if_pos (by omega), t3 _ (by omega)]
        congr 1; omega
      · obtain ⟨j, rfl⟩ : ∃ j, i = j + 1 := ⟨i - 1, by omega⟩
        rw [show u + 1 - 1 - (j + 1) = u - 1 - j by omega]
        refine MS_e (t2 j (by omega)) (hL _ (gm L j (by omega))) (fun j' hj' => ?_)
        rw [su_k (by decide), c1, if_neg (by omega)]
    · rw [su_k (by decide), c1, if_neg (by omega)]; exact t3 i hi
    · rw [su_n (by omega), c2 k i k1]; exact t4 k i k1 k2
  unfold MX12_keeps
  by_cases c : L.length = 8
  · have hc := m_copies (σ := σ) (f := 140) (t := 94) (n := 322) hρ (by omega) (by omega) (by omega)
    rw [if_pos (by rw [p1, c]; rfl)]
    refine OK.bi hc ?_
    intro s ⟨c1, c2⟩
    rw [bn_eq, show s 92 6 = iI L.length from (c2 92 6 (by decide)).trans p1, show iI (L.length : Int) - (1 : Int32) = iI ((7 : Nat) : Int) by rw [c]; rfl]
    refine B _ 7 (by omega) (by omega) su_s (fun i hi => ?_) (fun i hi => ?_) (fun k i k1 k2 => ?_) (by omega)
    · refine MS_e (p2 i (by omega)) (hL _ (gm L i (by omega))) (fun j hj => ?_)
      rw [su_k (by decide), c1, if_pos (by omega), c]
      congr 1; omega
    · rw [su_k (by decide), c1, if_neg (by omega)]
    · rw [su_n (by omega), c2 k i k1]
  · rw [if_neg (by rw [p1, w8, iI_eqN (by omega) (by omega)]; exact c)]
    exact B σ L.length (by omega) (by omega) p1 p2 (fun _ _ => rfl) (fun _ _ _ _ => rfl) (by omega)
