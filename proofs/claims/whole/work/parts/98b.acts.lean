/-! ACTS: how they end -/
noncomputable def cs {α : Type} (P : Prop) (x y : α) : α := @ite α P (Classical.propDecidable P) x y
theorem cs_pos {α : Type} {P : Prop} {x y : α} (h : P) : cs P x y = x := @if_pos P (Classical.propDecidable P) h α x y
theorem cs_neg {α : Type} {P : Prop} {x y : α} (h : ¬ P) : cs P x y = y := @if_neg P (Classical.propDecidable P) h α x y
def refA (A : AS) (r c : Int32) : AS := ((A.1.1, A.1.2.1, A.1.2.2.1, A.1.2.2.2.1, A.1.2.2.2.2.1, r, c), A.2)
def accA (A : AS) (S : Sheet) : AS := ((S, A.1.2.1, A.1.2.2.1, A.1.2.2.2.1, A.1.2.2.2.2.1, 0, 0), (A.1.1 :: A.2.1).take 8, A.2.2)
def setC (S : Sheet) (c : Nat) (v : Nat → Int) : Sheet := (S.1, S.2.1, fun i => if 6 * c ≤ i ∧ i < 6 * c + 6 then v (i - 6 * c) else S.2.2 i)
theorem AOK_ref {A : AS} (h : AOK A) (r c : Int32) : AOK (refA A r c) := ⟨⟨h.1.1, h.1.2.1, h.1.2.2⟩, h.2.1, h.2.2.1, h.2.2.2⟩
theorem AOK_acc {A : AS} {S : Sheet} (h : AOK A) (hS : SOK S) : AOK (accA A S) := by
  refine ⟨⟨hS, h.1.2.1, h.1.2.2⟩, fun T hT => ?_, ?_, h.2.2.2⟩
  · have := List.mem_of_mem_take hT
    rcases List.mem_cons.mp this with e | e
    · rw [e]; exact h.1.1
    · exact h.2.1 T e
  · show ((A.1.1 :: A.2.1).take 8).length ≤ 8
    rw [List.length_take]; omega
theorem past8 {A : AS} (h : AOK A) : ∀ T ∈ A.2.1, T.2.1.length ≤ 8 := fun T hT => (h.2.1 T hT).2.1
theorem k_refuse {σ : Sto} {ρ : Rho} {A : AS} {r c : Int32} (hD : Dk ρ) (h : KR σ A) : OK (MX11_refuse σ ρ 0 r c) (fun o => o.1 = r ∧ KR o.2 (refA A r c) ∧ Fr CL σ o.2) := by
  unfold MX11_refuse
  rw [dk_0_0 hD, ob_some, bn_eq, ob_some, bn_eq]
  have fr : ∀ k i, k ≠ 1 → su (su σ 1 4 r) 1 5 c k i = σ k i := fun k i hk => by rw [su_k hk, su_k hk]
  obtain ⟨⟨h1, h2, h3, h4, h5, h6, h7⟩, hp, hi⟩ := h
  have key : KR (su (su σ 1 4 r) 1 5 c) (refA A r c) := by
    refine ⟨⟨CS_k h1 (fun i => fr _ _ (by decide)) (fun i => fr _ _ (by decide)) (fun i => fr _ _ (by decide)), (fr _ _ (by decide)).trans h2, fun i hi => by rw [fr _ _ (by decide)]; exact h3 i hi, ?_, ?_, ?_, ?_⟩, KP_fr hp (fun k i h1 h2 => fr _ _ (by omega)), KI_fr hi (fun k i h1 h2 => fr _ _ (by omega))⟩
    · rw [su_i (by decide), su_i (by decide)]; exact h4
    · rw [su_i (by decide), su_i (by decide)]; exact h5
    · rw [su_i (by decide), su_s]; rfl
    · rw [su_s]; rfl
  exact OK.so ⟨rfl, key, fun k i hk => fr k i (by unfold CL at hk; omega)⟩
theorem ap93c {σ : Sto} {x : Int32} {n : Nat} (h : n < 2115) : ap σ 93 (iI n) x = some (su σ 93 n x) := by
  rw [ap93i (by omega) (by omega)]; rfl
theorem m_refused {σ : Sto} {ρ : Rho} {A : AS} {r c : Int32} (hρ : Md ρ) (hA : AOK A) (h : MR σ A) : OK (MX12_refused σ ρ 92 r c) (fun o => o.1 = r ∧ MR o.2 (refA A r c) ∧ Fr ML σ o.2) := by
  have fr : ∀ k i, k ≠ 93 ∨ (i ≠ 46 ∧ i ≠ 47) → su (su σ 93 46 r) 93 47 c k i = σ k i := fun k i hk => by rw [su_n (by omega), su_n (by omega)]
  unfold MX12_refused
  rw [hρ.1, ob_some, show (46 : Int32) = iI ((46 : Nat) : Int) from rfl, ap93c (by omega), ob_some, ob_some, show (47 : Int32) = iI ((47 : Nat) : Int) from rfl, ap93c (by omega), ob_some]
  obtain ⟨⟨h1, h2, h3, h4, h5, h6, h7⟩, hp, hi⟩ := h
  have key : MR (su (su σ 93 46 r) 93 47 c) (refA A r c) := by
    refine ⟨⟨MS_e h1 hA.1.1.2.1 (fun j hj => fr _ _ (by omega)), (fr _ _ (by omega)).trans h2, fun i hi => (fr _ _ (by omega)).trans (h3 i hi), (fr _ _ (by omega)).trans h4, (fr _ _ (by omega)).trans h5, ?_, ?_⟩, MP_fr hp (past8 hA) hA.2.2.1 (fr _ _ (by omega)) (fun i h1 h2 => fr _ _ (by omega)), MI_fr hi hA.2.2.2 (fun i hi => fr _ _ (by omega)) (fun i h1 h2 => fr _ _ (by omega))⟩
    · rw [su_i (by decide), su_s]; rfl
    · rw [su_s]; rfl
  exact OK.so ⟨rfl, key, fun k i hk => fr k i (by unfold ML at hk; omega)⟩
/-- an act done -/
theorem k_accept {σ0 σ : Sto} {ρ : Rho} {A : AS} {S : Sheet} (hD : Dk ρ) (h : KR σ0 A) (hC : CS σ 2 S) (hP : KP σ ((A.1.1 :: A.2.1).take 8)) (e : ∀ k i, (k < 2 ∨ (5 ≤ k ∧ k ≤ 6) ∨ (33 ≤ k ∧ k ≤ 52) ∨ 92 ≤ k) → σ k i = σ0 k i) : OK (MX11_accept σ ρ 0) (fun o => o.1 = 0 ∧ KR o.2 (accA A S) ∧ Fr CL σ0 o.2) := by
  unfold MX11_accept
  rw [dk_0_0 hD, ob_some, bn_eq, ob_some, bn_eq]
  have fr : ∀ k i, k ≠ 1 → su (su σ 1 4 (0 : Int32)) 1 5 (0 : Int32) k i = σ k i := fun k i hk => by rw [su_k hk, su_k hk]
  obtain ⟨⟨h1, h2, h3, h4, h5, h6, h7⟩, hp, hi⟩ := h
  have key : KR (su (su σ 1 4 (0 : Int32)) 1 5 (0 : Int32)) (accA A S) := by
    refine ⟨⟨CS_k hC (fun i => fr _ _ (by decide)) (fun i => fr _ _ (by decide)) (fun i => fr _ _ (by decide)), ((fr _ _ (by decide)).trans (e _ _ (by omega))).trans h2, fun i hi => by rw [fr _ _ (by decide), e _ _ (by omega)]; exact h3 i hi, ?_, ?_, ?_, ?_⟩, KP_fr hP (fun k i h1 h2 => fr _ _ (by omega)), KI_fr hi (fun k i h1 h2 => (fr _ _ (by omega)).trans (e _ _ (by omega)))⟩
    · rw [su_i (by decide), su_i (by decide), e _ _ (by omega)]; exact h4
    · rw [su_i (by decide), su_i (by decide), e _ _ (by omega)]; exact h5
    · rw [su_i (by decide), su_s]; rfl
    · rw [su_s]; rfl
  exact OK.so ⟨rfl, key, fun k i hk => (fr k i (by unfold CL at hk; omega)).trans (e _ _ (by unfold CL at hk; omega))⟩
theorem m_accept {σ0 σ : Sto} {ρ : Rho} {A : AS} {S : Sheet} (hρ : Md ρ) (hA : AOK A) (hS : SOK S) (h : MR σ0 A) (hM : MS σ 0 S) (hP : MP σ ((A.1.1 :: A.2.1).take 8)) (e : ∀ i, 462 ≤ i → σ 93 i = σ0 93 i) (e2 : ∀ k i, k ≠ 93 → (k < 92 ∨ ¬ SC k i) → ¬ (k = 92 ∧ i = 6) → σ k i = σ0 k i) : OK (MX12_refused σ ρ 92 (0 : Int32) (0 : Int32)) (fun o => o.1 = 0 ∧ MR o.2 (accA A S) ∧ Fr ML σ0 o.2) := by
  have fr : ∀ k i, k ≠ 93 ∨ (i ≠ 46 ∧ i ≠ 47) → su (su σ 93 46 (0 : Int32)) 93 47 (0 : Int32) k i = σ k i := fun k i hk => by rw [su_n (by omega), su_n (by omega)]
  have hA' := AOK_acc hA hS
  unfold MX12_refused
  rw [hρ.1, ob_some, show (46 : Int32) = iI ((46 : Nat) : Int) from rfl, ap93c (by omega), ob_some, ob_some, show (47 : Int32) = iI ((47 : Nat) : Int) from rfl, ap93c (by omega), ob_some]
  obtain ⟨⟨h1, h2, h3, h4, h5, h6, h7⟩, hp, hi⟩ := h
  have E : ∀ k i, k ≠ 93 → (k < 92 ∨ ¬ SC k i) → ¬ (k = 92 ∧ i = 6) → su (su σ 93 46 (0 : Int32)) 93 47 (0 : Int32) k i = σ0 k i := fun k i a b c => (fr k i (by omega)).trans (e2 k i a b c)
  have key : MR (su (su σ 93 46 (0 : Int32)) 93 47 (0 : Int32)) (accA A S) := by
    refine ⟨⟨MS_e hM hS.2.1 (fun j hj => fr _ _ (by omega)), (E _ _ (by omega) (by unfold SC; omega) (by omega)).trans h2, fun i hi => (E _ _ (by omega) (by unfold SC; omega) (by omega)).trans (h3 i hi), (E _ _ (by omega) (by unfold SC; omega) (by omega)).trans h4, (E _ _ (by omega) (by unfold SC; omega) (by omega)).trans h5, ?_, ?_⟩, MP_fr hP (past8 hA') hA'.2.2.1 (fr _ _ (by omega)) (fun i h1 h2 => fr _ _ (by omega)), MI_fr hi hA.2.2.2 (fun i hi => E _ _ (by omega) (by unfold SC; omega) (by omega)) (fun i h1 h2 => (fr _ _ (by omega)).trans (e i h1))⟩
    · rw [su_i (by decide), su_s]; rfl
    · rw [su_s]; rfl
  refine OK.so ⟨rfl, key, fun k i hk => ?_⟩
  have hk' : k < 92 := by unfold ML at hk; omega
  exact E k i (by omega) (Or.inl hk') (by omega)
/-- a conic becomes another -/
theorem c_write {σ : Sto} {ρ : Rho} {s c f : Nat} {S : Sheet} {v : Nat → Int} (hr : Sr ρ s) (hC : CS σ s S) (hc : c < 6) (hf : FI σ f v) (hne : f ≠ s + 2) : OK (MX8_write σ ρ s (iI c) f) (fun s' => CS s' s (setC S c v) ∧ ∀ k i, k ≠ s + 2 → s' k i = σ k i) := by
  obtain ⟨r2, r3, l8, l36⟩ := hr
  unfold MX8_write
  rw [iI_isC ⟨by omega, by omega⟩, if_pos (by omega), ob_some, if_neg ne10, bn_eq]
  refine run_g (S := Sto) (call := fun (g : Sto → Int32 → Option Sto) s (k : Nat) => g s (iI k)) (N := 6) (I := fun k τ => (∀ i, i < 36 → τ (s + 2) i = iI (if 6 * c ≤ i ∧ i < 6 * c + k then v (i - 6 * c) else S.2.2 i)) ∧ ∀ k i, k ≠ s + 2 → τ k i = σ k i) (Post := fun o => OK o _) ?_ ?_ (by unfold FU; omega) (k0 := 0) (by omega) (s := σ) ⟨fun i hi => by rw [if_neg (by omega)]; exact hC.2.2.1 i hi, fun _ _ _ => rfl⟩
  · intro g τ ⟨i1, i2⟩
    unfold FX8_write_9
    rw [if_pos (by decide)]
    exact OK.so ⟨⟨(i2 _ _ (by omega)).trans hC.1, (i2 _ _ (by omega)).trans hC.2.1, i1, fun k hk => (i2 _ _ (by omega)).trans (hC.2.2.2 k hk)⟩, i2⟩
  · intro g τ k ⟨i1, i2⟩ hk ih
    show OK (FX8_write_9 ρ s (iI c) f g τ (iI k)) _
    unfold FX8_write_9
    rw [if_neg (by rw [w6, iI_leN (by omega) (by omega)]; omega), r3, ob_some, c_nth (FI_k hf (fun i => i2 _ _ hne)) hk, ob_some, show (6 : Int32) = iI 6 from rfl, iI_mul, iI_add, ap_ok (by omega) (by rw [l36]; omega) (by rw [l36]; omega), ob_some, bn_eq, iI_succ, show ((c : Int) * 6 + k).toNat = 6 * c + k by omega]
    refine ih _ ⟨fun i hi => ?_, fun k' i' hk' => by rw [su_k hk']; exact i2 k' i' hk'⟩
    by_cases q : i = 6 * c + k
    · subst q
      rw [su_s, if_pos (by omega), show 6 * c + k - 6 * c = k by omega]
    · rw [su_i q, i1 i hi]
      by_cases q2 : 6 * c ≤ i ∧ i < 6 * c + k
      · rw [if_pos q2, if_pos (by omega)]
      · rw [if_neg q2, if_neg (by omega)]
theorem m_takesIts {σ : Sto} {ρ : Rho} {b c : Nat} {S : Sheet} {v : Nat → Int} (hρ : Md ρ) (hM : MS σ b S) (hb : b ≤ 48) (hc : c < 6) (hl : S.2.1.length ≤ 8) (hf : FI σ 98 v) : OK (MX12_takesIts σ ρ 92 (iI b) (iI c)) (fun s => MS s b (setC S c v) ∧ (∀ i, i < b ∨ b + 36 ≤ i → s 93 i = σ 93 i) ∧ ∀ k i, k ≠ 93 → s k i = σ k i) := by
  unfold MX12_takesIts
  rw [bn_eq]
  refine run_g (S := Sto) (call := fun (g : Sto → Int32 → Option Sto) s (k : Nat) => g s (iI k)) (N := 6) (I := fun k τ => (∀ i, i < 36 → τ 93 (b + i) = iI (if 6 * c ≤ i ∧ i < 6 * c + k then v (i - 6 * c) else S.2.2 i)) ∧ (∀ i, i < b ∨ b + 36 ≤ i → τ 93 i = σ 93 i) ∧ ∀ k i, k ≠ 93 → τ k i = σ k i) (Post := fun o => OK o _) ?_ ?_ (by unfold FU; omega) (k0 := 0) (by omega) (s := σ) ⟨fun i hi => by rw [if_neg (by omega)]; exact hM.2.2.1 i hi, fun _ _ => rfl, fun _ _ _ => rfl⟩
  · intro g τ ⟨i1, i2, i3⟩
    unfold FX12_takesIts_2
    rw [if_pos (by decide)]
    refine OK.so ⟨⟨(i2 _ (by omega)).trans hM.1, (i2 _ (by omega)).trans hM.2.1, i1, fun k hk => ?_⟩, i2, i3⟩
    have hk' : k < S.2.1.length := hk
    exact (i2 _ (by omega)).trans (hM.2.2.2 k hk)
  · intro g τ k ⟨i1, i2, i3⟩ hk ih
    show OK (FX12_takesIts_2 ρ 92 (iI b) (iI c) g τ (iI k)) _
    unfold FX12_takesIts_2
    rw [if_neg (by rw [w6, iI_leN (by omega) (by omega)]; omega), hρ.1, ob_some, hρ.2.2.2.2.2.1, ob_some, ag98i (by omega) (by omega), ob_some, show ((k : Int)).toNat = k from rfl, i3 98 k (by decide), hf k hk, show (6 : Int32) = iI 6 from rfl, iI_mul, iI_add, iI_add, ap93i (by omega) (by omega), ob_some, bn_eq, iI_succ, show ((b : Int) + 6 * c + k).toNat = b + (6 * c + k) by omega]
    refine ih _ ⟨fun i hi => ?_, fun i hi => ?_, fun k' i' hk' => by rw [su_k hk']; exact i3 k' i' hk'⟩
    · by_cases q : i = 6 * c + k
      · subst q
        rw [su_s, if_pos (by omega), show 6 * c + k - 6 * c = k by omega]
      · rw [su_i (by omega), i1 i hi]
        by_cases q2 : 6 * c ≤ i ∧ i < 6 * c + k
        · rw [if_pos q2, if_pos (by omega)]
        · rw [if_neg q2, if_neg (by omega)]
    · rw [su_i (by omega)]; exact i2 i hi
theorem any6 {P : Nat → Bool} : anyB P 6 = (P 0 || P 1 || P 2 || P 3 || P 4 || P 5) := by
  rw [anyB_s, anyB_s, anyB_s, anyB_s, anyB_s, anyB_s, show anyB P 0 = false from rfl, Bool.false_or]
theorem zer_any {v : Nat → Int} : anyB (fun i => decide (v i ≠ 0)) 6 = !zerB v := by
  rw [any6]
  unfold zerB
  by_cases c0 : v 0 = 0 <;> by_cases c1 : v 1 = 0 <;> by_cases c2 : v 2 = 0 <;> by_cases c3 : v 3 = 0 <;> by_cases c4 : v 4 = 0 <;> by_cases c5 : v 5 = 0 <;> simp [c0, c1, c2, c3, c4, c5]
theorem lim_any {v : Nat → Int} : anyB (fun i => decide (¬ (-99 ≤ v i ∧ v i ≤ 99))) 6 = !limB v := by
  rw [any6]
  unfold limB
  by_cases c0 : -99 ≤ v 0 ∧ v 0 ≤ 99 <;> by_cases c1 : -99 ≤ v 1 ∧ v 1 ≤ 99 <;> by_cases c2 : -99 ≤ v 2 ∧ v 2 ≤ 99 <;> by_cases c3 : -99 ≤ v 3 ∧ v 3 ≤ 99 <;> by_cases c4 : -99 ≤ v 4 ∧ v 4 ≤ 99 <;> by_cases c5 : -99 ≤ v 5 ∧ v 5 ≤ 99 <;> simp only [c0, c1, c2, c3, c4, c5, decide_true, decide_false, not_true, not_false_eq_true, Bool.true_and, Bool.and_true, Bool.false_and, Bool.and_false, Bool.or_true, Bool.true_or, Bool.or_false, Bool.false_or, Bool.not_true, Bool.not_false, and_self]
theorem m_isShort {x : Int} (hx : rg32 x) : MX12_isShort (iI x) = some (if -99 ≤ x ∧ x ≤ 99 then 1 else 0) := by
  unfold MX12_isShort
  rw [show (-99 : Int32) = iI (-99) from rfl, show (99 : Int32) = iI 99 from rfl]
  rcases m_isIn (a := x) (b := -99) (c := 99) hx ⟨by omega, by omega⟩ ⟨by omega, by omega⟩ with ⟨a, b, e⟩ | ⟨a, e⟩
  · rw [e, ob_some, if_pos ⟨a, b⟩]; exact zr1 _
  · rw [e, ob_some, if_neg a]; exact zr0 _
theorem m_whyNot {σ : Sto} {ρ : Rho} {v : Nat → Int} (hρ : Md ρ) (hf : FI σ 98 v) (hr : ∀ i, i < 6 → rg32 (v i)) : MX12_whyNot σ ρ 92 = some (if zerB v then 3 else if limB v then 0 else 4) := by
  have h13 := hρ.2.2.2.2.2.1
  unfold MX12_whyNot
  rw [bn_eq, bn_eq]
  refine run_g (S := Unit) (call := fun (g : Int32 → Int32 → Option Int32) _ (k : Nat) => g (b32 (anyB (fun i => decide (v i ≠ 0)) k)) (iI k)) (N := 6) (I := fun _ _ => True) (Post := fun o => o = some (if zerB v then 3 else if limB v then 0 else 4)) ?_ ?_ (by unfold FU; omega) (k0 := 0) (by omega) (s := ()) trivial
  · intro g _ _
    show FX12_whyNot_4 σ ρ 92 (BX12_whyNot_35 σ ρ 92) g (b32 (anyB (fun i => decide (v i ≠ 0)) 6)) (iI (6 : Nat)) = _
    rw [zer_any]
    unfold FX12_whyNot_4
    rw [if_pos (by decide)]
    unfold BX12_whyNot_35
    cases zerB v with
    | true => rw [if_pos (show b32 (!true) = 0 from rfl)]; rfl
    | false =>
      rw [if_neg (show ¬ b32 (!false) = 0 by decide), bn_eq, if_neg (by decide)]
      refine (scan_g (S := Unit) (call := fun (g : Int32 → Option Int32) _ (k : Nat) => g (iI k)) (N := 6) (P := fun i => decide (¬ (-99 ≤ v i ∧ v i ≤ 99))) (I := fun _ => True) (Post := fun o r => r = some (if o.isSome then 4 else 0)) ?_ ?_ ?_ (by unfold FU; omega) (s := ()) trivial).trans ?_
      · intro g _ _
        unfold FX12_whyNot_43
        rw [if_pos (by decide)]; rfl
      · intro g _ k _ hk hP
        unfold FX12_whyNot_43
        rw [if_neg (by rw [w6, iI_leN (by omega) (by omega)]; omega), h13, ob_some, ag98i (by omega) (by omega), ob_some, show ((k : Int)).toNat = k from rfl, hf k hk, m_isShort (hr k hk), ob_some, if_neg (of_decide_eq_true hP), if_pos rfl]; rfl
      · intro g _ k _ hk hP
        refine ⟨(), trivial, ?_⟩
        have : -99 ≤ v k ∧ v k ≤ 99 := Classical.byContradiction fun z => absurd (decide_eq_true z) (by rw [hP]; simp)
        unfold FX12_whyNot_43
        rw [if_neg (by rw [w6, iI_leN (by omega) (by omega)]; omega), h13, ob_some, ag98i (by omega) (by omega), ob_some, show ((k : Int)).toNat = k from rfl, hf k hk, m_isShort (hr k hk), ob_some, if_pos this, if_neg ne10, bn_eq, iI_succ]
      · have := lim_any (v := v)
        unfold anyB at this
        rw [this]
        cases limB v <;> rfl
  · intro g _ k _ hk ih
    show FX12_whyNot_4 σ ρ 92 (BX12_whyNot_35 σ ρ 92) g (b32 (anyB (fun i => decide (v i ≠ 0)) k)) (iI k) = _
    have ih2 := ih () trivial
    rw [anyB_s] at ih2
    unfold FX12_whyNot_4 BX12_whyNot_23 BX12_whyNot_28
    rw [if_neg (by rw [w6, iI_leN (by omega) (by omega)]; omega)]
    cases hb : anyB (fun i => decide (v i ≠ 0)) k with
    | true =>
      rw [hb, Bool.true_or] at ih2
      rw [if_neg (show ¬ b32 true = 0 by decide), bn_eq, bn_eq, iI_succ]
      exact ih2
    | false =>
      rw [hb, Bool.false_or] at ih2
      rw [if_pos (show b32 false = 0 from rfl), h13, ob_some, ag98i (by omega) (by omega), ob_some, show ((k : Int)).toNat = k from rfl, hf k hk]
      by_cases c : v k = 0
      · rw [decide_eq_false (fun z => z c)] at ih2
        rw [if_pos (by rw [c]; rfl), bn_eq, bn_eq, iI_succ]
        exact ih2
      · rw [decide_eq_true c] at ih2
        rw [if_neg (by rw [show (0 : Int32) = iI 0 from rfl, iI_eq (hr k hk) ⟨by omega, by omega⟩]; exact c), bn_eq, bn_eq, iI_succ]
        exact ih2
def aBec (A : AS) (c : Nat) (v : Nat → Int) : Int32 × AS := if zerB v then (3, refA A 3 0) else if limB v then (0, accA A (setC A.1.1 c v)) else (4, refA A 4 0)
theorem SOK_set {S : Sheet} {c : Nat} {v : Nat → Int} (hS : SOK S) (hc : c < 6) (hz : zerB v = false) (hl : limB v = true) : SOK (setC S c v) := by
  obtain ⟨h1, h2, h3, h4, h5, h6⟩ := hS
  have lv : ∀ i, i < 6 → bd (v i) 99 := by
    unfold limB at hl
    simp only [Bool.and_eq_true, decide_eq_true_eq] at hl
    obtain ⟨⟨⟨⟨⟨l0, l1⟩, l2⟩, l3⟩, l4⟩, l5⟩ := hl
    intro i hi
    rcases c6 hi with rfl | rfl | rfl | rfl | rfl | rfl
    · exact ⟨by omega, by omega⟩
    · exact ⟨by omega, by omega⟩
    · exact ⟨by omega, by omega⟩
    · exact ⟨by omega, by omega⟩
    · exact ⟨by omega, by omega⟩
    · exact ⟨by omega, by omega⟩
  have nz : ∃ i, i < 6 ∧ v i ≠ 0 := by
    refine Classical.byContradiction fun z => ?_
    have z' : ∀ i, i < 6 → v i = 0 := fun i hi => Classical.byContradiction fun y => z ⟨i, hi, y⟩
    unfold zerB at hz
    have := of_decide_eq_false hz
    exact this ⟨z' 0 (by omega), z' 1 (by omega), z' 2 (by omega), z' 3 (by omega), z' 4 (by omega), z' 5 (by omega)⟩
  refine ⟨h1, h2, h3, h4, fun i hi => ?_, fun d hd => ?_⟩
  · show bd (if 6 * c ≤ i ∧ i < 6 * c + 6 then v (i - 6 * c) else S.2.2 i) 99
    by_cases q : 6 * c ≤ i ∧ i < 6 * c + 6
    · rw [if_pos q]; exact lv _ (by omega)
    · rw [if_neg q]; exact h5 i hi
  · by_cases q : d = c
    · subst q
      obtain ⟨i, hi, hv⟩ := nz
      refine ⟨i, hi, ?_⟩
      show (if 6 * d ≤ 6 * d + i ∧ 6 * d + i < 6 * d + 6 then v (6 * d + i - 6 * d) else S.2.2 (6 * d + i)) ≠ 0
      rw [if_pos (by omega), show 6 * d + i - 6 * d = i by omega]; exact hv
    · obtain ⟨i, hi, hv⟩ := h6 d hd
      refine ⟨i, hi, ?_⟩
      show (if 6 * c ≤ 6 * d + i ∧ 6 * d + i < 6 * c + 6 then v (6 * d + i - 6 * c) else S.2.2 (6 * d + i)) ≠ 0
      rw [if_neg (by omega)]; exact hv
theorem AOK_bec {A : AS} {c : Nat} {v : Nat → Int} (h : AOK A) (hc : c < 6) : AOK (aBec A c v).2 := by
  unfold aBec
  cases hz : zerB v with
  | true => exact AOK_ref h _ _
  | false =>
    cases hl : limB v with
    | true => exact AOK_acc h (SOK_set h.1.1 hc hz hl)
    | false => exact AOK_ref h _ _
theorem k_become {σ : Sto} {ρ : Rho} {A : AS} {c f : Nat} {v : Nat → Int} (hD : Dk ρ) (hA : AOK A) (h : KR σ A) (hc : c < 6) (hf : FI σ f v) (hf2 : 53 ≤ f) (hr : ∀ i, i < 6 → rg32 (v i)) : OK (MX11_become σ ρ 0 (iI c) f) (fun o => o.1 = (aBec A c v).1 ∧ KR o.2 (aBec A c v).2 ∧ Fr CL σ o.2) := by
  unfold MX11_become aBec
  have hz0 := c_isZero hf hr
  have ez : (if v 0 = 0 ∧ v 1 = 0 ∧ v 2 = 0 ∧ v 3 = 0 ∧ v 4 = 0 ∧ v 5 = 0 then (1 : Int32) else 0) = b32 (zerB v) := by
    unfold b32 zerB
    by_cases c : v 0 = 0 ∧ v 1 = 0 ∧ v 2 = 0 ∧ v 3 = 0 ∧ v 4 = 0 ∧ v 5 = 0
    · rw [if_pos c, decide_eq_true c]; rfl
    · rw [if_neg c, decide_eq_false c]; rfl
  rw [hz0, ob_some, ez]
  cases hz : zerB v with
  | true =>
    rw [if_neg (show ¬ b32 true = 0 by decide), if_pos rfl]
    refine OK.bi (k_refuse hD h) ?_
    rintro ⟨x, s⟩ hx
    exact OK.so hx
  | false =>
    rw [if_pos (show b32 false = 0 from rfl), if_neg (show ¬ (false = true) by decide), c_limit hf hr, ob_some]
    cases hl : limB v with
    | true =>
      rw [if_pos rfl, if_neg ne10, dk_0_1 hD, ob_some, dk_0_0 hD, ob_some, dk_1_0 hD, ob_some, if_pos rfl]
      refine OK.bi (k_keep hD hA.1.1.2.1 (past8 hA) hA.2.2.1 h.1.1 h.2.1) ?_
      intro s1 ⟨g1, g2⟩
      have hC1 : CS s1 2 A.1.1 := CS_k h.1.1 (fun i => g2 _ _ (by decide) (by omega)) (fun i => g2 _ _ (by decide) (by omega)) (fun i => g2 _ _ (by decide) (by omega))
      rw [ob_some, dk_1_0 hD, ob_some]
      refine OK.bi (c_write (s := 2) (Sr_2 hD) hC1 hc (FI_k hf (fun i => g2 _ _ (by omega) (by omega))) (by omega)) ?_
      intro s2 ⟨k1, k2⟩
      refine OK.bi (k_accept hD h k1 (KP_fr g1 (fun k i h1 h2 => k2 _ _ (by omega))) (fun k i hk => (k2 _ _ (by omega)).trans (g2 _ _ (by omega) (by omega)))) ?_
      rintro ⟨x, s⟩ hx
      exact OK.so hx
    | false =>
      simp only [Bool.false_eq_true, if_false]
      rw [if_pos True.intro]
      refine OK.bi (k_refuse hD h) ?_
      rintro ⟨x, s⟩ hx
      exact OK.so hx
theorem m_becomes {σ : Sto} {ρ : Rho} {A : AS} {c : Nat} {v : Nat → Int} (hρ : Md ρ) (hA : AOK A) (h : MR σ A) (hc : c < 6) (hf : FI σ 98 v) (hr : ∀ i, i < 6 → rg32 (v i)) : OK (MX12_becomes σ ρ 92 (iI c)) (fun o => o.1 = (aBec A c v).1 ∧ MR o.2 (aBec A c v).2 ∧ Fr ML σ o.2) := by
  unfold MX12_becomes aBec
  rw [m_whyNot hρ hf hr, ob_some, bn_eq]
  cases hz : zerB v with
  | true =>
    rw [if_pos rfl, if_neg (show ¬ (3 : Int32) ≤ 0 by decide), if_pos rfl]
    refine OK.bi (m_refused hρ hA h) ?_
    rintro ⟨x, s⟩ hx
    exact OK.so hx
  | false =>
    simp only [Bool.false_eq_true, if_false]
    cases hl : limB v with
    | false =>
      simp only [Bool.false_eq_true, if_false]
      rw [if_neg (show ¬ (4 : Int32) ≤ 0 by decide)]
      refine OK.bi (m_refused hρ hA h) ?_
      rintro ⟨x, s⟩ hx
      exact OK.so hx
    | true =>
      rw [if_pos rfl, if_pos (show (0 : Int32) ≤ 0 by decide), if_pos rfl]
      refine OK.bi (m_keeps hρ hA.1.1.2.1 (past8 hA) hA.2.2.1 h.1.1 h.2.1) ?_
      intro s1 ⟨g1, g2, g3⟩
      have hM1 : MS s1 0 A.1.1 := MS_e h.1.1 hA.1.1.2.1 (fun i hi => g2 _ (by omega))
      refine OK.bi (m_takesIts (b := 0) hρ hM1 (by omega) hc hA.1.1.2.1 (FI_k hf (fun i => g3 _ _ (by decide) (by omega)))) ?_
      intro s2 ⟨k1, k2, k3⟩
      have hS' := SOK_set hA.1.1 hc hz hl
      refine OK.bi (m_accept hρ hA hS' h k1 ?_ (fun i hi => (k2 _ (by omega)).trans (g2 _ (by omega))) (fun k i a b c => (k3 _ _ a).trans (g3 _ _ a c))) ?_
      · have hA' := AOK_acc hA hS'
        exact MP_fr g1 (past8 hA') hA'.2.2.1 (k3 _ _ (by decide)) (fun i h1 h2 => k2 _ (by omega))
      · rintro ⟨x, s⟩ hx
        exact OK.so hx
