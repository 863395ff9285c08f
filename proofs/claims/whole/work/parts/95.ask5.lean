/-! QUESTIONS: families; counts -/
def frP (S : Sheet) (f : Nat) : Prop := ∃ B, Bs S.1 6 f B (Vm S.1 S.2.1)
noncomputable def frN (S : Sheet) : Nat := Classical.epsilon (frP S)
theorem frN_eq {S : Sheet} {f : Nat} (hp : PR S.1) (h : frP S f) : frN S = f := by
  have h2 : frP S (frN S) := Classical.epsilon_spec ⟨f, h⟩
  obtain ⟨B, hB⟩ := h
  obtain ⟨C, hC⟩ := h2
  exact Bs_uni hp hB hC
theorem fr_ex {σ : Sto} {ρ : Rho} {S : Sheet} (h : QV σ ρ S) : frP S (frN S) ∧ frN S ≤ 6 := by
  obtain ⟨hD, hρ, hP, hS, hC, hM⟩ := h
  obtain ⟨o, e, f, B, h1, h2, -⟩ := c_gather hD hP hS hC
  have h3 : frP S f := ⟨B, h2⟩
  rw [frN_eq hS.1 h3]
  exact ⟨h3, h1.1⟩
theorem RI_fr {S : Sheet} {n f : Nat} {M' : Nat → Nat → Int} (hp : PR S.1) (h : RI S.1 S.2.1.length 6 n 6 (mkM S.1 S.2.1) M') (hf : frP S f) : n + f = 6 := by
  obtain ⟨B, hB⟩ := hf
  exact RI_dim hp h (Bs_iff hB (fun x => nul_Vm.symm))
abbrev more (S : Sheet) (q : Nat) : Sheet := (S.1, q :: S.2.1, S.2.2)
theorem Vm_more {p q : Nat} {L : List Nat} {x : Nat → Int} : Vm p (q :: L) x ↔ Vm p L x ∧ dot 6 (mk p q) x % p = 0 := by
  unfold Vm
  constructor
  · intro h; exact ⟨fun r hr => h r (List.mem_cons_of_mem _ hr), h q List.mem_cons_self⟩
  · rintro ⟨h1, h2⟩ r hr
    rcases List.mem_cons.mp hr with e | e
    · rw [e]; exact h2
    · exact h1 r e
theorem RI_fr1 {S : Sheet} {n n1 f q : Nat} {M' M1 : Nat → Nat → Int} (hp : PR S.1) (h : RI S.1 S.2.1.length 6 n 6 (mkM S.1 S.2.1) M') (h1 : RI S.1 (n + 1) 6 n1 6 (fun r i => if r = n then mk S.1 q i else M' r i) M1) (hf : frP (more S q) f) : n1 + f = 6 := by
  obtain ⟨B, hB⟩ := hf
  exact RI_dim hp h1 (Bs_iff hB (fun x => (Vm_more (p := S.1)).trans (nul_more hp rfl h).symm))
/-- a family cut by one more place -/
theorem Bs_cut {p f : Nat} {B : Nat → Nat → Int} {u : Nat → Int} {V : (Nat → Int) → Prop} (hp : PR p) (hL : Lin p V) (h : Bs p 6 f B V) {a : Nat} (ha : a < f) (hu : dot 6 u (B a) % p ≠ 0) : ∃ C, Bs p 6 (f - 1) C (fun x => V x ∧ dot 6 u x % p = 0) := by
  obtain ⟨g, rfl⟩ : ∃ g, f = g + 1 := ⟨f - 1, by omega⟩
  have hT := Bs_tr h (show a ≤ g by omega)
  have ta : tr a g g = a := by
    unfold tr
    by_cases c : g = a
    · rw [if_pos c, c]
    · rw [if_neg c, if_pos rfl]
  have hw : dot 6 u ((fun j => B (tr a g j)) g) % p ≠ 0 := by
    show dot 6 u (B (tr a g g)) % p ≠ 0
    rw [ta]; exact hu
  have hz : (0 : Int) % p = 0 := by simp
  have hcong : ∀ i, i < g → ∀ c, c < 6 → ((fun i c => dot 6 u ((fun j => B (tr a g j)) g) * (fun j => B (tr a g j)) i c + -(dot 6 u ((fun j => B (tr a g j)) i)) * (fun j => B (tr a g j)) g c) i c - (dot 6 u ((fun j => B (tr a g j)) g) * (fun j => B (tr a g j)) i c + -(dot 6 u ((fun j => B (tr a g j)) i)) * (fun j => B (tr a g j)) g c)) % (p : Int) = 0 := by
    intro i hi c hc
    dsimp only
    rw [Int.sub_self]; exact hz
  exact ⟨_, Bs_last hp hT hw hcong (fun i hi => hL _ _ _ _ _ (hT.1 i (by omega)) (hT.1 g (by omega)) (hcong i hi))⟩
/-- what one more place makes of it, by the base -/
theorem fr_less {σ : Sto} {ρ : Rho} {S : Sheet} {f q : Nat} {B : Nat → Nat → Int} (hp : PR S.1) (hB : Bs S.1 6 f B (Vm S.1 S.2.1)) : frP (more S q) (if (fs (fun i => decide (qv (B i) (cX S.1 q) (cY S.1 q) (cZ S.1 q) % S.1 ≠ 0)) f).isSome then f - 1 else f) ∧ ((fs (fun i => decide (qv (B i) (cX S.1 q) (cY S.1 q) (cZ S.1 q) % S.1 ≠ 0)) f).isSome = true → 1 ≤ f) := by
  have dm : ∀ x : Nat → Int, dot 6 (mk S.1 q) x % S.1 = qv x (cX S.1 q) (cY S.1 q) (cZ S.1 q) % S.1 := fun x => eqm.mpr dot_mk
  cases e : fs (fun i => decide (qv (B i) (cX S.1 q) (cY S.1 q) (cZ S.1 q) % S.1 ≠ 0)) f with
  | none =>
    refine ⟨?_, fun z => by cases z⟩
    have := Bs_none (u := mk S.1 q) hB (fun i hi => by
      rw [dm]
      have := of_decide_eq_false (fs_none.mp e i hi)
      exact Classical.byContradiction this)
    exact ⟨B, Bs_iff this (fun x => Vm_more.symm)⟩
  | some a =>
    obtain ⟨e1, e2, -⟩ := fs_some e
    have := of_decide_eq_true e2
    refine ⟨?_, fun _ => by omega⟩
    obtain ⟨C, hC⟩ := Bs_cut (u := mk S.1 q) hp Vm_Lin hB e1 (by rw [dm]; exact this)
    exact ⟨C, Bs_iff hC (fun x => Vm_more.symm)⟩
theorem fr_mark {S : Sheet} {q f : Nat} (h : frP S f) (hq : q ∈ S.2.1) : frP (more S q) f := by
  obtain ⟨B, hB⟩ := h
  exact ⟨B, Bs_iff hB (fun x => ⟨fun hx => Vm_more.mpr ⟨hx, hx q hq⟩, fun hx => (Vm_more.mp hx).1⟩)⟩
/-- marks looked for -/
def mkF (L : List Nat) (q : Nat) : Option Nat := fs (fun k => L.getD k 0 == q) L.length
theorem mkF_mem {L : List Nat} {q : Nat} : (mkF L q).isSome = true ↔ q ∈ L := by
  unfold mkF
  constructor
  · intro h
    cases e : fs (fun k => L.getD k 0 == q) L.length with
    | none => rw [e] at h; cases h
    | some k =>
      obtain ⟨a, b, -⟩ := fs_some e
      have b' : L.getD k 0 = q := by simpa using b
      rw [List.getD_eq_getElem?_getD, List.getElem?_eq_getElem a] at b'
      exact b' ▸ List.getElem_mem a
  · intro h
    obtain ⟨k, hk, e⟩ := List.getElem_of_mem h
    cases e2 : fs (fun k => L.getD k 0 == q) L.length with
    | some j => rfl
    | none =>
      have := fs_none.mp e2 k hk
      rw [List.getD_eq_getElem?_getD, List.getElem?_eq_getElem hk, e] at this
      simp at this
theorem m_markOf {σ : Sto} {ρ : Rho} {b q : Nat} {S : Sheet} (hρ : Md ρ) (hM : MS σ b S) (hl : S.2.1.length ≤ 8) (hn : ∀ r ∈ S.2.1, r ≤ 5000) (hb : b ≤ 100) (hq : q ≤ 5000) : MX12_markOf σ ρ 92 (iI b) (iI q) = some (iI (oI (mkF S.2.1 q))) := by
  obtain ⟨-, m37, -, m38⟩ := hM
  unfold MX12_markOf mkF
  rw [bn_eq]
  have g37 : ag σ 93 (iI (b : Nat) + (37 : Int32)) = some (iI S.2.1.length) := by
    rw [show (37 : Int32) = iI 37 from rfl, iI_add, ag93i (by omega) (by omega), show ((b : Int) + 37).toNat = b + 37 by omega, m37]
  have g38 : ∀ k : Nat, k < S.2.1.length → ag σ 93 (iI (b : Nat) + (38 : Int32) + iI (k : Nat)) = some (iI (S.2.1.getD k 0 : Nat)) := fun k hk => by
    rw [show (38 : Int32) = iI 38 from rfl, iI_add, iI_add, ag93i (by omega) (by omega), show ((b : Int) + 38 + k).toNat = b + 38 + k by omega, m38 k hk]
  refine scan_g (S := Unit) (call := fun (g : Int32 → Option Int32) _ (k : Nat) => g (iI k)) (N := S.2.1.length) (P := fun k => S.2.1.getD k 0 == q) (I := fun _ => True) (Post := fun o r => r = some (iI (oI o))) ?_ ?_ ?_ (by unfold FU; omega) (s := ()) trivial
  · intro g _ _
    unfold FX12_markOf_2
    rw [hρ.1, ob_some, g37, ob_some, if_pos (by rw [iI_leN (by omega) (by omega)]; omega)]; rfl
  · intro g _ k _ hk hP
    have hP' : S.2.1.getD k 0 = q := by simpa using hP
    unfold FX12_markOf_2
    rw [hρ.1, ob_some, g37, ob_some, if_neg (by rw [iI_leN (by omega) (by omega)]; omega), ob_some, g38 k hk, ob_some, if_pos (by rw [hP'])]; rfl
  · intro g _ k _ hk hP
    have hP' : S.2.1.getD k 0 ≠ q := by simpa using hP
    have hr : S.2.1.getD k 0 ≤ 5000 := by
      rw [List.getD_eq_getElem?_getD, List.getElem?_eq_getElem hk]
      exact hn _ (List.getElem_mem hk)
    refine ⟨(), trivial, ?_⟩
    unfold FX12_markOf_2
    rw [hρ.1, ob_some, g37, ob_some, if_neg (by rw [iI_leN (by omega) (by omega)]; omega), ob_some, g38 k hk, ob_some, if_neg (by rw [iI_eqN (by omega) (by omega)]; exact hP'), bn_eq, iI_succ]
theorem c_isMarked {σ : Sto} {ρ : Rho} {s q : Nat} {S : Sheet} (hr : Sr ρ s) (hC : CS σ s S) (hl : S.2.1.length ≤ 8) (hn : ∀ r ∈ S.2.1, r ≤ 5000) (hq : q ≤ 5000) : MX8_isMarked σ ρ s (iI q) = some (if (mkF S.2.1 q).isSome then 1 else 0) := by
  unfold MX8_isMarked mkF
  rw [bn_eq]
  have gm : ∀ k : Nat, k < S.2.1.length → MX8_markAt σ ρ s (iI k) = some (iI (S.2.1.getD k 0 : Nat)) := fun k hk => by
    have hm := c_markAt (k := (k : Int)) hr hC hl (rgN (by omega))
    rw [if_pos (show 0 ≤ (k : Int) ∧ (k : Int) < S.2.1.length by omega), Int.toNat_natCast] at hm
    exact hm
  refine scan_g (S := Unit) (call := fun (g : Int32 → Option Int32) _ (k : Nat) => g (iI k)) (N := S.2.1.length) (P := fun k => S.2.1.getD k 0 == q) (I := fun _ => True) (Post := fun o r => r = some (if o.isSome then 1 else 0)) ?_ ?_ ?_ (by unfold FU; omega) (s := ()) trivial
  · intro g _ _
    unfold FX8_isMarked_2
    rw [hC.2.1, if_pos (by rw [iI_leN (by omega) (by omega)]; omega)]; exact zr0 _
  · intro g _ k _ hk hP
    have hP' : S.2.1.getD k 0 = q := by simpa using hP
    unfold FX8_isMarked_2
    rw [hC.2.1, if_neg (by rw [iI_leN (by omega) (by omega)]; omega), gm k hk, ob_some, if_pos (by rw [hP'])]; exact zr1 _
  · intro g _ k _ hk hP
    have hP' : S.2.1.getD k 0 ≠ q := by simpa using hP
    have hr : S.2.1.getD k 0 ≤ 5000 := by
      rw [List.getD_eq_getElem?_getD, List.getElem?_eq_getElem hk]
      exact hn _ (List.getElem_mem hk)
    refine ⟨(), trivial, ?_⟩
    unfold FX8_isMarked_2
    rw [hC.2.1, if_neg (by rw [iI_leN (by omega) (by omega)]; omega), gm k hk, ob_some, if_neg (by rw [iI_eqN (by omega) (by omega)]; exact hP'), bn_eq, iI_succ]
theorem mk_5000 {S : Sheet} (hS : SOK S) : ∀ r ∈ S.2.1, r ≤ 5000 := fun r hr => by
  have := hS.2.2.2.1 r hr
  have := NP_le hS.1
  omega
/-- freed -/
noncomputable def aFreed (S : Sheet) (q : Int) : Int := cas (inP S.1 q ∧ ¬ q.toNat ∈ S.2.1) (frN (more S q.toNat) : Nat) (-1)
theorem k_freed {σ : Sto} {ρ : Rho} {S : Sheet} {q : Int} (h : QV σ ρ S) (hq : rg32 q) : OK (MX11_freed σ ρ 0 (iI q)) (fun o => o.1 = iI (aFreed S q) ∧ Fr SC σ o.2.1 ∧ RFr ρ o.2.2 ∧ Pm o.2.2) := by
  obtain ⟨hD, hρ, hP, hS, hC, hM⟩ := id h
  have hN := NP_le hS.1
  unfold MX11_freed aFreed
  rw [dk_0_11 hD, ob_some, dk_0_0 hD, ob_some, dk_1_0 hD, ob_some, hC.1]
  rcases k_take (σ := σ) (t := 89) hS.1 hq with ⟨b, e2⟩ | ⟨b, e2⟩
  · rw [e2, ob_some]
    dsimp only
    have en : ((q.toNat : Nat) : Int) = q := by unfold inP at b; omega
    have hqN : q.toNat < NP S.1 := by unfold inP at b; omega
    generalize hs1 : T3 σ 89 (cX S.1 q.toNat) (cY S.1 q.toNat) (cZ S.1 q.toNat) = s1
    have f1 : Fr SC σ s1 := by rw [← hs1]; exact sc_T3 (by omega)
    have t1 : Tr s1 89 (cX S.1 q.toNat) (cY S.1 q.toNat) (cZ S.1 q.toNat) := by rw [← hs1]; exact T3_Tr
    have h1 := QV_fr h f1
    have hm := c_isMarked (q := q.toNat) (Sr_2 hD) h1.2.2.2.2.1 hS.2.1 (mk_5000 hS) (by omega)
    rw [en] at hm
    rw [if_neg ne10, ob_some, dk_1_0 hD, ob_some, hm, ob_some]
    by_cases c : q.toNat ∈ S.2.1
    · rw [mkF_mem.mpr c, if_pos rfl, if_neg ne10, cas_neg (fun z => z.2 c)]
      exact OK.so ⟨rfl, f1, RFr.rf, hP⟩
    · have c' : (mkF S.2.1 q.toNat).isSome = false := by
        cases e : (mkF S.2.1 q.toNat).isSome with
        | false => rfl
        | true => exact absurd (mkF_mem.mp e) c
      rw [c', if_pos (show (if false = true then (1 : Int32) else 0) = 0 from rfl), dk_0_6 hD, ob_some, ob_some, dk_1_0 hD, ob_some, cas_pos (show inP S.1 q ∧ ¬ q.toNat ∈ S.2.1 from ⟨b, c⟩)]
      refine OK.bi (c_gather hD hP hS h1.2.2.2.2.1) ?_
      rintro ⟨s2, ρ2⟩ ⟨f, B, g1, g2, g3, g4⟩
      dsimp only at g1 g3 g4
      have hD2 := hD.fr g3
      have t2 : Tr s2 89 (cX S.1 q.toNat) (cY S.1 q.toNat) (cZ S.1 q.toNat) := Tr_k t1 (fun i => g4 _ _ (by unfold FX; omega))
      have f2 : Fr SC σ s2 := f1.tr (g4.mo (fun _ _ h => sc_FX h))
      have hf6 := g1.1
      obtain ⟨k1, k2⟩ := fr_less (σ := s2) (ρ := ρ2) (q := q.toNat) hS.1 g2
      rw [frN_eq (S := more S q.toNat) hS.1 k1]
      dsimp only
      rw [dk_0_6 hD2, ob_some, dk_0_11 hD2, ob_some, c_isLess hD2 hS.1 g1 t2 (cXYZ_bd hS.1), ob_some, ob_some]
      cases e : (fs (fun i => decide (qv (B i) (cX S.1 q.toNat) (cY S.1 q.toNat) (cZ S.1 q.toNat) % S.1 ≠ 0)) f).isSome with
      | true =>
        have h1f := k2 e
        simp only [if_true, ne10, if_false]
        refine OK.so ⟨?_, f2, g3, g1.pm⟩
        dsimp only
        rw [g1.2.1, show (1 : Int32) = iI 1 from rfl, iI_sub]; congr 1; omega
      | false =>
        simp only [Bool.false_eq_true, if_false, if_true]
        exact OK.so ⟨g1.2.1, f2, g3, g1.pm⟩
  · rw [e2, ob_some]
    dsimp only
    rw [if_pos rfl, cas_neg (fun z => b z.1)]; exact OK.so ⟨rfl, Fr.rf, RFr.rf, hP⟩
theorem more_ex {σ : Sto} {ρ : Rho} {S : Sheet} (h : QV σ ρ S) (q : Nat) : frP (more S q) (frN (more S q)) := by
  obtain ⟨B, hB⟩ := (fr_ex h).1
  have := (fr_less (σ := σ) (ρ := ρ) (q := q) h.2.2.2.1.1 hB).1
  rw [frN_eq (S := more S q) h.2.2.2.1.1 this]; exact this
theorem m_freed {σ : Sto} {ρ : Rho} {S : Sheet} {q : Int} (h : QV σ ρ S) (hq : rg32 q) : OK (MX12_freed σ ρ 92 (iI q)) (fun o => o.1 = iI (aFreed S q) ∧ Fr SC σ o.2) := by
  obtain ⟨hD, hρ, hP, hS, hC, hM⟩ := id h
  have hN := NP_le hS.1
  unfold MX12_freed aFreed
  rcases m_isPlace h hq with ⟨b, e2⟩ | ⟨b, e2⟩
  · rw [e2, ob_some]
    dsimp only
    have en : ((q.toNat : Nat) : Int) = q := by unfold inP at b; omega
    have hqN : q.toNat < NP S.1 := by unfold inP at b; omega
    have h1 := QV_fr h (sc_su7 (v := iI S.1))
    have hm := m_markOf (b := 0) (q := q.toNat) hρ h1.2.2.2.2.2 hS.2.1 (mk_5000 hS) (by omega) (by omega)
    rw [en] at hm
    have hm' : MX12_markOf (su σ 92 7 (iI S.1)) ρ 92 (0 : Int32) (iI q) = _ := hm
    rw [if_neg ne10, hm', ob_some]
    by_cases c : q.toNat ∈ S.2.1
    · have c' := mkF_mem.mpr c
      cases e : mkF S.2.1 q.toNat with
      | none => rw [e] at c'; cases c'
      | some k =>
        have hk : k < S.2.1.length := (fs_some e).1
        have hl := hS.2.1
        rw [show oI (some k) = (k : Int) from rfl, if_neg (by rw [show (-1 : Int32) = iI (-1) from rfl, iI_eq (rgN (by omega)) ⟨by omega, by omega⟩]; omega), cas_neg (fun z => z.2 c)]
        exact OK.so ⟨rfl, sc_su7⟩
    · cases e : mkF S.2.1 q.toNat with
      | some k => exact absurd (mkF_mem.mp (by rw [e]; rfl)) c
      | none =>
        rw [show oI none = -1 from rfl, if_pos (by decide), cas_pos (show inP S.1 q ∧ ¬ q.toNat ∈ S.2.1 from ⟨b, c⟩)]
        have hr := m_rank1 (q := q.toNat) hρ hS h1.2.2.2.2.2 hqN
        rw [en] at hr
        refine OK.bi hr ?_
        rintro ⟨v, s2⟩ ⟨n, n1, M', M1, r1, r2, r3, -, r4⟩
        have := RI_fr1 hS.1 r2 r3 (more_ex h q.toNat)
        refine OK.so ⟨?_, sc_su7.tr (r4.mo (fun _ _ h => sc_QP h))⟩
        dsimp only at r1 ⊢
        rw [r1, show (6 : Int32) = iI 6 from rfl, iI_sub]; congr 1; omega
  · rw [e2, ob_some]
    dsimp only
    rw [if_pos rfl, cas_neg (fun z => b z.1)]; exact OK.so ⟨rfl, sc_su7⟩
/-- useful -/
noncomputable def useB (S : Sheet) (q : Nat) : Bool := decide (frN (more S q) < frN S)
theorem k_useful {σ : Sto} {ρ : Rho} {S : Sheet} (h : QV σ ρ S) : OK (MX11_useful σ ρ 0) (fun o => o.1 = iI (ct (useB S) (NP S.1) : Nat) ∧ Fr SC σ o.2.1 ∧ RFr ρ o.2.2 ∧ Pm o.2.2) := by
  obtain ⟨hD, hρ, hP, hS, hC, hM⟩ := id h
  have hN := NP_le hS.1
  unfold MX11_useful
  rw [dk_0_6 hD, ob_some, dk_0_0 hD, ob_some, dk_1_0 hD, ob_some]
  refine OK.bi (c_gather hD hP hS hC) ?_
  rintro ⟨s2, ρ2⟩ ⟨f, B, g1, g2, g3, g4⟩
  dsimp only at g1 g3 g4 ⊢
  have hD2 := hD.fr g3
  have f2 : Fr SC σ s2 := g4.mo (fun _ _ h => sc_FX h)
  have hC2 := (QV_fr h f2).2.2.2.2.1
  have ef : frN S = f := frN_eq hS.1 ⟨B, g2⟩
  rw [dk_0_0 hD2, ob_some, dk_1_0 hD2, ob_some, bn_eq, bn_eq, bn_eq, hC2.1]
  refine cnt_g (S := Sto) (call := fun (g : Sto → Rho → Int32 → Int32 → Int32 → Option (Int32 × Sto × Rho)) s (v k : Nat) => g s ρ2 (iI S.1) (iI v) (iI k)) (N := NP S.1) (P := useB S) (I := fun s => Fr SC σ s ∧ Fam s ρ2 S.1 f B) (Post := fun r => OK r _) ?_ ?_ (by unfold FU; omega) (s := s2) ⟨f2, g1⟩
  · intro g s ⟨i1, i2⟩
    unfold FX11_useful_29
    rw [c_points, ob_some, if_pos (by rw [iI_leN (by omega) (by omega)]; omega)]
    exact OK.so ⟨rfl, i1, g3, i2.pm⟩
  · intro g s v q ⟨i1, i2⟩ hq hv
    refine ⟨T3 s 89 (cX S.1 q) (cY S.1 q) (cZ S.1 q), ⟨i1.tr (sc_T3 (by omega)), Fam_k i2 (fun k i _ _ _ => T3_k (by omega))⟩, ?_⟩
    obtain ⟨k1, k2⟩ := fr_less (σ := s) (ρ := ρ2) (q := q) hS.1 g2
    have em : frN (more S q) = _ := frN_eq (S := more S q) hS.1 k1
    have i3 := Fam_k (σ' := T3 s 89 (cX S.1 q) (cY S.1 q) (cZ S.1 q)) i2 (fun k i _ _ _ => T3_k (by omega))
    unfold FX11_useful_29 BX11_useful_66 useB
    rw [c_points, ob_some, if_neg (by rw [iI_leN (by omega) (by omega)]; omega), dk_0_11 hD2, ob_some, c_placeN hS.1 hq, ob_some]
    dsimp only
    rw [if_neg ne10, dk_0_6 hD2, ob_some, ob_some, c_isLess hD2 hS.1 i3 T3_Tr (cXYZ_bd hS.1), ob_some, em, ef]
    cases e : (fs (fun i => decide (qv (B i) (cX S.1 q) (cY S.1 q) (cZ S.1 q) % S.1 ≠ 0)) f).isSome with
    | true =>
      have h1f := k2 e
      have : f - 1 < f := by omega
      simp [this, ne10, bn_eq, iI_succ]
    | false => simp [bn_eq, iI_succ]
theorem m_useful {σ : Sto} {ρ : Rho} {S : Sheet} (h : QV σ ρ S) : OK (MX12_useful σ ρ 92) (fun o => o.1 = iI (ct (useB S) (NP S.1) : Nat) ∧ Fr SC σ o.2) := by
  obtain ⟨hD, hρ, hP, hS, hC, hM⟩ := id h
  have hN := NP_le hS.1
  unfold MX12_useful
  refine OK.bi (m_rank0 hρ hS hM) ?_
  rintro ⟨c, s0⟩ ⟨n, M', q1, q2, q3, q7, q4⟩
  dsimp only at q1 q7 q4 ⊢
  have f0 : Fr SC σ s0 := q4.mo (fun _ _ h => sc_QP h)
  have hnf := RI_fr hS.1 q2 (fr_ex h).1
  rw [bn_eq, bn_eq, bn_eq, q1]
  refine cnt_g (S := Sto) (call := fun (g : Sto → Int32 → Int32 → Int32 → Option (Int32 × Sto)) s (v k : Nat) => g s (iI n) (iI v) (iI k)) (N := NP S.1) (P := useB S) (I := fun s => Fr SC σ s ∧ s 92 7 = iI S.1) (Post := fun r => OK r _) ?_ ?_ (by unfold FU; omega) (s := s0) ⟨f0, q7⟩
  · intro g s ⟨i1, i2⟩
    unfold FX12_useful_10
    rw [m_places i2, ob_some, if_pos (by rw [iI_leN (by omega) (by omega)]; omega)]
    exact OK.so ⟨rfl, i1⟩
  · intro g s v q ⟨i1, i2⟩ hq hv
    have h1 := QV_fr h i1
    have hm := m_markOf (b := 0) (q := q) hρ h1.2.2.2.2.2 hS.2.1 (mk_5000 hS) (by omega) (by omega)
    have hm' : MX12_markOf s ρ 92 (0 : Int32) (iI q) = _ := hm
    unfold FX12_useful_10 BX12_useful_42 BX12_useful_43
    rw [m_places i2, ob_some, if_neg (by rw [iI_leN (by omega) (by omega)]; omega), hm', ob_some]
    by_cases c : q ∈ S.2.1
    · have c' := mkF_mem.mpr c
      have hu : useB S q = false := by
        unfold useB
        rw [frN_eq (S := more S q) hS.1 (fr_mark (fr_ex h).1 c)]
        exact decide_eq_false (by omega)
      cases e : mkF S.2.1 q with
      | none => rw [e] at c'; cases c'
      | some k =>
        have hk : k < S.2.1.length := (fs_some e).1
        have hl := hS.2.1
        refine ⟨s, ⟨i1, i2⟩, ?_⟩
        rw [show oI (some k) = (k : Int) from rfl, if_neg (by rw [show (-1 : Int32) = iI (-1) from rfl, iI_eq (rgN (by omega)) ⟨by omega, by omega⟩]; omega), hu]
        simp [bn_eq, iI_succ, iI_add0]
    · cases e : mkF S.2.1 q with
      | some k => exact absurd (mkF_mem.mp (by rw [e]; rfl)) c
      | none =>
        obtain ⟨⟨v1, s2⟩, e1, n0, n1, M0, M1, r1, r2, r3, h71, r4⟩ := m_rank1 (q := q) hρ hS h1.2.2.2.2.2 hq
        have hn1 := RI_fr1 hS.1 r2 r3 (more_ex h q)
        refine ⟨s2, ⟨i1.tr (r4.mo (fun _ _ h => sc_QP h)), h71⟩, ?_⟩
        dsimp only at r1
        rw [show oI none = -1 from rfl, if_pos (by decide), e1, ob_some]
        dsimp only
        rw [r1]
        unfold useB
        by_cases cl : n1 ≤ n
        · rw [if_pos (by rw [iI_leN (by omega) (by omega)]; exact cl), decide_eq_false (by omega)]
          simp [bn_eq, iI_succ, iI_add0]
        · rw [if_neg (by rw [iI_leN (by omega) (by omega)]; exact cl), decide_eq_true (by omega)]
          simp [bn_eq, iI_succ]
/-- only -/
noncomputable def oneW (S : Sheet) : Nat → Int := @Classical.epsilon (Nat → Int) ⟨fun _ => 0⟩ (One S.1 (Vm S.1 S.2.1))
theorem oneW_eq {S : Sheet} {w : Nat → Int} (hp : PR S.1) (hf : frP S 1) (h : One S.1 (Vm S.1 S.2.1) w) : ∀ i, i < 6 → w i = oneW S i := by
  obtain ⟨B, hB⟩ := hf
  have h2 : One S.1 (Vm S.1 S.2.1) (oneW S) := @Classical.epsilon_spec_aux (Nat → Int) ⟨fun _ => 0⟩ _ ⟨w, h⟩
  exact one_uni hp hB h h2
noncomputable def aOnly (S : Sheet) (i : Int) : Int := cas (inC i ∧ frN S = 1) (oneW S i.toNat) (-1)
theorem k_only {σ : Sto} {ρ : Rho} {S : Sheet} {i : Int} (h : QV σ ρ S) (hi : rg32 i) : OK (MX11_only σ ρ 0 (iI i)) (fun o => o.1 = iI (aOnly S i) ∧ Fr SC σ o.2.1 ∧ RFr ρ o.2.2 ∧ Pm o.2.2) := by
  obtain ⟨hD, hρ, hP, hS, hC, hM⟩ := id h
  unfold MX11_only aOnly
  rw [dk_0_6 hD, ob_some, dk_0_0 hD, ob_some, dk_1_0 hD, ob_some]
  refine OK.bi (c_gather hD hP hS hC) ?_
  rintro ⟨s2, ρ2⟩ ⟨f, B, g1, g2, g3, g4⟩
  dsimp only at g1 g3 g4 ⊢
  have hD2 := hD.fr g3
  have f2 : Fr SC σ s2 := g4.mo (fun _ _ h => sc_FX h)
  have ef : frN S = f := frN_eq hS.1 ⟨B, g2⟩
  have hf6 := g1.1
  have q1 : (s2 68 2 = (1 : Int32)) ↔ f = 1 := by rw [g1.2.1, w1, iI_eqN (by omega) (by omega)]
  rw [dk_0_6 hD2, ob_some, ef]
  by_cases c : f = 1
  · rw [if_pos (q1.mpr c)]
    subst c
    rcases k_isNumber hi with ⟨b, e⟩ | ⟨b, e⟩
    · rw [e, ob_some, if_neg ne10, ob_some, dk_0_9 hD2, ob_some]
      refine OK.bi (c_readOne (k := 87) hD2 hS.1 g1 g2 Vm_Lin (by omega)) ?_
      intro s3 ⟨w, t1, t2, t3⟩
      have hn := c_nth (i := i.toNat) t2 (by unfold inC at b; omega)
      rw [show ((i.toNat : Nat) : Int) = i by unfold inC at b; omega] at hn
      rw [ob_some, hn, ob_some, cas_pos (show inC i ∧ 1 = 1 from ⟨b, rfl⟩), oneW_eq hS.1 ⟨B, g2⟩ t1 _ (by unfold inC at b; omega)]
      exact OK.so ⟨rfl, f2.tr (t3.mo (fun k i h => by unfold SC; omega)), g3, g1.pm⟩
    · rw [e, ob_some, if_pos rfl, cas_neg (fun z => b z.1)]; exact OK.so ⟨rfl, f2, g3, g1.pm⟩
  · rw [if_neg (fun z => c (q1.mp z)), cas_neg (fun z => c z.2)]; exact OK.so ⟨rfl, f2, g3, g1.pm⟩
theorem m_only {σ : Sto} {ρ : Rho} {S : Sheet} {i : Int} (h : QV σ ρ S) (hi : rg32 i) : OK (MX12_only σ ρ 92 (iI i)) (fun o => o.1 = iI (aOnly S i) ∧ Fr SC σ o.2) := by
  obtain ⟨hD, hρ, hP, hS, hC, hM⟩ := id h
  unfold MX12_only aOnly
  rw [show (0 : Int32) = iI 0 from rfl, show (5 : Int32) = iI 5 from rfl]
  rcases m_isIn (a := i) (b := 0) (c := 5) hi ⟨by omega, by omega⟩ ⟨by omega, by omega⟩ with ⟨x, y, e2⟩ | ⟨x, e2⟩
  · rw [e2, ob_some, if_neg (show ¬ (1 : Int32) = iI 0 by decide)]
    refine OK.bi (m_hasOne hρ hS hM) ?_
    rintro ⟨v, s2⟩ ⟨r1, n, M', r2, r3⟩
    have hnf := RI_fr hS.1 r2 (fr_ex h).1
    have f2 : Fr SC σ s2 := r1.mo (fun _ _ h => sc_QO h)
    dsimp only at r3 ⊢
    rcases r3 with ⟨n5, e⟩ | ⟨n5, e, w, t1, t2⟩
    · rw [e, if_pos (show (0 : Int32) = iI 0 from rfl), cas_neg (fun z => by have := z.2; omega)]; exact OK.so ⟨rfl, f2⟩
    · have hf1 : frN S = 1 := by omega
      have hfp := (fr_ex h).1
      rw [hf1] at hfp
      rw [e, if_neg (show ¬ (1 : Int32) = iI 0 by decide), hρ.2.2.2.2.2.1, ob_some, ag98i (by omega) (by omega), ob_some, t2 _ (by omega), cas_pos (show inC i ∧ frN S = 1 from ⟨by unfold inC; omega, hf1⟩), oneW_eq hS.1 hfp t1 _ (by omega)]
      exact OK.so ⟨rfl, f2⟩
  · rw [e2, ob_some, if_pos (show (0 : Int32) = iI 0 from rfl), cas_neg (fun z => by have := z.1; unfold inC at this; omega)]; exact OK.so ⟨rfl, Fr.rf⟩
