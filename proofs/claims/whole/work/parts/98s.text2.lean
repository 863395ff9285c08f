/-! TEXT: the whole of it, the reference -/
theorem m_firsts {σ : Sto} {ρ : Rho} (hρ : Md ρ) : OK (MX12_firsts σ ρ 92 (48 : Int32)) (fun s => MS s 48 D0 ∧ (∀ i, i < 48 ∨ 94 ≤ i → s 93 i = σ 93 i) ∧ ∀ k i, k ≠ 93 → s k i = σ k i) := by
  unfold MX12_firsts
  rw [bn_eq]
  refine run_g (S := Sto) (call := fun (g : Sto → Int32 → Option Sto) s (k : Nat) => g s (iI k)) (N := 46) (I := fun k τ => (∀ i, i < k → τ 93 (48 + i) = 0) ∧ (∀ i, i < 48 ∨ 94 ≤ i → τ 93 i = σ 93 i) ∧ ∀ k i, k ≠ 93 → τ k i = σ k i) (Post := fun o => OK o _) ?_ ?_ (by unfold FU; omega) (k0 := 0) (by omega) (s := σ) ⟨fun i hi => by omega, fun _ _ => rfl, fun _ _ _ => rfl⟩
  · intro g τ ⟨i1, i2, i3⟩
    show OK (FX12_firsts_2 ρ 92 48 (BX12_firsts_23 ρ 92 48) g τ (iI (46 : Nat))) _
    unfold FX12_firsts_2
    rw [if_pos (by decide)]
    unfold BX12_firsts_23
    rw [bn_eq]
    refine run_g (S := Sto) (call := fun (g : Sto → Int32 → Option Sto) s (k : Nat) => g s (iI k)) (N := 6) (I := fun k τ => (∀ i, i < 46 → τ 93 (48 + i) = iI (if i % 6 = 0 ∧ i < 6 * k then 1 else 0)) ∧ (∀ i, i < 48 ∨ 94 ≤ i → τ 93 i = σ 93 i) ∧ ∀ k i, k ≠ 93 → τ k i = σ k i) (Post := fun o => OK o _) ?_ ?_ (by unfold FU; omega) (k0 := 0) (by omega) (s := τ) ⟨fun i hi => by rw [if_neg (by omega)]; exact i1 i hi, i2, i3⟩
    · intro g t ⟨j1, j2, j3⟩
      show OK (FX12_firsts_25 ρ 92 48 (BX12_firsts_49 ρ 92 48) g t (iI (6 : Nat))) _
      unfold FX12_firsts_25 BX12_firsts_49
      rw [if_pos (by decide), hρ.1, ob_some, show (48 : Int32) + (36 : Int32) = (84 : Int32) from rfl, ap93 84 (by decide), ob_some]
      have key : MS (su t 93 84 7) 48 D0 := by
        refine ⟨su_s, ?_, fun i hi => ?_, fun k hk => absurd hk (Nat.not_lt_zero _)⟩
        · rw [su_i (by decide)]
          have := j1 37 (by omega)
          rw [if_neg (by decide)] at this; exact this
        · rw [su_i (by omega), j1 i (by omega)]
          show _ = iI (if i % 6 = 0 then 1 else 0)
          by_cases q : i % 6 = 0
          · rw [if_pos ⟨q, by omega⟩, if_pos q]
          · rw [if_neg (fun z => q z.1), if_neg q]
      exact OK.so ⟨key, fun i hi => by rw [su_i (by omega)]; exact j2 i hi, fun k i hk => by rw [su_k hk]; exact j3 k i hk⟩
    · intro g t k ⟨j1, j2, j3⟩ hk ih
      show OK (FX12_firsts_25 ρ 92 48 (BX12_firsts_49 ρ 92 48) g t (iI k)) _
      unfold FX12_firsts_25
      rw [if_neg (by rw [w6, iI_leN (by omega) (by omega)]; omega), hρ.1, ob_some, show (48 : Int32) + (6 : Int32) * iI (k : Int) = iI ((48 + 6 * k : Nat) : Int) by rw [show (48 : Int32) = iI 48 from rfl, show (6 : Int32) = iI 6 from rfl, iI_mul, iI_add]; congr 1, ap93c (by omega), ob_some, bn_eq, iI_succ]
      refine ih _ ⟨fun i hi => ?_, fun i hi => by rw [su_i (by omega)]; exact j2 i hi, fun k' i' hk' => by rw [su_k hk']; exact j3 k' i' hk'⟩
      by_cases q : i = 6 * k
      · subst q
        rw [su_s, if_pos ⟨by omega, by omega⟩]; rfl
      · rw [su_i (by omega), j1 i hi]
        by_cases q2 : i % 6 = 0 ∧ i < 6 * k
        · rw [if_pos q2, if_pos ⟨q2.1, by omega⟩]
        · rw [if_neg q2, if_neg (by omega)]
  · intro g τ k ⟨i1, i2, i3⟩ hk ih
    show OK (FX12_firsts_2 ρ 92 48 (BX12_firsts_23 ρ 92 48) g τ (iI k)) _
    unfold FX12_firsts_2
    rw [if_neg (by rw [show (46 : Int32) = iI ((46 : Nat) : Int) from rfl, iI_leN (by omega) (by omega)]; omega), hρ.1, ob_some, show (48 : Int32) + iI (k : Int) = iI ((48 + k : Nat) : Int) by rw [show (48 : Int32) = iI 48 from rfl, iI_add]; congr 1, ap93c (by omega), ob_some, bn_eq, iI_succ]
    refine ih _ ⟨fun i hi => ?_, fun i hi => by rw [su_i (by omega)]; exact i2 i hi, fun k' i' hk' => by rw [su_k hk']; exact i3 k' i' hk'⟩
    by_cases q : i = k
    · subst q; rw [su_s]
    · rw [su_i (by omega)]; exact i1 i (by omega)
def R3 (k i : Nat) : Prop := (k = 92 ∧ i = 3) ∨ (k = 92 ∧ i = 14) ∨ RT k i
theorem r3_rt {σ s : Sto} (h : Fr RT σ s) : Fr R3 σ s := h.mo (fun k i h => Or.inr (Or.inr h))
noncomputable def endT (A : AS) (R : Except Er (Sheet × Nat)) : Int32 × AS := match R with
  | .error e => (-1, ((A.1.1, A.1.2.1, 0, iI e.1, iI e.2, A.1.2.2.2.2.2), A.2))
  | .ok d => (iI d.2, ((d.1, A.1.2.1, 0, 0, -1, A.1.2.2.2.2.2), [], A.2.2))
theorem m_textBad {σ v τ : Sto} {ρ : Rho} {A : AS} {R : Except Er (Sheet × Nat)} {e : Er} {x : Int32} (hρ : Md ρ) (hA : AOK A) (h : MR σ A) (v3 : v 92 3 = 0) (vF : Fr R3 σ v) (hR : R = .error e) (hb : Bad v τ e) : OK (BX12_text_64 ρ 92 τ x) (Mq σ (endT A R)) := by
  obtain ⟨hm, hp, hi⟩ := id h
  unfold BX12_text_64
  rw [b_isGood hb.2.2.1, ob_some, if_pos rfl, hR]
  have F : Fr R3 σ τ := vF.tr (r3_rt hb.2.2.2)
  have e3 : τ 92 3 = 0 := (hb.2.2.2 92 3 (by unfold RT RG; omega)).trans v3
  have key : MR τ ((A.1.1, A.1.2.1, 0, iI e.1, iI e.2, A.1.2.2.2.2.2), A.2) := by
    refine ⟨⟨MS_e hm.1 hA.1.1.2.1 (fun i hi => F _ _ (by unfold R3 RT RG; omega)), e3, fun i hi => (F _ _ (by unfold R3 RT RG; omega)).trans (hm.2.2.1 i hi), hb.1, hb.2.1, (F _ _ (by unfold R3 RT RG; omega)).trans hm.2.2.2.2.2.1, (F _ _ (by unfold R3 RT RG; omega)).trans hm.2.2.2.2.2.2⟩, MP_fr (L := A.2.1) hp (past8 hA) hA.2.2.1 (F _ _ (by unfold R3 RT RG; omega)) (fun i a b => F _ _ (by unfold R3 RT RG; omega)), MI_fr (im := A.2.2) hi hA.2.2.2 (fun i hi => F _ _ (by unfold R3 RT RG; omega)) (fun i a b => F _ _ (by unfold R3 RT RG; omega))⟩
  exact OK.so ⟨rfl, key, fun k i hk => F k i (by unfold ML at hk; unfold R3 RT RG; omega)⟩
theorem m_textOk {σ v τ : Sto} {ρ : Rho} {A : AS} {R : Except Er (Sheet × Nat)} {D : Sheet} {n : Nat} (hρ : Md ρ) (hA : AOK A) (h : MR σ A) (v3 : v 92 3 = 0) (v5 : v 92 5 = -1) (vF : Fr R3 σ v) (hR : R = .ok (D, n)) (hS : SOK D) (hg : τ 92 4 = 0) (hM : MS τ 48 D) (f : Fr RG v τ) : OK (BX12_text_64 ρ 92 τ (iI n)) (Mq σ (endT A R)) := by
  obtain ⟨hm, hp, hi⟩ := id h
  unfold BX12_text_64
  rw [g_isGood hg, ob_some, if_neg ne10, hR]
  refine OK.bi (m_copies (f := 48) (t := 0) (n := 46) hρ (by omega) (by omega) (by omega)) ?_
  intro s ⟨c1, c2⟩
  rw [bn_eq]
  have F : Fr R3 σ τ := vF.tr (r3_rt (rt_rg f))
  have G : ∀ k i, k ≠ 93 → ¬ (k = 92 ∧ i = 6) → su s 92 6 0 k i = τ k i := fun k i a b => by rw [su_n (by omega)]; exact c2 k i a
  have G3 : ∀ i, 46 ≤ i → su s 92 6 0 93 i = τ 93 i := fun i hi => by rw [su_k (by decide), c1, if_neg (by omega)]
  have key : MR (su s 92 6 0) ((D, A.1.2.1, 0, 0, -1, A.1.2.2.2.2.2), [], A.2.2) := by
    refine ⟨⟨MS_e (b := 48) hM hS.2.1 (fun i hi => ?_), ?_, fun i hi => ?_, ?_, ?_, ?_, ?_⟩, ⟨su_s, fun i hi => absurd hi (Nat.not_lt_zero _)⟩, MI_fr (im := A.2.2) hi hA.2.2.2 (fun i hi => (G _ _ (by decide) (by omega)).trans (F _ _ (by unfold R3 RT RG; omega))) (fun i a b => (G3 i (by omega)).trans (F _ _ (by unfold R3 RT RG; omega)))⟩
    · rw [su_k (by decide), c1, if_pos (by omega)]; congr 1; omega
    · exact ((G _ _ (by decide) (by omega)).trans (f 92 3 (by unfold RG; omega))).trans v3
    · exact ((G _ _ (by decide) (by omega)).trans (F _ _ (by unfold R3 RT RG; omega))).trans (hm.2.2.1 i hi)
    · exact (G _ _ (by decide) (by omega)).trans hg
    · exact ((G _ _ (by decide) (by omega)).trans (f 92 5 (by unfold RG; omega))).trans v5
    · exact ((G3 _ (by omega)).trans (F _ _ (by unfold R3 RT RG; omega))).trans hm.2.2.2.2.2.1
    · exact ((G3 _ (by omega)).trans (F _ _ (by unfold R3 RT RG; omega))).trans hm.2.2.2.2.2.2
  exact OK.so ⟨rfl, key, fun k i hk => (G k i (by unfold ML at hk; omega) (by unfold ML at hk; omega)).trans (F k i (by unfold ML at hk; unfold R3 RT RG; omega))⟩
theorem m_text {σ : Sto} {ρ : Rho} {A : AS} (hρ : Md ρ) (hA : AOK A) (h : MR σ A) : OK (MX12_text σ ρ 92) (Mq σ (aText A)) := by
  have hT : TOK (A.1.2.1, A.1.2.2.1) := ⟨hA.1.2.1, hA.1.2.2⟩
  have hl := hA.1.2.1
  obtain ⟨hm, hp, hi⟩ := id h
  unfold MX12_text aText
  rw [bn_eq, bn_eq, bn_eq, bn_eq, bn_eq]
  have a14 : su (su (su (su (su σ 92 14 (σ 92 3)) 92 3 0) 92 4 0) 92 5 (-1)) 92 15 0 92 14 = iI A.1.2.2.1 := by rw [su_i (by decide), su_i (by decide), su_i (by decide), su_i (by decide), su_s]; exact hm.2.1
  have a3 : su (su (su (su (su σ 92 14 (σ 92 3)) 92 3 0) 92 4 0) 92 5 (-1)) 92 15 0 92 3 = 0 := by rw [su_i (by decide), su_i (by decide), su_i (by decide), su_s]
  have a4 : su (su (su (su (su σ 92 14 (σ 92 3)) 92 3 0) 92 4 0) 92 5 (-1)) 92 15 0 92 4 = 0 := by rw [su_i (by decide), su_i (by decide), su_s]
  have a5 : su (su (su (su (su σ 92 14 (σ 92 3)) 92 3 0) 92 4 0) 92 5 (-1)) 92 15 0 92 5 = -1 := by rw [su_i (by decide), su_s]
  have a15 : su (su (su (su (su σ 92 14 (σ 92 3)) 92 3 0) 92 4 0) 92 5 (-1)) 92 15 0 92 15 = iI ((0 : Nat) : Int) := su_s
  have aF : Fr R3 σ (su (su (su (su (su σ 92 14 (σ 92 3)) 92 3 0) 92 4 0) 92 5 (-1)) 92 15 0) := ((((Fr.su (by unfold R3; omega)).tr (Fr.su (by unfold R3; omega))).tr (Fr.su (by unfold R3 RT; omega))).tr (Fr.su (by unfold R3 RT; omega))).tr (Fr.su (by unfold R3 RT RG; omega))
  generalize su (su (su (su (su σ 92 14 (σ 92 3)) 92 3 0) 92 4 0) 92 5 (-1)) 92 15 0 = t at a14 a3 a4 a5 a15 aF ⊢
  refine OK.bi (m_firsts hρ) ?_
  intro u ⟨u1, u2, u3⟩
  have uF : Fr R3 σ u := aF.tr (fun k i hn => by
    by_cases c : k = 93
    · subst c; exact u2 i (by unfold R3 RT RG at hn; omega)
    · exact u3 k i c)
  have hX : MXr u (A.1.2.1, A.1.2.2.1) := ⟨(u3 _ _ (by decide)).trans a14, fun i hi => by rw [uF 94 i (by unfold R3 RT RG; omega)]; exact hm.2.2.1 i hi⟩
  refine OK.bi (m_takes (a := 0) hρ hT hX (Nat.zero_le _) ((u3 _ _ (by decide)).trans a15)) ?_
  intro v ⟨v1, v2⟩
  rw [bn_eq]
  have v3 : v 92 3 = 0 := ((v2 _ _ (by unfold R92; omega)).trans (u3 _ _ (by decide))).trans a3
  have v4 : v 92 4 = 0 := ((v2 _ _ (by unfold R92; omega)).trans (u3 _ _ (by decide))).trans a4
  have v5 : v 92 5 = -1 := ((v2 _ _ (by unfold R92; omega)).trans (u3 _ _ (by decide))).trans a5
  have vX := MX_92 hX v2
  have vM := MS_r92 u1 v2
  have vF : Fr R3 σ v := uF.tr (r3_rt (rt_rg (rg_92 v2)))
  generalize hT2 : ((A.1.2.1, A.1.2.2.1) : Tp) = T at hT hX v1 vX ⊢
  have hl2 : T.2 ≤ 500 := hT.1
  generalize hR : pTxt T 500 D0 0 0 = R
  refine run_g (S := Sto) (call := fun (g : Sto → Int32 → Option (Int32 × Sto)) s (k : Nat) => g s (iI k)) (N := 501) (I := fun n τ => (n ≤ 500 ∧ ∃ D a, R = pTxt T (500 - n) D a n ∧ n ≤ a ∧ a ≤ T.2 ∧ SOK D ∧ τ 92 4 = 0 ∧ TR τ T a ∧ MS τ 48 D ∧ Fr RG v τ) ∨ ∃ e, R = .error e ∧ Bad v τ e) (Post := fun o => OK o _) ?_ ?_ (by unfold FU; omega) (k0 := 0) (by omega) (s := v) (Or.inl ⟨by omega, D0, 0, hR.symm, Nat.le_refl _, Nat.zero_le _, SOK_D0, v4, v1, vM, Fr.rf⟩)
  · intro g τ hI
    show OK (FX12_text_40 ρ 92 (BX12_text_64 ρ 92) g τ (iI (501 : Nat))) _
    rcases hI with ⟨z, -⟩ | ⟨e, r1, r2⟩
    · omega
    · unfold FX12_text_40
      rw [b_isGood r2.2.2.1, ob_some, if_pos rfl]
      exact m_textBad hρ hA h v3 vF r1 r2
  · intro g τ n hI hn ih
    show OK (FX12_text_40 ρ 92 (BX12_text_64 ρ 92) g τ (iI n)) _
    unfold FX12_text_40
    rcases hI with ⟨n5, D, a, r1, r2, r3, r4, r5, r6, r7, r8⟩ | ⟨e, r1, r2⟩
    · have hk4 := @rk_le T a
      have r0 : rk T a = 0 ↔ tkd T a = 0 := by
        have := @tkd_le T a
        unfold rk
        by_cases c4 : tkd T a = 4
        · rw [if_pos c4]; omega
        · rw [if_neg c4]
          by_cases c5 : tkd T a = 5
          · rw [if_pos c5]; omega
          · rw [if_neg c5]
      rw [g_isGood r5, ob_some, if_neg ne10, r6.2.1]
      by_cases c : tkd T a = 0
      · rw [if_pos (by rw [r0.mpr c]; rfl)]
        have eR : R = .ok (D, n) := by
          rw [r1]
          by_cases c5 : n = 500
          · rw [c5]; rfl
          · rw [show 500 - n = (499 - n) + 1 by omega]
            unfold pTxt
            rw [if_pos c]
        exact m_textOk hρ hA h v3 v5 vF eR r4 r5 r7 r8
      · have n5' : n < 500 := by
          refine Classical.byContradiction fun z => c (tkd_end r3 (by omega))
        rw [if_neg (by rw [w0, iI_eqN (by omega) (by omega)]; exact fun z => c (r0.mp z))]
        have hX2 := MX_rt vX (rt_rg r8)
        refine OK.bi (m_readsLine hρ hT hX2 r3 r6 r5 r7 r4) ?_
        intro s o
        rw [bn_eq, iI_succ]
        rw [show 500 - n = (499 - n) + 1 by omega] at r1
        unfold pTxt at r1
        rw [if_neg c] at r1
        refine ih s ?_
        cases hr : pLine T D a with
        | error e =>
          rw [hr] at o r1
          exact Or.inr ⟨e, r1, Bad.fr o (rt_rg r8)⟩
        | ok d =>
          rw [hr] at o r1
          obtain ⟨o1, o2, o3, o4⟩ := o
          have hd := pLine_ok r4 r3 hr
          dsimp only at r1
          exact Or.inl ⟨by omega, d.1, d.2, by rw [r1, show 500 - (n + 1) = 499 - n by omega], by omega, hd.2.2, hd.1, o1, o2, o3, r8.tr o4⟩
    · rw [b_isGood r2.2.2.1, ob_some, if_pos rfl]
      exact m_textBad hρ hA h v3 vF r1 r2
