/-! TEXT: the reference's conic lines; a line -/
theorem sg2 {σ : Sto} {ρ : Rho} {v : Nat → Int} {f : Sto → Option Sto} {Q : Sto → Prop} (hρ : Md ρ) (hv : FI σ 99 v) (k a b : Nat) (hk : k < 6) (ha : a < 6) (hb : b < 6) (h : OK (f (su σ 98 k (iI (v a * v b)))) Q) :
    OK (Option.bind (ρ 92 13) fun u => Option.bind (ρ 92 19) fun j1 => Option.bind (ag σ j1 (OfNat.ofNat a : Int32)) fun x => Option.bind (ρ 92 19) fun j2 => Option.bind (ag σ j2 (OfNat.ofNat b : Int32)) fun y => Option.bind (ap σ u (OfNat.ofNat k : Int32) (x * y)) f) Q := by
  rw [hρ.2.2.2.2.2.1, ob_some, hρ.2.2.2.2.2.2, ob_some, ag99 a ha, ob_some, ob_some, ag99 b hb, ob_some, hv a ha, hv b hb, iI_mul, ap98 k hk, ob_some]
  exact h
theorem sg4 {σ : Sto} {ρ : Rho} {v : Nat → Int} {f : Sto → Option Sto} {Q : Sto → Prop} (hρ : Md ρ) (hv : FI σ 99 v) (k a b c d : Nat) (hk : k < 6) (ha : a < 6) (hb : b < 6) (hc : c < 6) (hd : d < 6) (h : OK (f (su σ 98 k (iI (v a * v b + v c * v d)))) Q) :
    OK (Option.bind (ρ 92 13) fun u => Option.bind (ρ 92 19) fun j1 => Option.bind (ag σ j1 (OfNat.ofNat a : Int32)) fun x => Option.bind (ρ 92 19) fun j2 => Option.bind (ag σ j2 (OfNat.ofNat b : Int32)) fun y => Option.bind (ρ 92 19) fun j3 => Option.bind (ag σ j3 (OfNat.ofNat c : Int32)) fun z => Option.bind (ρ 92 19) fun j4 => Option.bind (ag σ j4 (OfNat.ofNat d : Int32)) fun w => Option.bind (ap σ u (OfNat.ofNat k : Int32) (x * y + z * w)) f) Q := by
  rw [hρ.2.2.2.2.2.1, ob_some, hρ.2.2.2.2.2.2, ob_some, ag99 a ha, ob_some, ob_some, ag99 b hb, ob_some, ob_some, ag99 c hc, ob_some, ob_some, ag99 d hd, ob_some, hv a ha, hv b hb, hv c hc, hv d hd, iI_mul, iI_mul, iI_add, ap98 k hk, ob_some]
  exact h
theorem FI99 {σ : Sto} {v : Nat → Int} {k : Nat} {x : Int32} (h : FI σ 99 v) : FI (su σ 98 k x) 99 v := FI_k h (fun i => su_k (by decide))
/-- what follows the last step -/
theorem m_put {σ σ0 : Sto} {ρ : Rho} {T : Tp} {D : Sheet} {a c e : Nat} {a2 : Int32} {v : Nat → Int} (hρ : Md ρ) (hg : σ 92 4 = 0) (ht : TR σ T e) (hM : MS σ 48 D) (hS : SOK D) (hc : c < 6) (hf : FI σ 98 v) (hr : ∀ i, i < 6 → rg32 (v i)) (f0 : Fr RG σ0 σ) : OK (BX12_readsConic_235 ρ 92 (iI (pl T a)) a2 σ (iI c)) (MLQ σ0 T (match putV D c v with | none => .error (3, pl T a) | some D' => .ok (D', e))) := by
  unfold BX12_readsConic_235 putV
  rw [m_whyNot hρ hf hr, ob_some]
  have bad : OK (Option.bind (MX12_fails σ 92 (3 : Int32) (iI (pl T a))) fun c3 => some c3) (fun s => Bad σ0 s (3, pl T a)) := by
    refine OK.bi (m_fails (e := (3, pl T a)) hg rfl rfl er3) ?_
    intro s hb2
    exact OK.so (hb2.fr (rt_rg f0))
  cases zerB v with
  | true =>
    rw [if_pos rfl, if_neg (show ¬ (3 : Int32) ≤ 0 by decide), if_pos rfl]
    exact bad
  | false =>
    rw [if_neg (show ¬ (false = true) by decide), if_neg (show ¬ (false = true) by decide)]
    cases limB v with
    | false =>
      rw [if_neg (show ¬ (false = true) by decide), if_neg (show ¬ (4 : Int32) ≤ 0 by decide), if_neg (show ¬ (false = true) by decide)]
      exact bad
    | true =>
      rw [if_pos rfl, if_pos (show (0 : Int32) ≤ 0 by decide), if_pos rfl]
      refine OK.bi (m_takesIts (b := 48) hρ hM (by omega) hc hS.2.1 hf) ?_
      intro s ⟨k1, k2, k3⟩
      exact OK.so ⟨(k3 _ _ (by decide)).trans hg, TR_k ht (fun i _ => k3 _ _ (by decide)), k1, f0.tr (fun k i hn => by
        by_cases q : k = 93
        · subst q; exact k2 i (by unfold RG at hn; omega)
        · exact k3 k i q)⟩
theorem m_conic75 {σ σ0 : Sto} {ρ : Rho} {T : Tp} {D : Sheet} {a c e w : Nat} {v : Nat → Int} (hρ : Md ρ) (hg : σ 92 4 = 0) (ht : TR σ T e) (hM : MS σ 48 D) (hS : SOK D) (hc : c < 6) (hf : FI σ 98 v) (hf2 : FI σ 99 v) (hb : ∀ i, bd (v i) 99) (f0 : Fr RG σ0 σ) (hw : w = 2 ∨ w = 3) : OK (BX12_readsConic_75 ρ 92 (iI (pl T a)) (if w = 2 then 0 else 1) σ (iI c)) (MLQ σ0 T (match carry D w (c : Nat) v with | none => .error (3, pl T a) | some D' => .ok (D', e))) := by
  unfold BX12_readsConic_75 carry
  rcases hw with rfl | rfl
  · rw [if_pos (show (2 : Nat) = 2 from rfl), if_pos rfl, if_neg (show ¬ (2 : Nat) = 0 by decide), if_neg (show ¬ (2 : Nat) = 1 by decide), if_neg (show ¬ (2 : Nat) = 3 by decide)]
    exact m_put hρ hg ht hM hS hc hf (fun i _ => bd_rg (hb i) (by decide)) f0
  · rw [if_neg (show ¬ (3 : Nat) = 2 by decide), if_neg ne10, if_neg (show ¬ (3 : Nat) = 0 by decide), if_neg (show ¬ (3 : Nat) = 1 by decide), if_pos (show (3 : Nat) = 3 from rfl)]
    refine sg2 hρ hf2 0 0 3 (by omega) (by omega) (by omega) ?_
    refine sg2 hρ (FI99 hf2) 1 1 4 (by omega) (by omega) (by omega) ?_
    refine sg2 hρ (FI99 (FI99 hf2)) 2 2 5 (by omega) (by omega) (by omega) ?_
    refine sg4 hρ (FI99 (FI99 (FI99 hf2))) 3 1 5 2 4 (by omega) (by omega) (by omega) (by omega) (by omega) ?_
    refine sg4 hρ (FI99 (FI99 (FI99 (FI99 hf2)))) 4 2 3 0 5 (by omega) (by omega) (by omega) (by omega) (by omega) ?_
    refine sg4 hρ (FI99 (FI99 (FI99 (FI99 (FI99 hf2))))) 5 0 4 1 3 (by omega) (by omega) (by omega) (by omega) (by omega) ?_
    have fr : ∀ k i, k ≠ 98 → F6 σ 98 (v6 (v 0 * v 3) (v 1 * v 4) (v 2 * v 5) (v 1 * v 5 + v 2 * v 4) (v 2 * v 3 + v 0 * v 5) (v 0 * v 4 + v 1 * v 3)) k i = σ k i := fun k i hk => F6_k hk
    have hF : FI (F6 σ 98 (v6 (v 0 * v 3) (v 1 * v 4) (v 2 * v 5) (v 1 * v 5 + v 2 * v 4) (v 2 * v 3 + v 0 * v 5) (v 0 * v 4 + v 1 * v 3))) 98 (mulV v) := FI_cg F6_FI (fun i hi => by
      unfold mulV
      rw [Int.add_comm (v 2 * v 3)])
    exact m_put (σ := F6 σ 98 (v6 (v 0 * v 3) (v 1 * v 4) (v 2 * v 5) (v 1 * v 5 + v 2 * v 4) (v 2 * v 3 + v 0 * v 5) (v 0 * v 4 + v 1 * v 3))) hρ ((fr _ _ (by decide)).trans hg) (TR_k ht (fun i _ => fr _ _ (by decide))) (MS_93 hM (fun i => fr _ _ (by decide))) hS hc hF (mulV_rg hb) (f0.tr (fun k i hn => fr k i (fun e => hn (by unfold RG; omega))))
theorem m_conic33 {σ σ0 : Sto} {ρ : Rho} {T : Tp} {D : Sheet} {a c e w : Nat} {v : Nat → Int} (hρ : Md ρ) (hT : TOK T) (hX : MXr σ T) (he : e ≤ T.2) (hg : σ 92 4 = 0) (ht : TR σ T e) (hM : MS σ 48 D) (hS : SOK D) (hc : c < 6) (hf2 : FI σ 99 v) (hb : ∀ i, bd (v i) 99) (f0 : Fr RG σ0 σ) (hw : w = 2 ∨ w = 3) : OK (BX12_readsConic_33 ρ 92 (iI (pl T a)) (if w = 2 then 0 else 1) σ (iI c)) (MLQ σ0 T (pEnd T D a w (c : Nat) (.ok (v, e)))) := by
  unfold BX12_readsConic_33 pEnd
  dsimp only
  rcases m_ends hρ hT hX he ht hg with ⟨c4, z⟩ | ⟨c4, z⟩
  · rw [if_neg (show ¬ (tkd T e ≠ 4) from fun z => z c4)]
    refine OK.bi z ?_
    intro s ⟨k1, k2, k3⟩
    have f1 : Fr RG σ0 s := f0.tr (rg_92 k3)
    have hM1 := MS_r92 hM k3
    have hf1 : FI s 99 v := FI_k hf2 (fun i => k3 _ _ (by unfold R92; omega))
    rw [g_isGood k1, ob_some, if_neg ne10, bn_eq]
    refine run_g (S := Sto) (call := fun (g : Sto → Int32 → Int32 → Option Sto) τ (k : Nat) => g τ (iI c) (iI k)) (N := 6) (I := fun k τ => (∀ i, i < k → τ 98 i = iI (v i)) ∧ ∀ k i, k ≠ 98 → τ k i = s k i) (Post := fun o => OK o _) ?_ ?_ (by unfold FU; omega) (k0 := 0) (by omega) (s := s) ⟨fun i hi => by omega, fun _ _ _ => rfl⟩
    · intro g τ ⟨i1, i2⟩
      show OK (FX12_readsConic_48 ρ 92 (iI (pl T a)) (if w = 2 then 0 else 1) (BX12_readsConic_75 ρ 92 (iI (pl T a)) (if w = 2 then 0 else 1)) g τ (iI c) (iI (6 : Nat))) _
      unfold FX12_readsConic_48
      rw [if_pos (by decide)]
      exact m_conic75 hρ ((i2 _ _ (by decide)).trans k1) (TR_k k2 (fun i _ => i2 _ _ (by decide))) (MS_93 hM1 (fun i => i2 _ _ (by decide))) hS hc i1 (FI_k hf1 (fun i => i2 _ _ (by decide))) hb (f1.tr (fun k i hn => i2 k i (fun e => hn (by unfold RG; omega)))) hw
    · intro g τ k ⟨i1, i2⟩ hk ih
      show OK (FX12_readsConic_48 ρ 92 (iI (pl T a)) (if w = 2 then 0 else 1) (BX12_readsConic_75 ρ 92 (iI (pl T a)) (if w = 2 then 0 else 1)) g τ (iI c) (iI k)) _
      unfold FX12_readsConic_48
      rw [if_neg (by rw [w6, iI_leN (by omega) (by omega)]; omega), hρ.2.2.2.2.2.1, ob_some, hρ.2.2.2.2.2.2, ob_some, ag99i (by omega) (by omega), ob_some, show ((k : Int)).toNat = k from rfl, i2 99 k (by decide), hf1 k hk, ap98i (by omega) (by omega), ob_some, bn_eq, iI_succ, show ((k : Int)).toNat = k from rfl]
      refine ih _ ⟨fun i hi => ?_, fun k' i' hk' => by rw [su_k hk']; exact i2 k' i' hk'⟩
      by_cases q : i = k
      · subst q; rw [su_s]
      · rw [su_i q]; exact i1 i (by omega)
  · rw [if_pos c4]
    refine OK.bi z ?_
    intro s hb2
    rw [b_isGood hb2.2.2.1, ob_some, if_pos rfl]
    exact OK.so (hb2.fr (rt_rg f0))
theorem m_conicBad {σ σ0 : Sto} {ρ : Rho} {e : Er} {a1 a2 x : Int32} (hρ : Md ρ) (hb : Bad σ0 σ e) : ∀ k : Nat, k ≤ 6 → OK (fixN (fun _ _ _ => none) (FX12_readsConic_9 ρ 92 a1 a2 (BX12_readsConic_33 ρ 92 a1 a2)) FU σ x (iI k)) (fun s => Bad σ0 s e) := by
  intro k hk
  refine run_g (S := Sto) (call := fun (g : Sto → Int32 → Int32 → Option Sto) τ (k : Nat) => g τ x (iI k)) (N := 6) (I := fun k τ => Bad σ0 τ e) (Post := fun o => OK o _) ?_ ?_ (by unfold FU; omega) (k0 := k) (by omega) (s := σ) hb
  · intro g τ hI
    show OK (FX12_readsConic_9 ρ 92 a1 a2 (BX12_readsConic_33 ρ 92 a1 a2) g τ x (iI (6 : Nat))) _
    unfold FX12_readsConic_9 BX12_readsConic_33
    rw [if_pos (by decide), b_ends hI.2.2.1, ob_some, b_isGood hI.2.2.1, ob_some, if_pos rfl]
    exact OK.so hI
  · intro g τ k hI hk ih
    show OK (FX12_readsConic_9 ρ 92 a1 a2 (BX12_readsConic_33 ρ 92 a1 a2) g τ x (iI k)) _
    unfold FX12_readsConic_9
    rw [if_neg (by rw [w6, iI_leN (by omega) (by omega)]; omega), hρ.2.2.2.2.2.2, ob_some, b_signed hI.2.2.1, ob_some, ap99i (by omega) (by omega), ob_some, bn_eq, iI_succ]
    exact ih _ ⟨by rw [su_k (by decide)]; exact hI.1, by rw [su_k (by decide)]; exact hI.2.1, by rw [su_k (by decide)]; exact hI.2.2.1, hI.2.2.2.tr (Fr.su (by unfold RT RG; omega))⟩
theorem m_readsConic {σ : Sto} {ρ : Rho} {T : Tp} {D : Sheet} {a b w : Nat} (hρ : Md ρ) (hT : TOK T) (h : MXr σ T) (hb : b ≤ T.2) (ht : TR σ T b) (hg : σ 92 4 = 0) (hM : MS σ 48 D) (hS : SOK D) (hw : w = 2 ∨ w = 3) : OK (MX12_readsConic σ ρ 92 (iI (pl T a)) (if w = 2 then 0 else 1)) (MLQ σ T (lineB T D a b w (pSix T (nx T b) 6))) := by
  unfold MX12_readsConic lineB
  have hn := m_numeral (lim := 5) hρ hT h hb ht hg ⟨by decide, by decide⟩
  rw [show (5 : Int32) = iI 5 from rfl]
  refine OK.bi hn ?_
  rintro ⟨x, s⟩ o
  rw [bn_eq, bn_eq]
  dsimp only
  unfold NQ numR at o
  by_cases c2 : tkd T b = 2
  · have hv := vl_bd hb c2
    rw [if_neg (show ¬ (tkd T b ≠ 2) from fun z => z c2)] at o ⊢
    by_cases c3 : vl T b < 6
    · rw [if_neg (by omega)] at o
      obtain ⟨p1, p2, p3, p4⟩ := o
      dsimp only at p1 p2 p3 p4
      rw [cs_pos (show can D w (vl T b) by unfold can; rw [if_neg (by omega), if_neg (by omega)]; exact c3), p1]
      obtain ⟨c, hc⟩ : ∃ c : Nat, vl T b = c := ⟨(vl T b).toNat, by omega⟩
      rw [hc]
      have c6 : c < 6 := by omega
      have hb2 := nx_T hb
      refine run_g (S := Sto) (call := fun (g : Sto → Int32 → Int32 → Option Sto) τ (k : Nat) => g τ (iI c) (iI k)) (N := 6) (I := fun k τ => match pSix T (nx T b) k with | .error e => Bad σ τ e | .ok d => τ 92 4 = 0 ∧ TR τ T d.2 ∧ MS τ 48 D ∧ (∀ i, i < k → τ 99 i = iI (d.1 i)) ∧ Fr RG σ τ) (Post := fun o => OK o _) ?_ ?_ (by unfold FU; omega) (k0 := 0) (by omega) (s := s) ⟨p2, p3, MS_r92 hM p4, fun i hi => by omega, rg_92 p4⟩
      · intro g τ hI
        show OK (FX12_readsConic_9 ρ 92 (iI (pl T a)) (if w = 2 then 0 else 1) (BX12_readsConic_33 ρ 92 (iI (pl T a)) (if w = 2 then 0 else 1)) g τ (iI c) (iI (6 : Nat))) _
        unfold FX12_readsConic_9
        rw [if_pos (by decide)]
        cases hr : pSix T (nx T b) 6 with
        | error e =>
          rw [hr] at hI
          dsimp only at hI
          unfold BX12_readsConic_33
          rw [b_ends hI.2.2.1, ob_some, b_isGood hI.2.2.1, ob_some, if_pos rfl]
          exact OK.so hI
        | ok d =>
          rw [hr] at hI
          obtain ⟨q1, q2, q3, q4, q5⟩ := hI
          have hd := pSix_v hr hb2
          exact m_conic33 hρ hT (MX_rt h (rt_rg q5)) hd.1.2 q1 q2 q3 hS c6 q4 hd.2 q5 hw
      · intro g τ k hI hk ih
        show OK (FX12_readsConic_9 ρ 92 (iI (pl T a)) (if w = 2 then 0 else 1) (BX12_readsConic_33 ρ 92 (iI (pl T a)) (if w = 2 then 0 else 1)) g τ (iI c) (iI k)) _
        unfold FX12_readsConic_9
        rw [if_neg (by rw [w6, iI_leN (by omega) (by omega)]; omega), hρ.2.2.2.2.2.2, ob_some]
        cases hr : pSix T (nx T b) k with
        | error e =>
          rw [hr] at hI
          dsimp only at hI
          rw [b_signed hI.2.2.1, ob_some, ap99i (by omega) (by omega), ob_some, bn_eq, iI_succ]
          refine ih _ ?_
          rw [pSix_er hr (by omega)]
          exact ⟨by rw [su_k (by decide)]; exact hI.1, by rw [su_k (by decide)]; exact hI.2.1, by rw [su_k (by decide)]; exact hI.2.2.1, hI.2.2.2.tr (Fr.su (by unfold RT RG; omega))⟩
        | ok d =>
          rw [hr] at hI
          obtain ⟨q1, q2, q3, q4, q5⟩ := hI
          have hd := pSix_v hr hb2
          refine OK.bi (m_signed hρ hT (MX_rt h (rt_rg q5)) hd.1.2 q2 q1) ?_
          rintro ⟨y, s2⟩ o2
          have hs : pSix T (nx T b) (k + 1) = (match pSgn T d.2 with | .error e => .error e | .ok x => .ok (vset d.1 k x.1, x.2)) := by
            rw [pSix, hr]
            rfl
          rw [ap99i (by omega) (by omega), ob_some, bn_eq, iI_succ, show ((k : Int)).toNat = k from rfl]
          cases hp : pSgn T d.2 with
          | error e =>
            rw [hp] at o2 hs
            dsimp only at o2 hs
            refine ih _ ?_
            rw [hs]
            have o2 := o2.fr (rt_rg q5)
            exact ⟨by rw [su_k (by decide)]; exact o2.1, by rw [su_k (by decide)]; exact o2.2.1, by rw [su_k (by decide)]; exact o2.2.2.1, o2.2.2.2.tr (Fr.su (by unfold RT RG; omega))⟩
          | ok z =>
            rw [hp] at o2 hs
            dsimp only at o2 hs
            obtain ⟨r1, r2, r3, r4⟩ := o2
            refine ih _ ?_
            rw [hs]
            dsimp only
            refine ⟨by rw [su_k (by decide)]; exact r2, TR_k r3 (fun i _ => su_k (by decide)), MS_93 (MS_r92 q3 r4) (fun i => su_k (by decide)), fun i hi => ?_, (q5.tr (rg_92 r4)).tr (Fr.su (by unfold RG; omega))⟩
            unfold vset
            by_cases q : i = k
            · subst q; rw [su_s, if_pos rfl, r1]
            · rw [su_i q, if_neg q, r4 99 i (by unfold R92; omega)]; exact q4 i (by omega)
    · rw [if_pos (by omega)] at o
      rw [cs_neg (show ¬ can D w (vl T b) by unfold can; rw [if_neg (by omega), if_neg (by omega)]; exact c3)]
      exact m_conicBad hρ o.2 0 (by omega)
  · rw [if_pos c2] at o ⊢
    exact m_conicBad hρ o.2 0 (by omega)
theorem pLine_B {T : Tp} {D : Sheet} {a w : Nat} (h : wkO T a = some w) : pLine T D a = lineB T D a (nx T a) w (if w = 2 ∨ w = 3 then pSix T (nx T (nx T a)) 6 else .ok (fun _ => 0, nx T (nx T a))) := by
  unfold pLine lineB
  rw [h]
theorem MLQ.fr {σ0 σ s : Sto} {T : Tp} {r : Except Er (Sheet × Nat)} (h : MLQ σ T r s) (f : Fr RG σ0 σ) : MLQ σ0 T r s := by
  unfold MLQ at h ⊢
  cases r with
  | error e => exact Bad.fr h (rt_rg f)
  | ok d => exact ⟨h.1, h.2.1, h.2.2.1, f.tr h.2.2.2⟩
theorem m_readsLine {σ : Sto} {ρ : Rho} {T : Tp} {D : Sheet} {a : Nat} (hρ : Md ρ) (hT : TOK T) (h : MXr σ T) (ha : a ≤ T.2) (ht : TR σ T a) (hg : σ 92 4 = 0) (hM : MS σ 48 D) (hS : SOK D) : OK (MX12_readsLine σ ρ 92) (MLQ σ T (pLine T D a)) := by
  have hb := nx_T ha
  have ws : ∀ {k : Nat}, k < 4 → (wis T a k = true ∧ OK (MX12_hasWord σ ρ 92 (LI (wcode k))) (fun o => o.1 = 1 ∧ o.2 92 4 = 0 ∧ TR o.2 T (nx T a) ∧ Fr R92 σ o.2)) ∨ (wis T a k = false ∧ MX12_hasWord σ ρ 92 (LI (wcode k)) = some (0, σ)) := fun hk => m_hasWord hρ hT h ha ht hg hk
  unfold MX12_readsLine
  rw [bn_eq, ht.2.2.1, show (8864267 : Int64) = LI (wcode 0) from rfl, show (8805260 : Int64) = LI (wcode 1) from rfl, show (1900020 : Int64) = LI (wcode 2) from rfl, show (315918 : Int64) = LI (wcode 3) from rfl]
  rcases ws (k := 0) (by omega) with ⟨q0, e⟩ | ⟨q0, e⟩
  · have hw : wkO T a = some 0 := by unfold wkO; rw [if_pos q0]
    rw [pLine_B hw, if_neg (by omega)]
    refine OK.bi e ?_
    rintro ⟨x, s⟩ ⟨r1, r2, r3, r4⟩
    dsimp only at r1 r2 r3 r4 ⊢
    rw [r1, if_neg ne10]
    refine OK.bi (m_readsPrime (a := a) hρ hT (MX_92 h r4) hb r3 r2 (MS_r92 hM r4) hS) ?_
    intro s2 o2
    exact OK.so (MLQ.fr o2 (rg_92 r4))
  · rw [e, ob_some]
    dsimp only
    rw [if_pos rfl]
    rcases ws (k := 1) (by omega) with ⟨q1, e⟩ | ⟨q1, e⟩
    · have hw : wkO T a = some 1 := by unfold wkO; rw [q0, if_neg (by decide), if_pos q1]
      rw [pLine_B hw, if_neg (by omega)]
      refine OK.bi e ?_
      rintro ⟨x, s⟩ ⟨r1, r2, r3, r4⟩
      dsimp only at r1 r2 r3 r4 ⊢
      rw [r1, if_neg ne10]
      refine OK.bi (m_readsPoint (a := a) hρ hT (MX_92 h r4) hb r3 r2 (MS_r92 hM r4) hS) ?_
      intro s2 o2
      exact OK.so (MLQ.fr o2 (rg_92 r4))
    · rw [e, ob_some]
      dsimp only
      rw [if_pos rfl]
      rcases ws (k := 2) (by omega) with ⟨q2, e⟩ | ⟨q2, e⟩
      · have hw : wkO T a = some 2 := by unfold wkO; rw [q0, if_neg (by decide), q1, if_neg (by decide), if_pos q2]
        rw [pLine_B hw, if_pos (Or.inl rfl)]
        refine OK.bi e ?_
        rintro ⟨x, s⟩ ⟨r1, r2, r3, r4⟩
        dsimp only at r1 r2 r3 r4 ⊢
        rw [r1, if_neg ne10]
        refine OK.bi (m_readsConic (a := a) (w := 2) hρ hT (MX_92 h r4) hb r3 r2 (MS_r92 hM r4) hS (Or.inl rfl)) ?_
        intro s2 o2
        exact OK.so (MLQ.fr o2 (rg_92 r4))
      · rw [e, ob_some]
        dsimp only
        rw [if_pos rfl]
        rcases ws (k := 3) (by omega) with ⟨q3, e⟩ | ⟨q3, e⟩
        · have hw : wkO T a = some 3 := by unfold wkO; rw [q0, if_neg (by decide), q1, if_neg (by decide), q2, if_neg (by decide), if_pos q3]
          rw [pLine_B hw, if_pos (Or.inr rfl)]
          refine OK.bi e ?_
          rintro ⟨x, s⟩ ⟨r1, r2, r3, r4⟩
          dsimp only at r1 r2 r3 r4 ⊢
          rw [r1, if_neg ne10]
          refine OK.bi (m_readsConic (a := a) (w := 3) hρ hT (MX_92 h r4) hb r3 r2 (MS_r92 hM r4) hS (Or.inr rfl)) ?_
          intro s2 o2
          exact OK.so (MLQ.fr o2 (rg_92 r4))
        · have hw : wkO T a = none := by unfold wkO; rw [q0, if_neg (by decide), q1, if_neg (by decide), q2, if_neg (by decide), q3, if_neg (by decide)]
          rw [e, ob_some]
          dsimp only
          rw [if_pos rfl]
          refine OK.bi (m_fails (e := (1, pl T a)) hg rfl ht.2.2.1 er1) ?_
          intro s hb2
          unfold pLine
          rw [hw]
          exact OK.so hb2
