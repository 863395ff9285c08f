/-! TEXT: the reference's lines, the rest -/
def MLQ (σ : Sto) (T : Tp) (r : Except Er (Sheet × Nat)) (s : Sto) : Prop := match r with
  | .error e => Bad σ s e
  | .ok d => s 92 4 = 0 ∧ TR s T d.2 ∧ MS s 48 d.1 ∧ Fr RG σ s
noncomputable def lineB (T : Tp) (D : Sheet) (a b w : Nat) (r : Except Er ((Nat → Int) × Nat)) : Except Er (Sheet × Nat) := if tkd T b ≠ 2 then .error (1, pl T b) else cs (can D w (vl T b)) (pEnd T D a w (vl T b) r) (.error (2, pl T b))
theorem TR_k {σ s : Sto} {T : Tp} {a : Nat} (h : TR σ T a) (e : ∀ i, 15 ≤ i → s 92 i = σ 92 i) : TR s T a := ⟨(e _ (by omega)).trans h.1, (e _ (by omega)).trans h.2.1, (e _ (by omega)).trans h.2.2.1, by rw [e 18 (by omega), e 1018 (by omega)]; exact h.2.2.2⟩
theorem m_readsPrime {σ : Sto} {ρ : Rho} {T : Tp} {D : Sheet} {a b : Nat} (hρ : Md ρ) (hT : TOK T) (h : MXr σ T) (hb : b ≤ T.2) (ht : TR σ T b) (hg : σ 92 4 = 0) (hM : MS σ 48 D) (hS : SOK D) : OK (MX12_readsPrime σ ρ 92) (MLQ σ T (lineB T D a b 0 (.ok (fun _ => 0, nx T b)))) := by
  have hk := @rk_le T b
  have hp := hS.1.le
  have B : ∀ s e, Bad σ s e → OK (BX12_readsPrime_35 ρ 92 s) (fun s => Bad σ s e) := by
    intro s e hb
    unfold BX12_readsPrime_35
    rw [b_numeral hb.2.2.1, ob_some, bn_eq, b_ends hb.2.2.1, ob_some, b_isGood hb.2.2.1, ob_some, if_pos rfl]
    exact OK.so hb
  unfold MX12_readsPrime lineB
  rw [g_isGood hg, ob_some, if_neg ne10, ht.2.1]
  by_cases c2 : tkd T b = 2
  · have hv := vl_bd hb c2
    have hvr : rg32 (vl T b) := ⟨by omega, by omega⟩
    rw [if_pos (by rw [rk_2.mpr c2]; rfl), if_neg (show ¬ (tkd T b ≠ 2) from fun z => z c2), ht.2.2.2, rvv_2 c2, LI_32 hvr]
    rcases m_isPrime hvr with ⟨q, e⟩ | ⟨q, e⟩
    · rw [e, ob_some, if_neg ne10, cs_pos (show can D 0 (vl T b) from q)]
      unfold BX12_readsPrime_35 pEnd
      have hv23 : ¬ (23 < vl T b) := by unfold isPr at q; omega
      have hn := m_numeral (lim := 23) hρ hT h hb ht hg ⟨by decide, by decide⟩
      unfold numR at hn
      rw [if_neg (show ¬ (tkd T b ≠ 2) from fun z => z c2), if_neg hv23] at hn
      refine OK.bi hn ?_
      rintro ⟨x, s⟩ ⟨p1, p2, p3, p4⟩
      dsimp only at p1 p2 p3 p4 ⊢
      rw [bn_eq, p1]
      have hX := MX_92 h p4
      have hMs := MS_r92 hM p4
      rcases m_ends hρ hT hX (nx_T hb) p3 p2 with ⟨c4, e⟩ | ⟨c4, e⟩
      · rw [if_neg (show ¬ (tkd T (nx T b) ≠ 4) from fun z => z c4)]
        refine OK.bi e ?_
        intro s2 ⟨k1, k2, k3⟩
        have hM2 := MS_r92 hMs k3
        have f2 : Fr RG σ s2 := rg_92 (p4.tr k3)
        unfold carry
        rw [g_isGood k1, ob_some, if_neg ne10, hρ.1, ob_some, ag93 84 (by decide), ob_some, show s2 93 84 = iI D.1 from hM2.1, if_pos (show (0 : Nat) = 0 from rfl)]
        have hx2 := (isPr_PR q).2
        by_cases d : (vl T b).toNat = D.1
        · rw [if_pos (by rw [iI_eq hvr ⟨by omega, by omega⟩]; omega), if_pos d]
          exact OK.so ⟨k1, k2, hM2, f2⟩
        · rw [if_neg (by rw [iI_eq hvr ⟨by omega, by omega⟩]; omega), if_neg d, ob_some, ap93 84 (by decide), ob_some, ob_some, ap93 85 (by decide), ob_some]
          have key : MS (su (su s2 93 84 (iI (vl T b))) 93 85 0) 48 ((vl T b).toNat, [], D.2.2) := by
            refine ⟨?_, ?_, fun i hi => ?_, fun k hk => absurd hk (Nat.not_lt_zero _)⟩
            · rw [su_i (by decide), su_s, hx2]
            · rw [su_s]; rfl
            · rw [su_i (by omega), su_i (by omega)]; exact hM2.2.2.1 i hi
          exact OK.so ⟨by rw [su_k (by decide), su_k (by decide)]; exact k1, TR_k k2 (fun i _ => by rw [su_k (by decide), su_k (by decide)]), key, (f2.tr (Fr.su (by unfold RG; omega))).tr (Fr.su (by unfold RG; omega))⟩
      · rw [if_pos c4]
        refine OK.bi e ?_
        intro s2 hb2
        rw [b_isGood hb2.2.2.1, ob_some, if_pos rfl]
        exact OK.so (hb2.fr (rt_rg (rg_92 p4)))
    · rw [e, ob_some, if_pos rfl, cs_neg (show ¬ can D 0 (vl T b) from q)]
      refine OK.bi (m_fails (e := (2, pl T b)) hg rfl ht.2.2.1 er2) ?_
      intro s hb2
      exact B s _ hb2
  · rw [if_neg (by rw [w2, iI_eqN (by omega) (by omega)]; exact fun z => c2 (rk_2.mp z)), if_pos c2]
    unfold BX12_readsPrime_35
    have hn := m_numeral (lim := 23) hρ hT h hb ht hg ⟨by decide, by decide⟩
    unfold numR at hn
    rw [if_pos c2] at hn
    refine OK.bi hn ?_
    rintro ⟨x, s⟩ ⟨p1, p2⟩
    dsimp only at p2 ⊢
    rw [bn_eq, b_ends p2.2.2.1, ob_some, b_isGood p2.2.2.1, ob_some, if_pos rfl]
    exact OK.so p2
theorem m_readsPoint {σ : Sto} {ρ : Rho} {T : Tp} {D : Sheet} {a b : Nat} (hρ : Md ρ) (hT : TOK T) (h : MXr σ T) (hb : b ≤ T.2) (ht : TR σ T b) (hg : σ 92 4 = 0) (hM : MS σ 48 D) (hS : SOK D) : OK (MX12_readsPoint σ ρ 92 (iI (pl T a))) (MLQ σ T (lineB T D a b 1 (.ok (fun _ => 0, nx T b)))) := by
  have hNP := NP_le hS.1
  have hl := hS.2.1
  unfold MX12_readsPoint lineB
  rw [hρ.1, ob_some, ag93 84 (by decide), ob_some, show σ 93 84 = iI D.1 from hM.1, bn_eq, m_places su_s, ob_some, show iI (NP D.1 : Nat) - (1 : Int32) = iI ((NP D.1 : Nat) - 1) by rw [w1, iI_sub]; rfl]
  have f7 : Fr RG σ (su σ 92 7 (iI D.1)) := Fr.su (by unfold RG; omega)
  have hg7 : su σ 92 7 (iI D.1) 92 4 = 0 := by rw [su_i (by decide)]; exact hg
  have ht7 : TR (su σ 92 7 (iI D.1)) T b := TR_k ht (fun i hi => su_i (by omega))
  have hX7 := MX_rt h (rt_rg f7)
  have hM7 : MS (su σ 92 7 (iI D.1)) 48 D := MS_93 hM (fun i => su_k (by decide))
  generalize su σ 92 7 (iI D.1) = t at f7 hg7 ht7 hX7 hM7 ⊢
  have hn := m_numeral (lim := ((NP D.1 : Nat) : Int) - 1) hρ hT hX7 hb ht7 hg7 ⟨by omega, by omega⟩
  unfold numR at hn
  by_cases c2 : tkd T b = 2
  · have hv := vl_bd hb c2
    rw [if_neg (show ¬ (tkd T b ≠ 2) from fun z => z c2)] at hn ⊢
    by_cases c3 : vl T b < NP D.1
    · rw [if_neg (by omega)] at hn
      rw [cs_pos (show can D 1 (vl T b) from c3)]
      obtain ⟨n, hn2⟩ : ∃ n : Nat, vl T b = n := ⟨(vl T b).toNat, by omega⟩
      unfold pEnd
      refine OK.bi hn ?_
      rintro ⟨x, s⟩ ⟨p1, p2, p3, p4⟩
      dsimp only at p1 p2 p3 p4 ⊢
      rw [bn_eq, p1]
      have hX := MX_92 hX7 p4
      have hMs := MS_r92 hM7 p4
      rcases m_ends hρ hT hX (nx_T hb) p3 p2 with ⟨c4, e⟩ | ⟨c4, e⟩
      · rw [if_neg (show ¬ (tkd T (nx T b) ≠ 4) from fun z => z c4)]
        refine OK.bi e ?_
        intro s2 ⟨k1, k2, k3⟩
        have hM2 := MS_r92 hMs k3
        have f2 : Fr RG σ s2 := f7.tr (rg_92 (p4.tr k3))
        have hm := m_markOf (b := 48) (q := n) hρ hM2 hl (mk_le hS) (by omega) (by omega)
        rw [show iI ((48 : Nat) : Int) = (48 : Int32) from rfl] at hm
        unfold carry
        rw [g_isGood k1, ob_some, if_neg ne10, hn2, hm, ob_some, if_neg (show ¬ (1 : Nat) = 0 by decide), if_pos (show (1 : Nat) = 1 from rfl)]
        simp only [cs_tn]
        have bad : OK (BX12_readsPoint_57 ρ 92 (iI (pl T a)) s2) (fun s => Bad σ s (3, pl T a)) := by
          unfold BX12_readsPoint_57
          refine OK.bi (m_fails (e := (3, pl T a)) k1 rfl rfl er3) ?_
          intro s hb2
          exact OK.so (hb2.fr (rt_rg f2))
        cases hk : mkF D.2.1 n with
        | some k =>
          obtain ⟨kk, -, -⟩ := fs_some hk
          rw [if_neg (by show ¬ (iI (k : Int) = iI (-1)); rw [iI_eq ⟨by omega, by omega⟩ ⟨by omega, by omega⟩]; omega)]
          exact bad
        | none =>
          rw [if_pos (show iI (oI none) = (-1 : Int32) from rfl), ob_some, ag93 85 (by decide), ob_some, show s2 93 85 = iI D.2.1.length from hM2.2.1]
          by_cases c : D.2.1.length < 8
          · rw [if_neg (by rw [w8, iI_eqN (by omega) (by omega)]; omega), if_pos c, ob_some, ob_some, ag93 85 (by decide), ob_some, show s2 93 85 = iI D.2.1.length from hM2.2.1, show (86 : Int32) + iI (D.2.1.length : Int) = iI ((86 + D.2.1.length : Nat) : Int) by rw [show (86 : Int32) = iI 86 from rfl, iI_add]; congr 1, ap93c (by omega), ob_some, ob_some, ag93 85 (by decide), ob_some, su_i (by omega), show s2 93 85 = iI D.2.1.length from hM2.2.1, iI_succ, ap93 85 (by decide), ob_some]
            have key : MS (su (su s2 93 (86 + D.2.1.length) (iI (n : Int))) 93 85 (iI ((D.2.1.length + 1 : Nat) : Int))) 48 (D.1, D.2.1 ++ [n], D.2.2) := by
              refine ⟨?_, ?_, fun i hi => ?_, fun j hj => ?_⟩
              · rw [su_i (by omega), su_i (by omega)]; exact hM2.1
              · rw [su_s]; show _ = iI ((D.2.1 ++ [n]).length : Nat)
                rw [List.length_append, List.length_singleton]
              · rw [su_i (by omega), su_i (by omega)]; exact hM2.2.2.1 i hi
              · have hj : j < (D.2.1 ++ [n]).length := hj
                rw [List.length_append, List.length_singleton] at hj
                show _ = iI ((D.2.1 ++ [n]).getD j 0 : Nat)
                rw [ap_getD (by omega), su_i (by omega)]
                by_cases d : j = D.2.1.length
                · rw [if_pos d, show 48 + 38 + j = 86 + D.2.1.length by omega, su_s]
                · rw [if_neg d, su_i (by omega)]; exact hM2.2.2.2 j (by omega)
            exact OK.so ⟨by rw [su_k (by decide), su_k (by decide)]; exact k1, TR_k k2 (fun i _ => by rw [su_k (by decide), su_k (by decide)]), key, (f2.tr (Fr.su (by unfold RG; omega))).tr (Fr.su (by unfold RG; omega))⟩
          · rw [if_pos (by rw [w8, iI_eqN (by omega) (by omega)]; omega), if_neg c]
            exact bad
      · rw [if_pos c4]
        refine OK.bi e ?_
        intro s2 hb2
        rw [b_isGood hb2.2.2.1, ob_some, if_pos rfl]
        exact OK.so (hb2.fr (rt_rg (f7.tr (rg_92 p4))))
    · rw [if_pos (by omega)] at hn
      rw [cs_neg (show ¬ can D 1 (vl T b) from c3)]
      refine OK.bi hn ?_
      rintro ⟨x, s⟩ ⟨p1, p2⟩
      dsimp only at p2 ⊢
      rw [bn_eq, b_ends p2.2.2.1, ob_some, b_isGood p2.2.2.1, ob_some, if_pos rfl]
      exact OK.so (p2.fr (rt_rg f7))
  · rw [if_pos c2] at hn ⊢
    refine OK.bi hn ?_
    rintro ⟨x, s⟩ ⟨p1, p2⟩
    dsimp only at p2 ⊢
    rw [bn_eq, b_ends p2.2.2.1, ob_some, b_isGood p2.2.2.1, ob_some, if_pos rfl]
    exact OK.so (p2.fr (rt_rg f7))
