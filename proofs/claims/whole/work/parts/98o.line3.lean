/-! TEXT: the reference's lines -/
def RG (k i : Nat) : Prop := (k = 92 ∧ 7 ≤ i ∧ i ≠ 14) ∨ (k = 93 ∧ 48 ≤ i ∧ i < 94) ∨ (96 ≤ k ∧ k ≤ 99)
def RT (k i : Nat) : Prop := (k = 92 ∧ 4 ≤ i ∧ i ≤ 5) ∨ RG k i
theorem rg_92 {σ s : Sto} (h : Fr R92 σ s) : Fr RG σ s := h.mo (fun k i h => by unfold R92 at h; unfold RG; omega)
theorem rt_rg {σ s : Sto} (h : Fr RG σ s) : Fr RT σ s := h.mo (fun k i h => Or.inr h)
theorem MX_rt {σ s : Sto} {T : Tp} (h : MXr σ T) (e : Fr RT σ s) : MXr s T := ⟨(e _ _ (by unfold RT RG; omega)).trans h.1, fun i hi => by rw [e _ _ (by unfold RT RG; omega)]; exact h.2 i hi⟩
theorem MS_93 {σ s : Sto} {b : Nat} {D : Sheet} (h : MS σ b D) (e : ∀ i, s 93 i = σ 93 i) : MS s b D := ⟨(e _).trans h.1, (e _).trans h.2.1, fun i hi => (e _).trans (h.2.2.1 i hi), fun k hk => (e _).trans (h.2.2.2 k hk)⟩
theorem MS_r92 {σ s : Sto} {b : Nat} {D : Sheet} (h : MS σ b D) (e : Fr R92 σ s) : MS s b D := MS_93 h (fun i => e _ _ (by unfold R92; omega))
/-- what has failed -/
def Bad (σ s : Sto) (e : Er) : Prop := s 92 4 = iI e.1 ∧ s 92 5 = iI e.2 ∧ s 92 4 ≠ 0 ∧ Fr RT σ s
theorem Bad.fr {σ0 σ s : Sto} {e : Er} (h : Bad σ s e) (hf : Fr RT σ0 σ) : Bad σ0 s e := ⟨h.1, h.2.1, h.2.2.1, hf.tr h.2.2.2⟩
theorem er1 {p : Nat} : 1 ≤ ((1, p) : Er).1 ∧ ((1, p) : Er).1 ≤ 3 := ⟨show (1 : Int) ≤ 1 by decide, show (1 : Int) ≤ 3 by decide⟩
theorem er2 {p : Nat} : 1 ≤ ((2, p) : Er).1 ∧ ((2, p) : Er).1 ≤ 3 := ⟨show (1 : Int) ≤ 2 by decide, show (2 : Int) ≤ 3 by decide⟩
theorem er3 {p : Nat} : 1 ≤ ((3, p) : Er).1 ∧ ((3, p) : Er).1 ≤ 3 := ⟨show (1 : Int) ≤ 3 by decide, show (3 : Int) ≤ 3 by decide⟩
theorem g_isGood {σ : Sto} (h : σ 92 4 = 0) : MX12_isGood σ 92 = some 1 := by unfold MX12_isGood; rw [if_pos h]; exact zr1 _
theorem b_isGood {σ : Sto} (h : σ 92 4 ≠ 0) : MX12_isGood σ 92 = some 0 := by unfold MX12_isGood; rw [if_neg h]; exact zr0 _
theorem b_numeral {σ : Sto} {ρ : Rho} {x : Int32} (h : σ 92 4 ≠ 0) : MX12_numeral σ ρ 92 x = some (0, σ) := by
  unfold MX12_numeral BX12_numeral_24 BX12_numeral_50
  rw [b_isGood h, ob_some, if_pos rfl, ob_some, if_pos rfl, ob_some, if_pos rfl]
theorem b_hasSign {σ : Sto} {ρ : Rho} {x : Int32} (h : σ 92 4 ≠ 0) : MX12_hasSign σ ρ 92 x = some (0, σ) := by
  unfold MX12_hasSign BX12_hasSign_29 BX12_hasSign_30
  rw [b_isGood h, ob_some, if_pos rfl, bn_eq, if_pos rfl]; exact zr0 _
theorem b_signed {σ : Sto} {ρ : Rho} (h : σ 92 4 ≠ 0) : MX12_signed σ ρ 92 = some (0, σ) := by
  unfold MX12_signed
  rw [b_hasSign h, ob_some, bn_eq, b_numeral h, ob_some, bn_eq, if_pos rfl]
theorem b_ends {σ : Sto} {ρ : Rho} (h : σ 92 4 ≠ 0) : MX12_ends σ ρ 92 = some σ := by
  unfold MX12_ends
  rw [b_isGood h, ob_some, if_pos rfl]
theorem m_fails {σ : Sto} {c q : Int32} {e : Er} (h : σ 92 4 = 0) (hc : c = iI e.1) (hq : q = iI e.2) (he : 1 ≤ e.1 ∧ e.1 ≤ 3) : OK (MX12_fails σ 92 c q) (fun s => Bad σ s e) := by
  unfold MX12_fails
  rw [h, if_pos (by decide), bn_eq, bn_eq]
  have e1 : su (su σ 92 4 c) 92 5 q 92 4 = iI e.1 := by rw [su_i (by decide), su_s]; exact hc
  have e2 : su (su σ 92 4 c) 92 5 q 92 5 = iI e.2 := by rw [su_s]; exact hq
  exact OK.so ⟨e1, e2, by rw [e1, show (0 : Int32) = iI 0 from rfl, ne_eq, iI_eq ⟨by omega, by omega⟩ ⟨by omega, by omega⟩]; omega, (Fr.su (Or.inl ⟨rfl, by omega, by omega⟩)).tr (Fr.su (Or.inl ⟨rfl, by omega, by omega⟩))⟩
theorem rk_2 {T : Tp} {a : Nat} : rk T a = 2 ↔ tkd T a = 2 := by
  have := @tkd_le T a
  unfold rk
  by_cases c4 : tkd T a = 4
  · rw [if_pos c4]; omega
  · rw [if_neg c4]
    by_cases c5 : tkd T a = 5
    · rw [if_pos c5]; omega
    · rw [if_neg c5]
theorem rk_le {T : Tp} {a : Nat} : rk T a ≤ 4 := by
  have := @tkd_le T a
  unfold rk
  by_cases c4 : tkd T a = 4
  · rw [if_pos c4]; omega
  · rw [if_neg c4]
    by_cases c5 : tkd T a = 5
    · rw [if_pos c5]; omega
    · rw [if_neg c5]; omega
/-- what kind of byte begins it -/
theorem tk_cases {T : Tp} {a : Nat} : (tkd T a = 0 ∧ bb T a = -1) ∨ (tkd T a = 1 ∧ ¬ bb T a = -1 ∧ ltr (bb T a) = true) ∨ ((tkd T a = 2 ∨ tkd T a = 5) ∧ ¬ bb T a = -1 ∧ ltr (bb T a) = false ∧ dig (bb T a) = true) ∨ (¬ bb T a = -1 ∧ ltr (bb T a) = false ∧ dig (bb T a) = false ∧ ((tkd T a = 3 ∧ bb T a = 45) ∨ (tkd T a = 4 ∧ bb T a = 59) ∨ (tkd T a = 5 ∧ bb T a ≠ 45 ∧ bb T a ≠ 59))) := by
  unfold tkd
  by_cases c0 : bb T a = -1
  · rw [if_pos c0]; exact Or.inl ⟨rfl, c0⟩
  · rw [if_neg c0]
    cases c1 : ltr (bb T a) with
    | true => rw [if_pos rfl]; exact Or.inr (Or.inl ⟨rfl, c0, rfl⟩)
    | false =>
      rw [if_neg (show ¬ (false = true) by decide)]
      cases c2 : dig (bb T a) with
      | true =>
        rw [if_pos rfl]
        refine Or.inr (Or.inr (Or.inl ⟨?_, c0, rfl, rfl⟩))
        by_cases c : nx T a - pl T a ≤ 3
        · rw [if_pos c]; exact Or.inl rfl
        · rw [if_neg c]; exact Or.inr rfl
      | false =>
        rw [if_neg (show ¬ (false = true) by decide)]
        refine Or.inr (Or.inr (Or.inr ⟨c0, rfl, rfl, ?_⟩))
        by_cases c3 : bb T a = 45
        · rw [if_pos c3]; exact Or.inl ⟨rfl, c3⟩
        · rw [if_neg c3]
          by_cases c4 : bb T a = 59
          · rw [if_pos c4]; exact Or.inr (Or.inl ⟨rfl, c4⟩)
          · rw [if_neg c4]; exact Or.inr (Or.inr ⟨rfl, c3, c4⟩)
theorem rvv_2 {T : Tp} {a : Nat} (h : tkd T a = 2) : rvv T a = vl T a := by
  rcases @tk_cases T a with q | q | q | q
  · omega
  · omega
  · unfold rvv
    rw [if_neg q.2.1, q.2.2.1, if_neg (by decide), q.2.2.2, if_pos rfl]
  · omega
theorem rvv_s {T : Tp} {a : Nat} (h : tkd T a = 3 ∨ tkd T a = 4) : rvv T a = if tkd T a = 3 then 45 else 59 := by
  rcases @tk_cases T a with q | q | q | q
  · omega
  · omega
  · omega
  · unfold rvv
    rw [if_neg q.1, q.2.1, if_neg (by decide), q.2.2.1, if_neg (by decide)]
    rcases q.2.2.2 with z | z | z
    · rw [if_pos z.1]; exact z.2
    · rw [if_neg (by omega)]; exact z.2
    · omega
theorem LI_32 {z : Int} (h : rg32 z) : (LI z).toInt32 = iI z := Int64.toInt32_ofInt
theorem nx_T {T : Tp} {a : Nat} (h : a ≤ T.2) : nx T a ≤ T.2 := (nx_le h).2
def numR (T : Tp) (a : Nat) (lim : Int) : Except Er (Int × Nat) := if tkd T a ≠ 2 then .error (1, pl T a) else if lim < vl T a then .error (2, pl T a) else .ok (vl T a, nx T a)
def NQ (σ : Sto) (T : Tp) (r : Except Er (Int × Nat)) (o : Int32 × Sto) : Prop := match r with
  | .error e => o.1 = 0 ∧ Bad σ o.2 e
  | .ok d => o.1 = iI d.1 ∧ o.2 92 4 = 0 ∧ TR o.2 T d.2 ∧ Fr R92 σ o.2
theorem m_takeN {σ : Sto} {ρ : Rho} {T : Tp} {a : Nat} (hρ : Md ρ) (hT : TOK T) (h : MXr σ T) (ha : a ≤ T.2) (ht : TR σ T a) (hg : σ 92 4 = 0) : OK (MX12_takes σ ρ 92) (fun s => s 92 4 = 0 ∧ TR s T (nx T a) ∧ Fr R92 σ s) :=
  (m_takes hρ hT h (nx_T ha) ht.1).mo fun s ⟨a, b⟩ => ⟨(b 92 4 (by unfold R92; omega)).trans hg, a, b⟩
theorem m_numeral {σ : Sto} {ρ : Rho} {T : Tp} {a : Nat} {lim : Int} (hρ : Md ρ) (hT : TOK T) (h : MXr σ T) (ha : a ≤ T.2) (ht : TR σ T a) (hg : σ 92 4 = 0) (hl : rg32 lim) : OK (MX12_numeral σ ρ 92 (iI lim)) (NQ σ T (numR T a lim)) := by
  have hk := @rk_le T a
  have B : ∀ s e, Bad σ s e → OK (BX12_numeral_50 ρ 92 (iI lim) s) (fun o => o.1 = 0 ∧ Bad σ o.2 e) := by
    intro s e hb
    unfold BX12_numeral_50
    rw [b_isGood hb.2.2.1, ob_some, if_pos rfl]
    exact OK.so ⟨rfl, hb⟩
  unfold MX12_numeral numR
  rw [g_isGood hg, ob_some, if_neg ne10, ht.2.1]
  by_cases c2 : tkd T a = 2
  · have hv := vl_bd ha c2
    have hj : jn (σ 92 18) (σ 92 1018) = LI (vl T a) := by rw [ht.2.2.2, rvv_2 c2]
    rw [if_pos (by rw [rk_2.mpr c2]; rfl), if_neg (show ¬ (tkd T a ≠ 2) from fun z => z c2)]
    unfold BX12_numeral_24
    rw [g_isGood hg, ob_some, if_neg ne10, hj, LI_of32 hl]
    by_cases c3 : lim < vl T a
    · rw [if_neg (by rw [lgle ⟨by omega, by omega⟩ ⟨by have := hl.1; omega, by have := hl.2; omega⟩]; omega), if_pos c3]
      refine OK.bi (m_fails (e := (2, pl T a)) hg rfl ht.2.2.1 er2) ?_
      intro s hb
      exact B s _ hb
    · rw [if_pos (by rw [lgle ⟨by omega, by omega⟩ ⟨by have := hl.1; omega, by have := hl.2; omega⟩]; omega), if_neg c3]
      unfold BX12_numeral_50
      rw [g_isGood hg, ob_some, if_neg ne10, bn_eq, hj, LI_32 ⟨by omega, by omega⟩]
      refine OK.bi (m_takeN hρ hT h ha ht hg) ?_
      intro s ⟨g1, g2, g3⟩
      exact OK.so ⟨rfl, g1, g2, g3⟩
  · rw [if_neg (by rw [w2, iI_eqN (by omega) (by omega)]; exact fun z => c2 (rk_2.mp z)), if_pos c2]
    refine OK.bi (m_fails (e := (1, pl T a)) hg rfl ht.2.2.1 er1) ?_
    intro s hb
    unfold BX12_numeral_24
    rw [b_isGood hb.2.2.1, ob_some, if_pos rfl]
    exact B s _ hb
theorem m_hasSign {σ : Sto} {ρ : Rho} {T : Tp} {a q : Nat} (hρ : Md ρ) (hT : TOK T) (h : MXr σ T) (ha : a ≤ T.2) (ht : TR σ T a) (hg : σ 92 4 = 0) (hq : q = 3 ∨ q = 4) : (tkd T a = q ∧ OK (MX12_hasSign σ ρ 92 (iI (if q = 3 then 45 else 59))) (fun o => o.1 = 1 ∧ o.2 92 4 = 0 ∧ TR o.2 T (nx T a) ∧ Fr R92 σ o.2)) ∨ (tkd T a ≠ q ∧ MX12_hasSign σ ρ 92 (iI (if q = 3 then 45 else 59)) = some (0, σ)) := by
  have hk := @rk_le T a
  have hk5 := @tkd_le T a
  have qr : rg32 (if q = 3 then 45 else 59) := by
    rcases hq with rfl | rfl
    · exact ⟨by decide, by decide⟩
    · exact ⟨by decide, by decide⟩
  have no : BX12_hasSign_29 ρ 92 (iI (if q = 3 then 45 else 59)) σ = some (0, σ) := by
    unfold BX12_hasSign_29 BX12_hasSign_30
    rw [bn_eq, if_pos rfl]; exact zr0 _
  unfold MX12_hasSign
  rw [g_isGood hg, ob_some, if_neg ne10, ht.2.1]
  by_cases c : tkd T a = 3 ∨ tkd T a = 4
  · have r3 : rk T a = 3 := by
      unfold rk
      rcases c with c | c
      · rw [if_neg (by omega), if_neg (by omega)]; exact c
      · rw [if_pos c]
    have e3 : iI (rk T a : Int) = (3 : Int32) := by rw [r3]; rfl
    rw [if_pos e3, ht.2.2.2, rvv_s c, LI_of32 qr]
    by_cases d : tkd T a = q
    · rw [if_pos (by rw [d]; exact (lg0 ⟨by rcases hq with rfl | rfl <;> decide, by rcases hq with rfl | rfl <;> decide⟩ ⟨by rcases hq with rfl | rfl <;> decide, by rcases hq with rfl | rfl <;> decide⟩).mpr rfl)]
      refine Or.inl ⟨d, ?_⟩
      unfold BX12_hasSign_30
      rw [bn_eq, if_neg ne10]
      refine OK.bi (m_takeN hρ hT h ha ht hg) ?_
      intro s ⟨g1, g2, g3⟩
      rw [zr1]
      exact OK.so ⟨rfl, g1, g2, g3⟩
    · refine Or.inr ⟨d, ?_⟩
      rw [if_neg, no]
      rcases hq with rfl | rfl
      · rw [if_neg (by omega)]; decide
      · rw [if_pos (by omega)]; decide
  · have r3 : ¬ rk T a = 3 := by
      unfold rk
      rw [if_neg (by omega)]
      by_cases c5 : tkd T a = 5
      · rw [if_pos c5]; decide
      · rw [if_neg c5]; omega
    rw [if_neg (by rw [w3, iI_eqN (by omega) (by omega)]; exact r3)]
    exact Or.inr ⟨by omega, no⟩
theorem m_ends {σ : Sto} {ρ : Rho} {T : Tp} {a : Nat} (hρ : Md ρ) (hT : TOK T) (h : MXr σ T) (ha : a ≤ T.2) (ht : TR σ T a) (hg : σ 92 4 = 0) : (tkd T a = 4 ∧ OK (MX12_ends σ ρ 92) (fun s => s 92 4 = 0 ∧ TR s T (nx T a) ∧ Fr R92 σ s)) ∨ (tkd T a ≠ 4 ∧ OK (MX12_ends σ ρ 92) (fun s => Bad σ s (1, pl T a))) := by
  unfold MX12_ends
  rw [g_isGood hg, ob_some, if_neg ne10]
  rcases m_hasSign (q := 4) hρ hT h ha ht hg (Or.inr rfl) with ⟨d, e⟩ | ⟨d, e⟩
  · refine Or.inl ⟨d, OK.bi e ?_⟩
    rintro ⟨x, s⟩ ⟨r1, r2, r3, r4⟩
    dsimp only at r1 ⊢
    rw [r1, if_neg ne10]
    exact OK.so ⟨r2, r3, r4⟩
  · refine Or.inr ⟨d, ?_⟩
    rw [show (iI (if (4 : Nat) = 3 then 45 else 59)) = (59 : Int32) from rfl] at e
    rw [e, ob_some]
    dsimp only
    rw [if_pos rfl]
    refine OK.bi (m_fails (e := (1, pl T a)) hg rfl ht.2.2.1 er1) ?_
    intro s hb
    exact OK.so hb
theorem m_signed {σ : Sto} {ρ : Rho} {T : Tp} {a : Nat} (hρ : Md ρ) (hT : TOK T) (h : MXr σ T) (ha : a ≤ T.2) (ht : TR σ T a) (hg : σ 92 4 = 0) : OK (MX12_signed σ ρ 92) (fun o => match pSgn T a with | .error e => Bad σ o.2 e | .ok d => o.1 = iI d.1 ∧ o.2 92 4 = 0 ∧ TR o.2 T d.2 ∧ Fr R92 σ o.2) := by
  unfold MX12_signed
  have K : ∀ (b : Nat) (s : Sto) (y : Int32), b = (if tkd T a = 3 then nx T a else a) → b ≤ T.2 → TR s T b → s 92 4 = 0 → Fr R92 σ s → (y = 0 ↔ ¬ tkd T a = 3) → OK (Option.bind (MX12_numeral s ρ 92 (99 : Int32)) fun c3 => bn c3.1 fun y4 => if y = 0 then some (y4, c3.2) else some (-y4, c3.2)) (fun o => match pSgn T a with | .error e => Bad σ o.2 e | .ok d => o.1 = iI d.1 ∧ o.2 92 4 = 0 ∧ TR o.2 T d.2 ∧ Fr R92 σ o.2) := by
    intro b s y hb hb2 t1 t2 t3 hy
    have es : pSgn T a = (match numR T b 99 with | .error e => .error e | .ok d => .ok (if tkd T a = 3 then -d.1 else d.1, d.2)) := by
      unfold pSgn numR
      rw [← hb]
      dsimp only
      by_cases c1 : tkd T b ≠ 2
      · rw [if_pos c1, if_pos c1]
      · rw [if_neg c1, if_neg c1]
        by_cases c2 : 99 < vl T b
        · rw [if_pos c2, if_pos c2]
        · rw [if_neg c2, if_neg c2]
    have hn := m_numeral (lim := 99) hρ hT (MX_92 h t3) hb2 t1 t2 ⟨by decide, by decide⟩
    refine OK.bi hn ?_
    rintro ⟨x, s2⟩ o2
    rw [es, bn_eq]
    unfold NQ at o2
    cases hr : numR T b 99 with
    | error e =>
      rw [hr] at o2
      dsimp only at o2 ⊢
      have hb' : Bad σ s2 e := o2.2.fr (rt_rg (rg_92 t3))
      by_cases c : y = 0
      · rw [if_pos c]; exact OK.so hb'
      · rw [if_neg c]; exact OK.so hb'
    | ok d =>
      rw [hr] at o2
      dsimp only at o2 ⊢
      obtain ⟨p1, p2, p3, p4⟩ := o2
      by_cases c : y = 0
      · rw [if_pos c, p1, if_neg (hy.mp c)]; exact OK.so ⟨rfl, p2, p3, t3.tr p4⟩
      · have c3 : tkd T a = 3 := Classical.byContradiction fun z => c (hy.mpr z)
        rw [if_neg c, p1, if_pos c3, iI_neg]; exact OK.so ⟨rfl, p2, p3, t3.tr p4⟩
  rcases m_hasSign (q := 3) hρ hT h ha ht hg (Or.inl rfl) with ⟨d, e⟩ | ⟨d, e⟩
  · refine OK.bi e ?_
    rintro ⟨x, s⟩ ⟨r1, r2, r3, r4⟩
    rw [bn_eq]
    dsimp only at r1 r2 r3 r4 ⊢
    rw [r1]
    exact K (nx T a) s 1 (by rw [if_pos d]) (nx_T ha) r3 r2 r4 ⟨fun z => absurd z (by decide), fun z => absurd d z⟩
  · rw [show (iI (if (3 : Nat) = 3 then 45 else 59)) = (45 : Int32) from rfl] at e
    rw [e, ob_some, bn_eq]
    exact K a σ 0 (by rw [if_neg d]) ha ht hg Fr.rf ⟨fun _ => d, fun _ => rfl⟩
theorem m_hasWord {σ : Sto} {ρ : Rho} {T : Tp} {a k : Nat} (hρ : Md ρ) (hT : TOK T) (h : MXr σ T) (ha : a ≤ T.2) (ht : TR σ T a) (hg : σ 92 4 = 0) (hk : k < 4) : (wis T a k = true ∧ OK (MX12_hasWord σ ρ 92 (LI (wcode k))) (fun o => o.1 = 1 ∧ o.2 92 4 = 0 ∧ TR o.2 T (nx T a) ∧ Fr R92 σ o.2)) ∨ (wis T a k = false ∧ MX12_hasWord σ ρ 92 (LI (wcode k)) = some (0, σ)) := by
  have hk4 := @rk_le T a
  have no : BX12_hasWord_28 ρ 92 (LI (wcode k)) σ = some (0, σ) := by
    unfold BX12_hasWord_28 BX12_hasWord_29
    rw [bn_eq, if_pos rfl]; exact zr0 _
  have wr64 : ∀ k, k < 4 → -9223372036854775808 ≤ wcode k ∧ wcode k < 9223372036854775808 := by decide +kernel
  unfold MX12_hasWord wis
  rw [g_isGood hg, ob_some, if_neg ne10, ht.2.1]
  by_cases c : tkd T a = 1
  · obtain ⟨q1, q2, q3⟩ := word_ltr ha c
    have r1 : rk T a = 1 := by unfold rk; rw [if_neg (by omega), if_neg (by omega)]; exact c
    have ev : rvv T a = cde T (pl T a) (nx T a - pl T a) := by unfold rvv; rw [if_neg q1, if_pos q2]
    have iff := wcode_iff (n := nx T a - pl T a) hk q3
    rw [if_pos (by rw [r1]; rfl), ht.2.2.2, ev]
    by_cases d : cde T (pl T a) (nx T a - pl T a) = wcode k
    · rw [if_pos ((lg0 (cde_rg q3) (wr64 k hk)).mpr d)]
      refine Or.inl ⟨decide_eq_true ⟨c, iff.mp d⟩, ?_⟩
      unfold BX12_hasWord_29
      rw [bn_eq, if_neg ne10]
      refine OK.bi (m_takeN hρ hT h ha ht hg) ?_
      intro s ⟨g1, g2, g3⟩
      rw [zr1]
      exact OK.so ⟨rfl, g1, g2, g3⟩
    · rw [if_neg (fun z => d ((lg0 (cde_rg q3) (wr64 k hk)).mp z))]
      exact Or.inr ⟨decide_eq_false (fun z => d (iff.mpr z.2)), no⟩
  · have r1 : ¬ rk T a = 1 := by
      have := @tkd_le T a
      unfold rk
      by_cases c4 : tkd T a = 4
      · rw [if_pos c4]; decide
      · rw [if_neg c4]
        by_cases c5 : tkd T a = 5
        · rw [if_pos c5]; decide
        · rw [if_neg c5]; exact c
    rw [if_neg (by rw [w1, iI_eqN (by omega) (by omega)]; exact r1)]
    exact Or.inr ⟨decide_eq_false (fun z => c z.1), no⟩
