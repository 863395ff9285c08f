/-! ACTS: mark -/
theorem nd_ne {L : List Nat} {i j : Nat} (h : L.Nodup) (hi : i < L.length) (hj : j < L.length) (hne : i ≠ j) : L.getD i 0 ≠ L.getD j 0 := by
  have hp := List.pairwise_iff_getElem.mp h
  rw [List.getD_eq_getElem?_getD, List.getD_eq_getElem?_getD, List.getElem?_eq_getElem hi, List.getElem?_eq_getElem hj]
  show L[i] ≠ L[j]
  by_cases c : i < j
  · exact hp i j hi hj c
  · exact (hp j i hj hi (by omega)).symm
theorem er_get {L : List Nat} {k i : Nat} : (L.eraseIdx k).getD i 0 = if i < k then L.getD i 0 else L.getD (i + 1) 0 := by
  rw [List.getD_eq_getElem?_getD, List.getElem?_eraseIdx]
  by_cases c : i < k
  · rw [if_pos c, if_pos c, List.getD_eq_getElem?_getD]
  · rw [if_neg c, if_neg c, List.getD_eq_getElem?_getD]
theorem er_len {L : List Nat} {k : Nat} (h : k < L.length) : (L.eraseIdx k).length = L.length - 1 := by
  rw [List.length_eraseIdx, if_pos h]
theorem ap_getD {L : List Nat} {q i : Nat} (h : i ≤ L.length) : (L ++ [q]).getD i 0 = if i = L.length then q else L.getD i 0 := by
  rw [List.getD_eq_getElem?_getD]
  by_cases c : i = L.length
  · rw [if_pos c, c, List.getElem?_append_right (Nat.le_refl _), Nat.sub_self]; rfl
  · rw [if_neg c, List.getElem?_append_left (by omega), List.getD_eq_getElem?_getD]
theorem SOK_add {S : Sheet} {q : Nat} (h : SOK S) (hl : S.2.1.length < 8) (hq : q < NP S.1) (hn : ¬ q ∈ S.2.1) : SOK (S.1, S.2.1 ++ [q], S.2.2) := by
  refine ⟨h.1, ?_, ?_, fun r hr => ?_, h.2.2.2.2.1, h.2.2.2.2.2⟩
  · show (S.2.1 ++ [q]).length ≤ 8
    rw [List.length_append, List.length_singleton]; omega
  · show (S.2.1 ++ [q]).Nodup
    rw [List.nodup_append]
    refine ⟨h.2.2.1, by simp, fun a ha b hb => ?_⟩
    rw [List.mem_singleton.mp hb]
    exact fun e => hn (e ▸ ha)
  · rcases List.mem_append.mp hr with e | e
    · exact h.2.2.2.1 r e
    · rw [List.mem_singleton.mp e]; exact hq
theorem SOK_er {S : Sheet} {k : Nat} (h : SOK S) : SOK (S.1, S.2.1.eraseIdx k, S.2.2) := by
  refine ⟨h.1, ?_, ?_, fun r hr => ?_, h.2.2.2.2.1, h.2.2.2.2.2⟩
  · show (S.2.1.eraseIdx k).length ≤ 8
    have := List.length_eraseIdx_le S.2.1 k
    have := h.2.1
    omega
  · exact h.2.2.1.sublist (List.eraseIdx_sublist _ _)
  · exact h.2.2.2.1 r ((List.eraseIdx_sublist _ _).subset hr)
/-- a mark more, the class -/
theorem c_addMark {σ : Sto} {ρ : Rho} {s q : Nat} {S : Sheet} (hr : Sr ρ s) (hC : CS σ s S) (hl : S.2.1.length < 8) : OK (MX8_addMark σ ρ s (iI q)) (fun s' => CS s' s (S.1, S.2.1 ++ [q], S.2.2) ∧ ∀ k i, k ≠ s → k ≠ s + 1 → s' k i = σ k i) := by
  obtain ⟨r2, r3, l8, l36⟩ := hr
  unfold MX8_addMark
  rw [hC.2.1, if_neg (by rw [w0, iI_lt ⟨by omega, by omega⟩ ⟨by omega, by omega⟩]; omega), if_neg (by rw [w8, iI_leN (by omega) (by omega)]; omega), r2, ob_some, ap_ok (by omega) (by rw [l8]; omega) (by rw [l8]; omega), ob_some, bn_eq, show ((S.2.1.length : Int)).toNat = S.2.1.length from rfl, su_k (by omega), hC.2.1, iI_succ]
  refine OK.so ⟨⟨?_, ?_, fun i hi => ?_, fun k hk => ?_⟩, fun k i h1 h2 => by rw [su_k h1, su_k h2]⟩
  · rw [su_i (by decide), su_k (by omega)]; exact hC.1
  · rw [su_s]; show iI ((S.2.1.length + 1 : Nat) : Int) = iI ((S.2.1 ++ [q]).length : Nat)
    rw [List.length_append, List.length_singleton]
  · rw [su_k (by omega), su_k (by omega)]; exact hC.2.2.1 i hi
  · have hk : k < (S.2.1 ++ [q]).length := hk
    rw [List.length_append, List.length_singleton] at hk
    rw [su_k (by omega)]
    show _ = iI ((S.2.1 ++ [q]).getD k 0 : Nat)
    rw [ap_getD (by omega)]
    by_cases c : k = S.2.1.length
    · rw [if_pos c, c, su_s]
    · rw [if_neg c, su_i c]; exact hC.2.2.2 k (by omega)
/-- a mark less, the class -/
theorem c_dropMark {σ : Sto} {ρ : Rho} {s q k : Nat} {S : Sheet} (hr : Sr ρ s) (hC : CS σ s S) (hS : SOK S) (hk : mkF S.2.1 q = some k) (hq : q ≤ 5000) : OK (MX8_dropMark σ ρ s (iI q)) (fun s' => CS s' s (S.1, S.2.1.eraseIdx k, S.2.2) ∧ ∀ k i, k ≠ s → k ≠ s + 1 → s' k i = σ k i) := by
  obtain ⟨r2, r3, l8, l36⟩ := hr
  have hl := hS.2.1
  obtain ⟨k1, k2, -⟩ := fs_some hk
  have k2 : S.2.1.getD k 0 = q := by simpa using k2
  have hlt : ∀ j, j < S.2.1.length → S.2.1.getD j 0 ≤ 5000 := fun j hj => by
    rw [List.getD_eq_getElem?_getD, List.getElem?_eq_getElem hj]
    have := hS.2.2.2.1 _ (List.getElem_mem hj)
    have := NP_le hS.1
    show S.2.1[j] ≤ 5000
    omega
  unfold MX8_dropMark
  rw [bn_eq, bn_eq]
  refine run_g (S := Sto) (call := fun (g : Sto → Int32 → Int32 → Option Sto) τ (j : Nat) => g τ (iI ((if j ≤ k then j else j - 1 : Nat) : Int)) (iI j)) (N := S.2.1.length) (I := fun j τ => (∀ i, i < S.2.1.length → τ (s + 1) i = iI ((if i < k ∨ (if j ≤ k then j else j - 1) ≤ i then S.2.1.getD i 0 else S.2.1.getD (i + 1) 0 : Nat) : Int)) ∧ ∀ k i, k ≠ s + 1 → τ k i = σ k i) (Post := fun o => OK o _) ?_ ?_ (by unfold FU; omega) (k0 := 0) (by omega) (s := σ) ⟨fun i hi => by rw [if_pos (Or.inr (by rw [if_pos (Nat.zero_le _)]; exact Nat.zero_le _))]; exact hC.2.2.2 i hi, fun _ _ _ => rfl⟩
  · intro g τ ⟨i1, i2⟩
    show OK (FX8_dropMark_4 ρ s (iI q) (BX8_dropMark_49 ρ s (iI q)) g τ _ _) _
    unfold FX8_dropMark_4 BX8_dropMark_49
    rw [i2 s 1 (by omega), hC.2.1, if_pos (by rw [iI_leN (by omega) (by omega)]; omega), bn_eq]
    refine OK.so ⟨⟨?_, ?_, fun i hi => ?_, fun j hj => ?_⟩, fun k i h1 h2 => by rw [su_k h1]; exact i2 k i h2⟩
    · rw [su_i (by decide), i2 s 0 (by omega)]; exact hC.1
    · rw [su_s]; show _ = iI ((S.2.1.eraseIdx k).length : Nat)
      rw [er_len k1, if_neg (by omega)]
    · rw [su_k (by omega), i2 _ _ (by omega)]; exact hC.2.2.1 i hi
    · have hj : j < (S.2.1.eraseIdx k).length := hj
      rw [er_len k1] at hj
      rw [su_k (by omega), i1 j (by omega)]
      show _ = iI ((S.2.1.eraseIdx k).getD j 0 : Nat)
      rw [er_get]
      by_cases c : j < k
      · rw [if_pos (Or.inl c), if_pos c]
      · rw [if_neg (by rw [if_neg (by omega)]; omega), if_neg c]
  · intro g τ j ⟨i1, i2⟩ hj ih
    show OK (FX8_dropMark_4 ρ s (iI q) (BX8_dropMark_49 ρ s (iI q)) g τ (iI ((if j ≤ k then j else j - 1 : Nat) : Int)) (iI j)) _
    have ej : τ (s + 1) j = iI (S.2.1.getD j 0 : Nat) := by
      rw [i1 j hj]
      by_cases c : j ≤ k
      · rw [if_pos (Or.inr (by rw [if_pos c]; exact Nat.le_refl _))]
      · rw [if_pos (Or.inr (by rw [if_neg c]; omega))]
    unfold FX8_dropMark_4 BX8_dropMark_43
    rw [i2 s 1 (by omega), hC.2.1, if_neg (by rw [iI_leN (by omega) (by omega)]; omega), if_neg (by rw [w8, iI_leN (by omega) (by omega)]; omega), r2, ob_some, ag_ok (by omega) (by rw [l8]; omega) (by rw [l8]; omega), ob_some, show ((j : Int)).toNat = j from rfl, ej]
    by_cases c : j = k
    · subst c
      rw [if_pos (by rw [k2]), bn_eq, iI_succ]
      have := ih τ ⟨fun i hi => ?_, i2⟩
      · rw [show (if j + 1 ≤ j then j + 1 else j + 1 - 1) = (if j ≤ j then j else j - 1) by rw [if_neg (by omega), if_pos (Nat.le_refl _)]; omega] at this
        exact this
      · have A1 : (if j ≤ j then j else j - 1) = j := if_pos (Nat.le_refl _)
        have A2 : (if j + 1 ≤ j then j + 1 else j + 1 - 1) = j := by rw [if_neg (by omega)]; rfl
        rw [i1 i hi, A1, A2]
    · have hne : S.2.1.getD j 0 ≠ q := fun e => nd_ne hS.2.2.1 hj k1 c (e.trans k2.symm)
      have := hlt j hj
      have hd8 : (if j ≤ k then j else j - 1) < 8 := by
        by_cases c : j ≤ k
        · rw [if_pos c]; omega
        · rw [if_neg c]; omega
      rw [if_neg (by rw [iI_eqN (by omega) (by omega)]; exact hne), ob_some, ob_some, ag_ok (by omega) (by rw [l8]; omega) (by rw [l8]; omega), ob_some, show ((j : Int)).toNat = j from rfl, ej, ap_ok (by omega) (by rw [l8]; omega) (by rw [l8]; omega), ob_some, bn_eq, bn_eq, iI_succ, iI_succ]
      have := ih (su τ (s + 1) (((if j ≤ k then j else j - 1 : Nat) : Int)).toNat (iI (S.2.1.getD j 0 : Nat))) ⟨fun i hi => ?_, fun k' i' hk' => by rw [su_k hk']; exact i2 k' i' hk'⟩
      · rw [show (if j + 1 ≤ k then j + 1 else j + 1 - 1) = (if j ≤ k then j else j - 1) + 1 by
          by_cases d : j < k
          · rw [if_pos (by omega), if_pos (by omega)]
          · rw [if_neg (by omega), if_neg (by omega)]; omega] at this
        exact this
      · rw [show (((if j ≤ k then j else j - 1 : Nat) : Int)).toNat = (if j ≤ k then j else j - 1) from rfl]
        by_cases d : j < k
        · rw [if_pos (show j ≤ k by omega), if_pos (show j + 1 ≤ k by omega)]
          by_cases e : i = j
          · subst e; rw [su_s, if_pos (Or.inl d)]
          · rw [su_i e, i1 i hi, if_pos (show j ≤ k by omega)]
            by_cases f : i < k ∨ j ≤ i
            · rw [if_pos f, if_pos (by omega)]
            · rw [if_neg f, if_neg (by omega)]
        · rw [if_neg (show ¬ j ≤ k by omega), if_neg (show ¬ j + 1 ≤ k by omega)]
          by_cases e : i = j - 1
          · subst e
            rw [su_s, if_neg (by omega), show j - 1 + 1 = j by omega]
          · rw [su_i e, i1 i hi, if_neg (show ¬ j ≤ k by omega)]
            by_cases f : i < k ∨ j - 1 ≤ i
            · rw [if_pos f, if_pos (by omega)]
            · rw [if_neg f, if_neg (by omega)]
noncomputable def aMark (A : AS) (q : Int) (b : Bool) : Int32 × AS := cs (inP A.1.1.1 q) (if b then (match mkF A.1.1.2.1 q.toNat with | some k => (0, accA A (A.1.1.1, A.1.1.2.1.eraseIdx k, A.1.1.2.2)) | none => (2, refA A 2 0)) else (match mkF A.1.1.2.1 q.toNat with | some _ => (2, refA A 2 0) | none => if A.1.1.2.1.length < 8 then (0, accA A (A.1.1.1, A.1.1.2.1 ++ [q.toNat], A.1.1.2.2)) else (3, refA A 3 0))) (1, refA A 1 0)
theorem mk_le {S : Sheet} (hS : SOK S) : ∀ r ∈ S.2.1, r ≤ 5000 := fun r hr => by
  have := hS.2.2.2.1 r hr
  have := NP_le hS.1
  omega
theorem k_marks {σ : Sto} {ρ : Rho} {A : AS} {q : Int} {b : Bool} (hD : Dk ρ) (hA : AOK A) (h : KR σ A) (hq : rg32 q) : OK (MX11_mark σ ρ 0 (iI q) (b32 b)) (Kq σ (aMark A q b)) := by
  have hp := hA.1.1.1
  have hNP := NP_le hp
  have keep : ∀ s, Fr CK σ s → ∀ f : Sto → Option (Int32 × Sto), ∀ Q, (∀ s1, KP s1 ((A.1.1 :: A.2.1).take 8) → CS s1 2 A.1.1 → (∀ k i, (k < 7 ∨ 32 < k) → k < 53 ∨ 92 ≤ k → s1 k i = σ k i) → OK (f s1) Q) → OK (Option.bind (ρ 0 1) fun j1 => Option.bind (ρ 0 0) fun j2 => Option.bind (ρ j2 0) fun j3 => Option.bind (MX5_keep s ρ j1 j3) f) Q := by
    intro s fs f Q hk
    have h' := KR_ck h fs
    rw [dk_0_1 hD, ob_some, dk_0_0 hD, ob_some, dk_1_0 hD, ob_some]
    refine OK.bi (k_keep hD hA.1.1.2.1 (past8 hA) hA.2.2.1 h'.1.1 h'.2.1) ?_
    intro s1 ⟨g1, g2⟩
    exact hk s1 g1 (CS_k h'.1.1 (fun i => g2 _ _ (by decide) (by omega)) (fun i => g2 _ _ (by decide) (by omega)) (fun i => g2 _ _ (by decide) (by omega))) (fun k i a c => (g2 k i (by omega) (by omega)).trans (fs k i (by unfold CK; omega)))
  unfold MX11_mark aMark
  rw [dk_0_11 hD, ob_some, dk_0_0 hD, ob_some, dk_1_0 hD, ob_some, h.1.1.1]
  rcases k_take (σ := σ) (t := 89) hp hq with ⟨a, e⟩ | ⟨a, e⟩
  · have fs : Fr CK σ (T3 σ 89 (cX A.1.1.1 q.toNat) (cY A.1.1.1 q.toNat) (cZ A.1.1.1 q.toNat)) := fun k' i hn => T3_k (fun e => hn (by unfold CK; omega))
    obtain ⟨n, rfl, hn⟩ : ∃ n : Nat, q = n ∧ n < NP A.1.1.1 := ⟨q.toNat, by unfold inP at a; omega, by unfold inP at a; omega⟩
    have h' := KR_ck h fs
    have hm := c_isMarked (q := n) (Sr_2 hD) h'.1.1 hA.1.1.2.1 (mk_le hA.1.1) (by omega)
    rw [e, ob_some]
    simp only [cs_tn] at hm fs h' ⊢
    rw [if_neg ne10, cs_pos a, ob_some, dk_1_0 hD, ob_some, hm, ob_some]
    cases hk : mkF A.1.1.2.1 n with
    | some k =>
      cases b with
      | true =>
        simp only [Option.isSome_some, if_true]
        rw [if_pos (show (1 : Int32) = b32 true from rfl), if_neg (show ¬ b32 true = 0 by decide)]
        unfold BX11_mark_76
        refine keep _ fs _ _ ?_
        intro s1 g1 hC1 g2
        rw [if_neg (show ¬ b32 true = 0 by decide), dk_0_0 hD, ob_some, dk_1_0 hD, ob_some]
        refine OK.bi (c_dropMark (Sr_2 hD) hC1 hA.1.1 hk (by omega)) ?_
        intro s2 ⟨t1, t2⟩
        exact k_done hD h g1 g2 t1 (fun k i hk => t2 k i (by omega) (by omega))
      | false =>
        simp only [Option.isSome_some, if_true, Bool.false_eq_true, if_false]
        rw [if_neg (show ¬ (1 : Int32) = b32 false by decide)]
        exact k_no hD h fs
    | none =>
      cases b with
      | true =>
        simp only [Option.isSome_none, if_true, Bool.false_eq_true, if_false]
        rw [if_neg (show ¬ (0 : Int32) = b32 true by decide)]
        exact k_no hD h fs
      | false =>
        simp only [Option.isSome_none, Bool.false_eq_true, if_false]
        rw [if_pos (show (0 : Int32) = b32 false from rfl), if_pos (show b32 false = 0 from rfl), ob_some, dk_1_0 hD, ob_some, h'.1.1.2.1]
        have hl := hA.1.1.2.1
        by_cases c : A.1.1.2.1.length < 8
        · rw [if_pos (by rw [w8, iI_lt ⟨by omega, by omega⟩ ⟨by omega, by omega⟩]; omega), if_pos c]
          unfold BX11_mark_76
          refine keep _ fs _ _ ?_
          intro s1 g1 hC1 g2
          rw [if_pos (show b32 false = 0 from rfl), dk_0_0 hD, ob_some, dk_1_0 hD, ob_some]
          refine OK.bi (c_addMark (Sr_2 hD) hC1 c) ?_
          intro s2 ⟨t1, t2⟩
          exact k_done hD h g1 g2 t1 (fun k i hk => t2 k i (by omega) (by omega))
        · rw [if_neg (by rw [w8, iI_lt ⟨by omega, by omega⟩ ⟨by omega, by omega⟩]; omega), if_neg c]
          exact k_no hD h fs
  · rw [e, ob_some]
    dsimp only
    rw [if_pos rfl, cs_neg a]; exact k_no hD h Fr.rf
theorem m_isPl {σ : Sto} {ρ : Rho} {S : Sheet} {n : Int} (hρ : Md ρ) (hS : SOK S) (hM : MS σ 0 S) (hn : rg32 n) : (inP S.1 n ∧ MX12_isPlace σ ρ 92 (iI n) = some (1, su σ 92 7 (iI S.1))) ∨ (¬ inP S.1 n ∧ MX12_isPlace σ ρ 92 (iI n) = some (0, su σ 92 7 (iI S.1))) := by
  have hN := NP_le hS.1
  have h0 : 1 ≤ NP S.1 := by unfold NP; omega
  unfold MX12_isPlace inP
  rw [hρ.1, ob_some, show (36 : Int32) = OfNat.ofNat 36 from rfl, ag93 36 (by decide), ob_some, bn_eq, show σ 93 36 = iI S.1 from hM.1, m_places su_s, ob_some, show (1 : Int32) = iI 1 from rfl, iI_sub, show (0 : Int32) = iI 0 from rfl]
  rcases m_isIn (a := n) (b := 0) (c := ((NP S.1 : Nat) : Int) - 1) hn ⟨by omega, by omega⟩ ⟨by omega, by omega⟩ with ⟨a, b, e⟩ | ⟨a, e⟩
  · rw [e, ob_some]; exact Or.inl ⟨by omega, zr1 _⟩
  · rw [e, ob_some]; exact Or.inr ⟨by omega, zr0 _⟩
theorem mk_7 {σ : Sto} {v : Int32} : Fr MK σ (su σ 92 7 v) := Fr.su (by unfold MK SC; omega)
theorem m_marks {σ : Sto} {ρ : Rho} {A : AS} {q : Int} {b : Bool} (hρ : Md ρ) (hA : AOK A) (h : MR σ A) (hq : rg32 q) : OK (MX12_mark σ ρ 92 (iI q) (b32 b)) (Mq σ (aMark A q b)) := by
  have hp := hA.1.1.1
  have hNP := NP_le hp
  have hl := hA.1.1.2.1
  have keep : ∀ s, Fr MK σ s → ∀ f : Sto → Option (Int32 × Sto), ∀ Q, (∀ s1, MP s1 ((A.1.1 :: A.2.1).take 8) → MS s1 0 A.1.1 → (∀ i, 462 ≤ i → s1 93 i = σ 93 i) → (∀ k i, k ≠ 93 → (k < 92 ∨ ¬ SC k i) → ¬ (k = 92 ∧ i = 6) → s1 k i = σ k i) → OK (f s1) Q) → OK (Option.bind (MX12_keeps s ρ 92) f) Q := by
    intro s fs f Q hk
    have h' := MR_mk hA h fs
    refine OK.bi (m_keeps hρ hA.1.1.2.1 (past8 hA) hA.2.2.1 h'.1.1 h'.2.1) ?_
    intro s1 ⟨g1, g2, g3⟩
    exact hk s1 g1 (MS_e h'.1.1 hA.1.1.2.1 (fun i hi => g2 _ (by omega))) (fun i hi => (g2 i (by omega)).trans (fs _ _ (by unfold MK SC; omega))) (fun k i a c d => (g3 k i a d).trans (fs k i (fun z => c.elim (fun x => by have := z.1; omega) (fun x => x z.2))))
  unfold MX12_mark aMark
  rcases m_isPl hρ hA.1.1 h.1.1 hq with ⟨a, e⟩ | ⟨a, e⟩
  · have fs : Fr MK σ (su σ 92 7 (iI A.1.1.1)) := mk_7
    have h' := MR_mk hA h fs
    obtain ⟨n, rfl, hn⟩ : ∃ n : Nat, q = n ∧ n < NP A.1.1.1 := ⟨q.toNat, by unfold inP at a; omega, by unfold inP at a; omega⟩
    have hm := m_markOf (b := 0) (q := n) hρ h'.1.1 hA.1.1.2.1 (mk_le hA.1.1) (by omega) (by omega)
    rw [show iI ((0 : Nat) : Int) = 0 from rfl] at hm
    rw [e, ob_some]
    simp only [cs_tn]
    rw [if_neg ne10, cs_pos a, hm, ob_some, bn_eq]
    have e37 : ∀ s, MS s 0 A.1.1 → ag s 93 (37 : Int32) = some (iI A.1.1.2.1.length) := fun s hs => by rw [ag93 37 (by decide)]; exact congrArg some hs.2.1
    cases hk : mkF A.1.1.2.1 n with
    | some k =>
      obtain ⟨k1, k2, -⟩ := fs_some hk
      have eo : ¬ (iI (oI (some k)) = (-1 : Int32)) := by
        show ¬ (iI (k : Int) = iI (-1))
        rw [iI_eq ⟨by omega, by omega⟩ ⟨by omega, by omega⟩]; omega
      unfold BX12_mark_32
      rw [if_neg eo]
      cases b with
      | true =>
        simp only [if_true]
        rw [if_neg (show ¬ (0 : Int32) = b32 true by decide), if_neg (show ¬ b32 true = 0 by decide)]
        unfold BX12_mark_66
        refine keep _ fs _ _ ?_
        intro s1 g1 hM1 g2 g3
        rw [if_neg (show ¬ b32 true = 0 by decide), hρ.1, ob_some, e37 s1 hM1, ob_some, show iI (A.1.1.2.1.length : Int) - (1 : Int32) = iI ((A.1.1.2.1.length - 1 : Nat) : Int) by rw [w1, iI_sub]; congr 1; omega, ap93 37 (by decide), ob_some, ob_some, ag93 37 (by decide), ob_some, su_s]
        rw [show (38 : Int32) + iI (oI (some k)) + (1 : Int32) = iI ((39 + k : Nat) : Int) by show (38 : Int32) + iI (k : Int) + (1 : Int32) = _; rw [show (38 : Int32) = iI 38 from rfl, w1, iI_add, iI_add]; congr 1; omega, show (38 : Int32) + iI (oI (some k)) = iI ((38 + k : Nat) : Int) by show (38 : Int32) + iI (k : Int) = _; rw [show (38 : Int32) = iI 38 from rfl, iI_add]; congr 1, show iI ((A.1.1.2.1.length - 1 : Nat) : Int) - iI (oI (some k)) = iI ((A.1.1.2.1.length - 1 - k : Nat) : Int) by show _ - iI (k : Int) = _; rw [iI_sub]; congr 1; omega]
        refine OK.bi (m_copies (f := 39 + k) (t := 38 + k) (n := A.1.1.2.1.length - 1 - k) hρ (by omega) (by omega) (by omega)) ?_
        intro s2 ⟨c1, c2⟩
        unfold BX12_mark_138
        have key : MS s2 0 (A.1.1.1, A.1.1.2.1.eraseIdx k, A.1.1.2.2) := by
          refine ⟨?_, ?_, fun i hi => ?_, fun j hj => ?_⟩
          · rw [c1, if_neg (by omega), su_i (by omega)]; exact hM1.1
          · rw [c1, if_neg (by omega), su_s]; show _ = iI ((A.1.1.2.1.eraseIdx k).length : Nat)
            rw [er_len k1]
          · rw [c1, if_neg (by omega), su_i (by omega)]; exact hM1.2.2.1 i hi
          · have hj : j < (A.1.1.2.1.eraseIdx k).length := hj
            rw [er_len k1] at hj
            show _ = iI ((A.1.1.2.1.eraseIdx k).getD j 0 : Nat)
            rw [er_get, c1]
            by_cases d : j < k
            · rw [if_neg (by omega), if_pos d, su_i (by omega)]; exact hM1.2.2.2 j (by omega)
            · rw [if_pos (by omega), if_neg d, su_i (by omega), show 39 + k + (0 + 38 + j - (38 + k)) = 0 + 38 + (j + 1) by omega]; exact hM1.2.2.2 (j + 1) (by omega)
        exact m_done hρ hA (SOK_er hA.1.1) h g1 g2 g3 key (fun i hi => by rw [c1, if_neg (by omega), su_i (by omega)]) (fun k i hk => by rw [c2 k i hk, su_k hk])
      | false =>
        simp only [Bool.false_eq_true, if_false]
        rw [if_pos (show (0 : Int32) = b32 false from rfl)]
        exact m_no hρ hA h fs
    | none =>
      have eo : iI (oI none) = (-1 : Int32) := rfl
      unfold BX12_mark_32
      rw [if_pos eo]
      cases b with
      | true =>
        simp only [if_true]
        rw [if_pos (show (1 : Int32) = b32 true from rfl)]
        exact m_no hρ hA h fs
      | false =>
        simp only [Bool.false_eq_true, if_false]
        rw [if_neg (show ¬ (1 : Int32) = b32 false by decide), if_pos (show b32 false = 0 from rfl), hρ.1, ob_some, e37 _ h'.1.1, ob_some]
        by_cases c : A.1.1.2.1.length < 8
        · rw [if_neg (by rw [w8, iI_eqN (by omega) (by omega)]; omega), if_pos c]
          unfold BX12_mark_66
          refine keep _ fs _ _ ?_
          intro s1 g1 hM1 g2 g3
          rw [if_pos (show b32 false = 0 from rfl), hρ.1, ob_some, ob_some, e37 s1 hM1, ob_some, show (38 : Int32) + iI (A.1.1.2.1.length : Int) = iI ((38 + A.1.1.2.1.length : Nat) : Int) by rw [show (38 : Int32) = iI 38 from rfl, iI_add]; congr 1, ap93c (by omega), ob_some, ob_some, ag93 37 (by decide), ob_some, su_i (by omega), show s1 93 37 = iI A.1.1.2.1.length from hM1.2.1, iI_succ, ap93 37 (by decide), ob_some]
          unfold BX12_mark_138
          have hnm : ¬ n ∈ A.1.1.2.1 := fun z => by
            have := mkF_mem.mpr z
            rw [hk] at this
            cases this
          refine m_done hρ hA (SOK_add hA.1.1 c hn hnm) h g1 g2 g3 ⟨?_, ?_, fun i hi => ?_, fun j hj => ?_⟩ (fun i hi => by rw [su_i (by omega), su_i (by omega)]) (fun k i hk => by rw [su_k hk, su_k hk])
          · rw [su_i (by omega), su_i (by omega)]; exact hM1.1
          · rw [su_s]; show _ = iI ((A.1.1.2.1 ++ [n]).length : Nat)
            rw [List.length_append, List.length_singleton]
          · rw [su_i (by omega), su_i (by omega)]; exact hM1.2.2.1 i hi
          · have hj : j < (A.1.1.2.1 ++ [n]).length := hj
            rw [List.length_append, List.length_singleton] at hj
            show _ = iI ((A.1.1.2.1 ++ [n]).getD j 0 : Nat)
            rw [ap_getD (by omega), su_i (by omega)]
            by_cases d : j = A.1.1.2.1.length
            · rw [if_pos d, show 0 + 38 + j = 38 + A.1.1.2.1.length by omega, su_s]
            · rw [if_neg d, su_i (by omega)]; exact hM1.2.2.2 j (by omega)
        · rw [if_pos (by rw [w8, iI_eqN (by omega) (by omega)]; omega), if_neg c]
          exact m_no hρ hA h fs
  · rw [e, ob_some]
    dsimp only
    rw [if_pos rfl, cs_neg a]; exact m_no hρ hA h mk_7
