/-! TEXT: the tokens, the reference -/
def LI (z : Int) : Int64 := Int64.ofInt z
theorem LI_add (a b : Int) : LI a + LI b = LI (a + b) := (Int64.ofInt_add a b).symm
theorem LI_sub (a b : Int) : LI a - LI b = LI (a - b) := (Int64.ofInt_sub a b).symm
theorem LI_mul (a b : Int) : LI a * LI b = LI (a * b) := (Int64.ofInt_mul a b).symm
def rg64 (z : Int) : Prop := -9223372036854775808 ≤ z ∧ z < 9223372036854775808
theorem LI_toInt {z : Int} (h : rg64 z) : (LI z).toInt = z := Int64.toInt_ofInt_of_le h.1 h.2
theorem LI_of32 {b : Int} (h : rg32 b) : (iI b).toInt64 = LI b := by
  apply Int64.toInt_inj.mp
  rw [Int32.toInt_toInt64, iI_toInt h, LI_toInt ⟨by have := h.1; omega, by have := h.2; omega⟩]
theorem LI_eq {a b : Int} (ha : rg64 a) (hb : rg64 b) : LI a = LI b ↔ a = b := by
  constructor
  · intro h
    have := congrArg Int64.toInt h
    rw [LI_toInt ha, LI_toInt hb] at this
    exact this
  · intro h; rw [h]
theorem lg0 {a b : Int} (ha : rg64 a) (hb : rg64 b) : lg_cmp (LI a) (LI b) = 0 ↔ a = b := by
  unfold lg_cmp
  by_cases c1 : b < a
  · rw [if_pos (Int64.lt_iff_toInt_lt.mpr (by rw [LI_toInt ha, LI_toInt hb]; exact c1))]
    exact ⟨fun z => absurd z (by decide), fun z => by omega⟩
  · rw [if_neg (fun z => c1 (by have := Int64.lt_iff_toInt_lt.mp z; rw [LI_toInt ha, LI_toInt hb] at this; exact this))]
    by_cases c2 : a = b
    · rw [if_pos (by rw [c2])]; exact ⟨fun _ => c2, fun _ => rfl⟩
    · rw [if_neg (fun z => c2 ((LI_eq ha hb).mp z))]
      exact ⟨fun z => absurd z (by decide), fun z => absurd z c2⟩
theorem lgle {a b : Int} (ha : rg64 a) (hb : rg64 b) : lg_cmp (LI a) (LI b) ≤ 0 ↔ a ≤ b := by
  unfold lg_cmp
  by_cases c1 : b < a
  · rw [if_pos (Int64.lt_iff_toInt_lt.mpr (by rw [LI_toInt ha, LI_toInt hb]; exact c1))]
    exact ⟨fun z => absurd z (by decide), fun z => by omega⟩
  · rw [if_neg (fun z => c1 (by have := Int64.lt_iff_toInt_lt.mp z; rw [LI_toInt ha, LI_toInt hb] at this; exact this))]
    by_cases c2 : a = b
    · rw [if_pos (by rw [c2])]; exact ⟨fun _ => by omega, fun _ => by decide⟩
    · rw [if_neg (fun z => c2 ((LI_eq ha hb).mp z))]
      exact ⟨fun _ => by omega, fun _ => by decide⟩
/-- a word's number -/
def cde (T : Tp) (p : Nat) : Nat → Int
  | 0 => 0
  | k + 1 => if 9 ≤ k then -1 else 27 * cde T p k + Bt T (p + k) - 97 + 1
def rk (T : Tp) (a : Nat) : Nat := if tkd T a = 4 then 3 else if tkd T a = 5 then 4 else tkd T a
def rvv (T : Tp) (a : Nat) : Int := if bb T a = -1 then 0 else if ltr (bb T a) then cde T (pl T a) (nx T a - pl T a) else if dig (bb T a) then vl T a else bb T a
def MXr (σ : Sto) (T : Tp) : Prop := σ 92 14 = iI T.2 ∧ ∀ i, i < 500 → σ 94 i = iI (T.1 i)
def R92 (k i : Nat) : Prop := k = 92 ∧ 15 ≤ i
theorem MX_92 {σ s : Sto} {T : Tp} (h : MXr σ T) (e : Fr R92 σ s) : MXr s T := ⟨(e _ _ (by unfold R92; omega)).trans h.1, fun i hi => by rw [e _ _ (by unfold R92; omega)]; exact h.2 i hi⟩
theorem m_byteAt {σ : Sto} {ρ : Rho} {T : Tp} {i : Nat} (hρ : Md ρ) (hT : TOK T) (h : MXr σ T) (hi : i ≤ 5000) : MX12_byteAt σ ρ 92 (iI i) = some (iI (Bt T i)) := by
  have hl := hT.1
  unfold MX12_byteAt Bt
  rw [h.1]
  by_cases c : i < T.2
  · rw [if_neg (by rw [iI_leN (by omega) (by omega)]; omega), hρ.2.1, ob_some, ag94c (by omega), ob_some, h.2 i (by omega), if_pos c]
  · rw [if_pos (by rw [iI_leN (by omega) (by omega)]; omega), if_neg c]; rfl
/-- the reference's token -/
def TR (σ : Sto) (T : Tp) (a : Nat) : Prop := σ 92 15 = iI (nx T a) ∧ σ 92 16 = iI (rk T a) ∧ σ 92 17 = iI (pl T a) ∧ jn (σ 92 18) (σ 92 1018) = LI (rvv T a)
theorem fr92 {σ : Sto} {i : Nat} {v : Int32} (h : 15 ≤ i) : Fr R92 σ (su σ 92 i v) := Fr.su ⟨rfl, h⟩
/-- writing a long -/
theorem jn_w {σ : Sto} {v : Int64} : jn (su (su σ 92 18 (jlo v)) 92 1018 (jhi v) 92 18) (su (su σ 92 18 (jlo v)) 92 1018 (jhi v) 92 1018) = v := by
  rw [su_i (by decide), su_s, su_s, jn_jlo]
theorem m_wordLoop {σ : Sto} {ρ : Rho} {T : Tp} {p : Nat} (hρ : Md ρ) (hT : TOK T) (h : MXr σ T) (hp : p ≤ T.2) (h5 : σ 92 15 = iI p) (h7 : σ 92 17 = iI p) (h8 : jn (σ 92 18) (σ 92 1018) = LI 0) : OK (fixN (fun _ => none) (FX12_takes_80 ρ 92 (BX12_takes_155 ρ 92)) FU σ) (fun s => s 92 15 = iI (en ltr T p) ∧ s 92 16 = 1 ∧ s 92 17 = iI p ∧ jn (s 92 18) (s 92 1018) = LI (cde T p (en ltr T p - p)) ∧ Fr R92 σ s) := by
  have hl := hT.1
  have E : ∀ τ k, τ 92 15 = iI ((p + k : Nat) : Int) → τ 92 17 = iI p → jn (τ 92 18) (τ 92 1018) = LI (cde T p k) → Fr R92 σ τ → en ltr T p = p + k → OK (BX12_takes_155 ρ 92 τ) (fun s => s 92 15 = iI (en ltr T p) ∧ s 92 16 = 1 ∧ s 92 17 = iI p ∧ jn (s 92 18) (s 92 1018) = LI (cde T p (en ltr T p - p)) ∧ Fr R92 σ s) := by
    intro τ k i1 i2 i3 i4 he
    unfold BX12_takes_155
    rw [bn_eq, he, show p + k - p = k by omega]
    exact OK.so ⟨by rw [su_i (by decide)]; exact i1, su_s, by rw [su_i (by decide)]; exact i2, by rw [su_i (by decide), su_i (by decide)]; exact i3, i4.tr (fr92 (by omega))⟩
  refine run_g (S := Sto) (call := fun (g : Sto → Option Sto) τ (_ : Nat) => g τ) (N := T.2 - p) (I := fun k τ => τ 92 15 = iI ((p + k : Nat) : Int) ∧ τ 92 17 = iI p ∧ jn (τ 92 18) (τ 92 1018) = LI (cde T p k) ∧ (∀ i, p ≤ i → i < p + k → ltr (Bt T i) = true) ∧ Fr R92 σ τ) (Post := fun o => OK o _) ?_ ?_ (by unfold FU; omega) (k0 := 0) (by omega) (s := σ) ⟨h5, h7, h8, fun i x y => by omega, Fr.rf⟩
  · intro g τ ⟨i1, i2, i3, i4, i5⟩
    unfold FX12_takes_80
    have eb : Bt T (p + (T.2 - p)) = -1 := Bt_out (by omega)
    rw [i1, m_byteAt hρ hT (MX_92 h i5) (by omega), ob_some, m_ltr, c_ltr (by rw [eb]; omega), ob_some, eb, if_pos (show b32 (ltr (-1)) = 0 from rfl)]
    exact E τ _ i1 i2 i3 i5 (en_eq (by omega) (by omega) i4 (by rw [eb]; decide))
  · intro g τ k ⟨i1, i2, i3, i4, i5⟩ hk ih
    have hb := Bt_rg (T := T) (i := p + k) hT
    show OK (FX12_takes_80 ρ 92 (BX12_takes_155 ρ 92) g τ) _
    unfold FX12_takes_80 BX12_takes_139
    rw [i1, m_byteAt hρ hT (MX_92 h i5) (by omega), ob_some, m_ltr, c_ltr hb, ob_some]
    cases c : ltr (Bt T (p + k)) with
    | true =>
      have e5 : iI ((p + k : Nat) : Int) + (1 : Int32) = iI ((p + (k + 1) : Nat) : Int) := iI_succ _
      have i4' : ∀ i, p ≤ i → i < p + (k + 1) → ltr (Bt T i) = true := fun i x y => by
        by_cases e : i = p + k
        · rw [e]; exact c
        · exact i4 i x (by omega)
      have step : ∀ v : Int64, v = LI (cde T p (k + 1)) → OK (bn (su (su τ 92 18 (jlo v)) 92 1018 (jhi v)) fun σ1 => bn (su σ1 92 15 (σ1 92 15 + (1 : Int32))) fun σ2 => g σ2) (fun s => s 92 15 = iI (en ltr T p) ∧ s 92 16 = 1 ∧ s 92 17 = iI p ∧ jn (s 92 18) (s 92 1018) = LI (cde T p (en ltr T p - p)) ∧ Fr R92 σ s) := by
        intro v hv
        rw [bn_eq, bn_eq, show su (su τ 92 18 (jlo v)) 92 1018 (jhi v) 92 15 = τ 92 15 by rw [su_i (by decide), su_i (by decide)], i1, e5]
        refine ih _ ⟨su_s, by rw [su_i (by decide), su_i (by decide), su_i (by decide)]; exact i2, ?_, i4', ((i5.tr (fr92 (by omega))).tr (fr92 (by omega))).tr (fr92 (by omega))⟩
        rw [su_i (by decide), su_i (show (1018 : Nat) ≠ 15 by decide), jn_w, hv]
      rw [if_neg (show ¬ b32 true = 0 by decide), i2, iI_sub, show ((p + k : Nat) : Int) - (p : Int) = (k : Int) by omega]
      by_cases c9 : 9 ≤ k
      · rw [if_pos (by rw [show (9 : Int32) = iI ((9 : Nat) : Int) from rfl, iI_leN (by omega) (by omega)]; exact c9)]
        refine step _ ?_
        unfold cde
        rw [if_pos c9]; rfl
      · rw [if_neg (by rw [show (9 : Int32) = iI ((9 : Nat) : Int) from rfl, iI_leN (by omega) (by omega)]; exact c9), ob_some]
        refine step _ ?_
        rw [i3, LI_of32 ⟨by omega, by omega⟩, show (27 : Int64) = LI 27 from rfl, show (97 : Int64) = LI 97 from rfl, show (1 : Int64) = LI 1 from rfl, LI_mul, LI_add, LI_sub, LI_add]
        show _ = LI (if 9 ≤ k then -1 else 27 * cde T p k + Bt T (p + k) - 97 + 1)
        rw [if_neg c9]
    | false =>
      rw [if_pos (show b32 false = 0 from rfl)]
      exact E τ k i1 i2 i3 i5 (en_eq (by omega) (by omega) i4 c)
theorem m_digLoop {σ : Sto} {ρ : Rho} {T : Tp} {p : Nat} (hρ : Md ρ) (hT : TOK T) (h : MXr σ T) (hp : p ≤ T.2) (h5 : σ 92 15 = iI p) (h7 : σ 92 17 = iI p) (h8 : jn (σ 92 18) (σ 92 1018) = LI 0) : OK (fixN (fun _ => none) (FX12_takes_170 ρ 92 (BX12_takes_243 ρ 92)) FU σ) (fun s => s 92 15 = iI (en dig T p) ∧ s 92 16 = (if en dig T p - p ≤ 3 then 2 else 4) ∧ s 92 17 = iI p ∧ jn (s 92 18) (s 92 1018) = LI (dec T p (min 3 (en dig T p - p))) ∧ Fr R92 σ s) := by
  have hl := hT.1
  have E : ∀ τ k, τ 92 15 = iI ((p + k : Nat) : Int) → τ 92 17 = iI p → jn (τ 92 18) (τ 92 1018) = LI (dec T p (min 3 k)) → Fr R92 σ τ → en dig T p = p + k → k ≤ 500 → OK (BX12_takes_243 ρ 92 τ) (fun s => s 92 15 = iI (en dig T p) ∧ s 92 16 = (if en dig T p - p ≤ 3 then 2 else 4) ∧ s 92 17 = iI p ∧ jn (s 92 18) (s 92 1018) = LI (dec T p (min 3 (en dig T p - p))) ∧ Fr R92 σ s) := by
    intro τ k i1 i2 i3 i4 he hk
    unfold BX12_takes_243 BX12_takes_262
    rw [i1, i2, iI_sub, show ((p + k : Nat) : Int) - (p : Int) = (k : Int) by omega, he, show p + k - p = k by omega]
    by_cases c : k ≤ 3
    · rw [if_pos (by rw [w3, iI_leN (by omega) (by omega)]; exact c), if_pos c, bn_eq]
      exact OK.so ⟨by rw [su_i (by decide)]; exact i1, su_s, by rw [su_i (by decide)]; exact i2, by rw [su_i (by decide), su_i (by decide)]; exact i3, i4.tr (fr92 (by omega))⟩
    · rw [if_neg (by rw [w3, iI_leN (by omega) (by omega)]; exact c), if_neg c, bn_eq]
      exact OK.so ⟨by rw [su_i (by decide)]; exact i1, su_s, by rw [su_i (by decide)]; exact i2, by rw [su_i (by decide), su_i (by decide)]; exact i3, i4.tr (fr92 (by omega))⟩
  refine run_g (S := Sto) (call := fun (g : Sto → Option Sto) τ (_ : Nat) => g τ) (N := T.2 - p) (I := fun k τ => τ 92 15 = iI ((p + k : Nat) : Int) ∧ τ 92 17 = iI p ∧ jn (τ 92 18) (τ 92 1018) = LI (dec T p (min 3 k)) ∧ (∀ i, p ≤ i → i < p + k → dig (Bt T i) = true) ∧ Fr R92 σ τ) (Post := fun o => OK o _) ?_ ?_ (by unfold FU; omega) (k0 := 0) (by omega) (s := σ) ⟨h5, h7, h8, fun i x y => by omega, Fr.rf⟩
  · intro g τ ⟨i1, i2, i3, i4, i5⟩
    unfold FX12_takes_170
    have eb : Bt T (p + (T.2 - p)) = -1 := Bt_out (by omega)
    rw [i1, m_byteAt hρ hT (MX_92 h i5) (by omega), ob_some, m_dig, c_dig (by rw [eb]; omega), ob_some, eb, if_pos (show b32 (dig (-1)) = 0 from rfl)]
    exact E τ _ i1 i2 i3 i5 (en_eq (by omega) (by omega) i4 (by rw [eb]; decide)) (by omega)
  · intro g τ k ⟨i1, i2, i3, i4, i5⟩ hk ih
    have hb := Bt_rg (T := T) (i := p + k) hT
    show OK (FX12_takes_170 ρ 92 (BX12_takes_243 ρ 92) g τ) _
    unfold FX12_takes_170 BX12_takes_227
    rw [i1, m_byteAt hρ hT (MX_92 h i5) (by omega), ob_some, m_dig, c_dig hb, ob_some]
    cases c : dig (Bt T (p + k)) with
    | true =>
      have e5 : iI ((p + k : Nat) : Int) + (1 : Int32) = iI ((p + (k + 1) : Nat) : Int) := iI_succ _
      have i4' : ∀ i, p ≤ i → i < p + (k + 1) → dig (Bt T i) = true := fun i x y => by
        by_cases e : i = p + k
        · rw [e]; exact c
        · exact i4 i x (by omega)
      have step : ∀ v : Int64, v = LI (dec T p (min 3 (k + 1))) → OK (bn (su (su τ 92 18 (jlo v)) 92 1018 (jhi v)) fun σ1 => bn (su σ1 92 15 (σ1 92 15 + (1 : Int32))) fun σ2 => g σ2) (fun s => s 92 15 = iI (en dig T p) ∧ s 92 16 = (if en dig T p - p ≤ 3 then 2 else 4) ∧ s 92 17 = iI p ∧ jn (s 92 18) (s 92 1018) = LI (dec T p (min 3 (en dig T p - p))) ∧ Fr R92 σ s) := by
        intro v hv
        rw [bn_eq, bn_eq, show su (su τ 92 18 (jlo v)) 92 1018 (jhi v) 92 15 = τ 92 15 by rw [su_i (by decide), su_i (by decide)], i1, e5]
        refine ih _ ⟨su_s, by rw [su_i (by decide), su_i (by decide), su_i (by decide)]; exact i2, ?_, i4', ((i5.tr (fr92 (by omega))).tr (fr92 (by omega))).tr (fr92 (by omega))⟩
        rw [su_i (by decide), su_i (show (1018 : Nat) ≠ 15 by decide), jn_w, hv]
      rw [if_neg (show ¬ b32 true = 0 by decide), i2, iI_sub, show ((p + k : Nat) : Int) - (p : Int) = (k : Int) by omega]
      by_cases c3 : 3 ≤ k
      · rw [if_pos (by rw [w3, iI_leN (by omega) (by omega)]; exact c3)]
        exact step _ (by rw [i3, show min 3 k = 3 by omega, show min 3 (k + 1) = 3 by omega])
      · rw [if_neg (by rw [w3, iI_leN (by omega) (by omega)]; exact c3), ob_some]
        refine step _ ?_
        rw [i3, LI_of32 ⟨by omega, by omega⟩, show (10 : Int64) = LI 10 from rfl, show (48 : Int64) = LI 48 from rfl, LI_mul, LI_add, LI_sub, show min 3 k = k by omega, show min 3 (k + 1) = k + 1 by omega]
        rfl
    | false =>
      rw [if_pos (show b32 false = 0 from rfl)]
      exact E τ k i1 i2 i3 i5 (en_eq (by omega) (by omega) i4 c) (by omega)
theorem m_tk39 {σ τ : Sto} {ρ : Rho} {T : Tp} {a : Nat} (hρ : Md ρ) (hT : TOK T) (h : MXr τ T) (ha : a ≤ T.2) (h5 : τ 92 15 = iI (pl T a)) (hf : Fr R92 σ τ) : OK (BX12_takes_39 ρ 92 τ) (fun s => TR s T a ∧ Fr R92 σ s) := by
  have hl := hT.1
  have hp := pl_le ha
  have hb := Bt_rg (T := T) (i := pl T a) hT
  unfold BX12_takes_39
  have h1 : MXr (su τ 92 17 (τ 92 15)) T := MX_92 h (fr92 (by omega))
  have e5 : su τ 92 17 (τ 92 15) 92 15 = iI (pl T a) := by rw [su_i (by decide)]; exact h5
  have e7 : su τ 92 17 (τ 92 15) 92 17 = iI (pl T a) := by rw [su_s]; exact h5
  have f1 : Fr R92 σ (su τ 92 17 (τ 92 15)) := hf.tr (fr92 (by omega))
  rw [bn_eq]
  generalize su τ 92 17 (τ 92 15) = t at h1 e5 e7 f1 ⊢
  rw [e5, m_byteAt hρ hT h1 (by omega), ob_some, bn_eq, bn_eq]
  have j0 : jn (su (su t 92 18 (jlo (0 : Int64))) 92 1018 (jhi (0 : Int64)) 92 18) (su (su t 92 18 (jlo (0 : Int64))) 92 1018 (jhi (0 : Int64)) 92 1018) = LI 0 := jn_w
  have h2 : MXr (su (su t 92 18 (jlo (0 : Int64))) 92 1018 (jhi (0 : Int64))) T := MX_92 h1 ((fr92 (by omega)).tr (fr92 (by omega)))
  have e5' : su (su t 92 18 (jlo (0 : Int64))) 92 1018 (jhi (0 : Int64)) 92 15 = iI (pl T a) := by rw [su_i (by decide), su_i (by decide)]; exact e5
  have e7' : su (su t 92 18 (jlo (0 : Int64))) 92 1018 (jhi (0 : Int64)) 92 17 = iI (pl T a) := by rw [su_i (by decide), su_i (by decide)]; exact e7
  have f2 : Fr R92 σ (su (su t 92 18 (jlo (0 : Int64))) 92 1018 (jhi (0 : Int64))) := (f1.tr (fr92 (by omega))).tr (fr92 (by omega))
  generalize su (su t 92 18 (jlo (0 : Int64))) 92 1018 (jhi (0 : Int64)) = u at j0 h2 e5' e7' f2 ⊢
  unfold TR rk rvv
  by_cases c0 : bb T a = -1
  · have c0' : Bt T (pl T a) = -1 := c0
    rw [c0', if_neg (by decide), bn_eq]
    have n0 : nx T a = pl T a := by unfold nx; rw [if_pos c0]
    have k0 : tkd T a = 0 := by unfold tkd; rw [if_pos c0]
    rw [n0, k0, if_pos c0]
    exact OK.so ⟨⟨by rw [su_i (by decide)]; exact e5', su_s, by rw [su_i (by decide)]; exact e7', by rw [su_i (by decide), su_i (by decide)]; exact j0⟩, f2.tr (fr92 (by omega))⟩
  · have c0' : ¬ Bt T (pl T a) = -1 := c0
    rw [if_pos (by rw [show (0 : Int32) = iI 0 from rfl, iI_le ⟨by omega, by omega⟩ ⟨by omega, by omega⟩]; omega), m_ltr, c_ltr hb, ob_some]
    cases c1 : ltr (bb T a) with
    | true =>
      have c1' : ltr (Bt T (pl T a)) = true := c1
      rw [c1', if_neg (show ¬ b32 true = 0 by decide)]
      refine OK.mo (m_wordLoop hρ hT h2 hp.2 e5' e7' j0) ?_
      intro s ⟨u1, u2, u3, u4, u5⟩
      have n0 : nx T a = en ltr T (pl T a) := by unfold nx; rw [if_neg c0, if_pos c1]
      have k0 : tkd T a = 1 := by unfold tkd; rw [if_neg c0, if_pos c1]
      rw [n0, k0, if_neg c0, if_pos rfl]
      exact ⟨⟨u1, u2, u3, u4⟩, f2.tr u5⟩
    | false =>
      have c1' : ltr (Bt T (pl T a)) = false := c1
      rw [c1', if_pos (show b32 false = 0 from rfl), m_dig, c_dig hb, ob_some]
      cases c2 : dig (bb T a) with
      | true =>
        have c2' : dig (Bt T (pl T a)) = true := c2
        rw [c2', if_neg (show ¬ b32 true = 0 by decide)]
        refine OK.mo (m_digLoop hρ hT h2 hp.2 e5' e7' j0) ?_
        intro s ⟨u1, u2, u3, u4, u5⟩
        have n0 : nx T a = en dig T (pl T a) := by unfold nx; rw [if_neg c0, if_neg (by rw [c1]; decide), if_pos c2]
        have k0 : tkd T a = if en dig T (pl T a) - pl T a ≤ 3 then 2 else 5 := by unfold tkd; rw [if_neg c0, if_neg (by rw [c1]; decide), if_pos c2, n0]
        refine ⟨⟨by rw [n0]; exact u1, ?_, u3, ?_⟩, f2.tr u5⟩
        · rw [u2, k0]
          by_cases c : en dig T (pl T a) - pl T a ≤ 3
          · simp [c]; rfl
          · simp [c]; rfl
        · rw [u4, if_neg c0, if_neg (by decide), if_pos rfl]; unfold vl; rw [n0]
      | false =>
        have c2' : dig (Bt T (pl T a)) = false := c2
        have n0 : nx T a = pl T a + 1 := by unfold nx; rw [if_neg c0, if_neg (by rw [c1]; decide), if_neg (by rw [c2]; decide)]
        rw [c2', if_pos (show b32 false = 0 from rfl), bn_eq, e5', iI_succ, bn_eq, LI_of32 ⟨by omega, by omega⟩, n0, if_neg c0, if_neg (show ¬ (false = true) by decide), if_neg (show ¬ (false = true) by decide)]
        unfold BX12_takes_297 BX12_takes_302
        have fin : ∀ v : Int32, ∀ r : Nat, v = iI r → OK (bn (su (su (su (su u 92 15 (iI ((pl T a + 1 : Nat) : Int))) 92 18 (jlo (LI (Bt T (pl T a))))) 92 1018 (jhi (LI (Bt T (pl T a))))) 92 16 v) fun σ1 => some σ1) (fun s => (s 92 15 = iI ((pl T a + 1 : Nat) : Int) ∧ s 92 16 = iI r ∧ s 92 17 = iI (pl T a) ∧ jn (s 92 18) (s 92 1018) = LI (bb T a)) ∧ Fr R92 σ s) := by
          intro v r hv
          rw [bn_eq]
          refine OK.so ⟨⟨by rw [su_i (by decide), su_i (by decide), su_i (by decide), su_s], by rw [su_s]; exact hv, by rw [su_i (by decide), su_i (by decide), su_i (by decide), su_i (by decide)]; exact e7', ?_⟩, (((f2.tr (fr92 (by omega))).tr (fr92 (by omega))).tr (fr92 (by omega))).tr (fr92 (by omega))⟩
          rw [su_i (show (18 : Nat) ≠ 16 by decide), su_i (show (1018 : Nat) ≠ 16 by decide), jn_w]; rfl
        by_cases c4 : bb T a = 59
        · have c4' : Bt T (pl T a) = 59 := c4
          have k0 : tkd T a = 4 := by unfold tkd; rw [if_neg c0, if_neg (by rw [c1]; decide), if_neg (by rw [c2]; decide), if_neg (by omega), if_pos c4]
          rw [if_pos (by rw [c4']; rfl), k0]
          exact fin 3 3 rfl
        · have c4' : ¬ Bt T (pl T a) = 59 := c4
          rw [if_neg (by rw [show (59 : Int32) = iI 59 from rfl, iI_eq ⟨by omega, by omega⟩ ⟨by omega, by omega⟩]; exact c4')]
          by_cases c3 : bb T a = 45
          · have c3' : Bt T (pl T a) = 45 := c3
            have k0 : tkd T a = 3 := by unfold tkd; rw [if_neg c0, if_neg (by rw [c1]; decide), if_neg (by rw [c2]; decide), if_pos c3]
            rw [if_pos (by rw [c3']; rfl), k0]
            exact fin 3 3 rfl
          · have c3' : ¬ Bt T (pl T a) = 45 := c3
            have k0 : tkd T a = 5 := by unfold tkd; rw [if_neg c0, if_neg (by rw [c1]; decide), if_neg (by rw [c2]; decide), if_neg c3, if_neg c4]
            rw [if_neg (by rw [show (45 : Int32) = iI 45 from rfl, iI_eq ⟨by omega, by omega⟩ ⟨by omega, by omega⟩]; exact c3'), k0]
            exact fin 4 4 rfl
theorem m_takes {σ : Sto} {ρ : Rho} {T : Tp} {a : Nat} (hρ : Md ρ) (hT : TOK T) (h : MXr σ T) (ha : a ≤ T.2) (h5 : σ 92 15 = iI a) : OK (MX12_takes σ ρ 92) (fun s => TR s T a ∧ Fr R92 σ s) := by
  have hl := hT.1
  unfold MX12_takes
  refine run_g (S := Sto) (call := fun (g : Sto → Option Sto) τ (_ : Nat) => g τ) (N := T.2 - a) (I := fun k τ => τ 92 15 = iI ((a + k : Nat) : Int) ∧ (∀ i, a ≤ i → i < a + k → blk (Bt T i) = true) ∧ Fr R92 σ τ) (Post := fun o => OK o _) ?_ ?_ (by unfold FU; omega) (k0 := 0) (by omega) (s := σ) ⟨h5, fun i x y => by omega, Fr.rf⟩
  · intro g τ ⟨i1, i2, i3⟩
    unfold FX12_takes_0
    have eb : Bt T (a + (T.2 - a)) = -1 := Bt_out (by omega)
    have hm := MX_92 h i3
    rw [i1, m_byteAt hρ hT hm (by omega), ob_some, eb, if_neg (by decide), ob_some, if_neg (by decide)]
    refine m_tk39 hρ hT hm ha ?_ i3
    rw [i1, show pl T a = a + (T.2 - a) from en_eq (by omega) (by omega) i2 (by rw [eb]; decide)]
  · intro g τ k ⟨i1, i2, i3⟩ hk ih
    have hb := Bt_rg (T := T) (i := a + k) hT
    have hm := MX_92 h i3
    show OK (FX12_takes_0 ρ 92 (BX12_takes_39 ρ 92) g τ) _
    unfold FX12_takes_0 BX12_takes_26
    rw [i1, m_byteAt hρ hT hm (by omega), ob_some, ob_some]
    by_cases c : blk (Bt T (a + k)) = true
    · have nxt := ih (su τ 92 15 (iI ((a + (k + 1) : Nat) : Int))) ⟨su_s, fun i x y => by
        by_cases e : i = a + k
        · rw [e]; exact c
        · exact i2 i x (by omega), i3.tr (fr92 (by omega))⟩
      have e5 : iI ((a + k : Nat) : Int) + (1 : Int32) = iI ((a + (k + 1) : Nat) : Int) := iI_succ _
      by_cases c32 : Bt T (a + k) = 32
      · rw [if_pos (by rw [c32]; rfl), e5, bn_eq]; exact nxt
      · have c10 : Bt T (a + k) = 10 := by
          have := of_decide_eq_true c
          omega
        rw [if_neg (by rw [show (32 : Int32) = iI 32 from rfl, iI_eq ⟨by omega, by omega⟩ ⟨by omega, by omega⟩]; exact c32), if_pos (by rw [c10]; rfl), e5, bn_eq]; exact nxt
    · have c' : ¬ (Bt T (a + k) = 32 ∨ Bt T (a + k) = 10) := fun z => c (decide_eq_true z)
      rw [if_neg (by rw [show (32 : Int32) = iI 32 from rfl, iI_eq ⟨by omega, by omega⟩ ⟨by omega, by omega⟩]; exact fun z => c' (Or.inl z)), if_neg (by rw [show (10 : Int32) = iI 10 from rfl, iI_eq ⟨by omega, by omega⟩ ⟨by omega, by omega⟩]; exact fun z => c' (Or.inr z))]
      refine m_tk39 hρ hT hm ha ?_ i3
      rw [i1, show pl T a = a + k from en_eq (by omega) (by omega) i2 (by cases q : blk (Bt T (a + k)); rfl; exact absurd q c)]
