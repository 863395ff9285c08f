/-! TEXT: the tokens, the class -/
abbrev Tp : Type := (Nat → Int) × Nat
def TOK (T : Tp) : Prop := T.2 ≤ 500 ∧ ∀ i, i < 500 → 0 ≤ T.1 i ∧ T.1 i ≤ 255
def Bt (T : Tp) (i : Nat) : Int := if i < T.2 then T.1 i else -1
def blk (b : Int) : Bool := decide (b = 32 ∨ b = 10)
def ltr (b : Int) : Bool := decide (97 ≤ b ∧ b ≤ 122)
def dig (b : Int) : Bool := decide (48 ≤ b ∧ b ≤ 57)
def en (P : Int → Bool) (T : Tp) (a : Nat) : Nat := match fs (fun i => !P (Bt T (a + i))) (T.2 - a) with
  | some i => a + i
  | none => T.2
theorem en_eq {P : Int → Bool} {T : Tp} {a e : Nat} (h1 : a ≤ e) (h2 : e ≤ T.2) (h3 : ∀ i, a ≤ i → i < e → P (Bt T i) = true) (h4 : P (Bt T e) = false) : en P T a = e := by
  unfold en
  by_cases c : e = T.2
  · rw [fs_none.mpr (fun i hi => by rw [h3 (a + i) (by omega) (by omega)]; rfl)]; exact c.symm
  · rw [fs_of (k := e - a) (by omega) (by rw [show a + (e - a) = e by omega, h4]; rfl) (fun j hj => by rw [h3 (a + j) (by omega) (by omega)]; rfl)]
    show a + (e - a) = e
    omega
theorem en_le {P : Int → Bool} {T : Tp} {a : Nat} (h : a ≤ T.2) : a ≤ en P T a ∧ en P T a ≤ T.2 := by
  unfold en
  cases e : fs (fun i => !P (Bt T (a + i))) (T.2 - a) with
  | none => exact ⟨h, Nat.le_refl _⟩
  | some i =>
    obtain ⟨x, -, -⟩ := fs_some e
    exact ⟨Nat.le_add_right _ _, by show a + i ≤ T.2; omega⟩
theorem Bt_rg {T : Tp} {i : Nat} (h : TOK T) : -1 ≤ Bt T i ∧ Bt T i ≤ 255 := by
  unfold Bt
  by_cases c : i < T.2
  · rw [if_pos c]
    have := h.2 i (by have := h.1; omega)
    omega
  · rw [if_neg c]; omega
theorem Bt_lt {T : Tp} {i : Nat} (h : Bt T i ≠ -1) : i < T.2 := by
  unfold Bt at h
  by_cases c : i < T.2
  · exact c
  · rw [if_neg c] at h; exact absurd rfl h
theorem Bt_out {T : Tp} {i : Nat} (h : T.2 ≤ i) : Bt T i = -1 := by
  unfold Bt
  rw [if_neg (by omega)]
theorem Bt_m1 {T : Tp} {i : Nat} (h : TOK T) : Bt T i = -1 ↔ T.2 ≤ i := by
  constructor
  · intro e
    unfold Bt at e
    by_cases c : i < T.2
    · rw [if_pos c] at e
      have := h.2 i (by have := h.1; omega)
      omega
    · omega
  · exact Bt_out
def pl (T : Tp) (a : Nat) : Nat := en blk T a
def bb (T : Tp) (a : Nat) : Int := Bt T (pl T a)
def nx (T : Tp) (a : Nat) : Nat := if bb T a = -1 then pl T a else if ltr (bb T a) then en ltr T (pl T a) else if dig (bb T a) then en dig T (pl T a) else pl T a + 1
def tkd (T : Tp) (a : Nat) : Nat := if bb T a = -1 then 0 else if ltr (bb T a) then 1 else if dig (bb T a) then (if nx T a - pl T a ≤ 3 then 2 else 5) else if bb T a = 45 then 3 else if bb T a = 59 then 4 else 5
def dec (T : Tp) (p : Nat) : Nat → Int
  | 0 => 0
  | k + 1 => 10 * dec T p k + Bt T (p + k) - 48
def vl (T : Tp) (a : Nat) : Int := dec T (pl T a) (min 3 (nx T a - pl T a))
theorem pl_le {T : Tp} {a : Nat} (h : a ≤ T.2) : a ≤ pl T a ∧ pl T a ≤ T.2 := en_le h
theorem nx_le {T : Tp} {a : Nat} (h : a ≤ T.2) : pl T a ≤ nx T a ∧ nx T a ≤ T.2 := by
  have hp := pl_le h
  unfold nx
  by_cases c0 : bb T a = -1
  · rw [if_pos c0]; exact ⟨Nat.le_refl _, hp.2⟩
  · have := Bt_lt c0
    rw [if_neg c0]
    by_cases c1 : ltr (bb T a) = true
    · rw [if_pos c1]; exact en_le hp.2
    · rw [if_neg c1]
      by_cases c2 : dig (bb T a) = true
      · rw [if_pos c2]; exact en_le hp.2
      · rw [if_neg c2]; exact ⟨by omega, by omega⟩
/-- what the class's reader sees -/
def CXr (σ : Sto) (T : Tp) : Prop := σ 5 1 = iI T.2 ∧ ∀ i, i < 500 → σ 6 i &&& 255 = iI (T.1 i)
theorem CX_k {σ s : Sto} {T : Tp} (h : CXr σ T) (e : ∀ k i, k < 53 → s k i = σ k i) : CXr s T := ⟨(e _ _ (by omega)).trans h.1, fun i hi => by rw [e _ _ (by omega)]; exact h.2 i hi⟩
theorem c_byteAt {σ : Sto} {ρ : Rho} {T : Tp} {i : Nat} (hD : Dk ρ) (hT : TOK T) (h : CXr σ T) (hi : i ≤ 5000) : MX9_byteAt σ ρ 5 (iI i) = some (iI (Bt T i)) := by
  have hl := hT.1
  unfold MX9_byteAt Bt
  rw [if_neg (by rw [w0, iI_lt ⟨by omega, by omega⟩ ⟨by omega, by omega⟩]; omega), h.1]
  by_cases c : i < T.2
  · rw [if_neg (by rw [iI_leN (by omega) (by omega)]; omega), if_neg (by rw [show (500 : Int32) = iI ((500 : Nat) : Int) from rfl, iI_leN (by omega) (by omega)]; omega), dk_5_0 hD, ob_some, ag_ok (by omega) (by rw [ln6]; omega) (by rw [ln6]; omega), ob_some, show ((i : Int)).toNat = i from rfl, h.2 i (by omega), if_pos c]
  · rw [if_pos (by rw [iI_leN (by omega) (by omega)]; omega), if_neg c]; rfl
theorem c_ltr {b : Int} (h : -1 ≤ b ∧ b ≤ 255) : MX7_isLetter (iI b) = some (b32 (ltr b)) := by
  unfold MX7_isLetter ltr
  by_cases c1 : b < 97
  · rw [if_pos (by rw [show (97 : Int32) = iI 97 from rfl, iI_lt ⟨by omega, by omega⟩ ⟨by omega, by omega⟩]; exact c1), decide_eq_false (by omega)]; exact zr0 _
  · rw [if_neg (by rw [show (97 : Int32) = iI 97 from rfl, iI_lt ⟨by omega, by omega⟩ ⟨by omega, by omega⟩]; exact c1)]
    by_cases c2 : 122 < b
    · rw [if_pos (by rw [show (122 : Int32) = iI 122 from rfl, iI_lt ⟨by omega, by omega⟩ ⟨by omega, by omega⟩]; exact c2), decide_eq_false (by omega)]; exact zr0 _
    · rw [if_neg (by rw [show (122 : Int32) = iI 122 from rfl, iI_lt ⟨by omega, by omega⟩ ⟨by omega, by omega⟩]; exact c2), decide_eq_true (by omega)]; exact zr1 _
theorem c_dig {b : Int} (h : -1 ≤ b ∧ b ≤ 255) : MX7_isDigit (iI b) = some (b32 (dig b)) := by
  unfold MX7_isDigit dig
  by_cases c1 : b < 48
  · rw [if_pos (by rw [show (48 : Int32) = iI 48 from rfl, iI_lt ⟨by omega, by omega⟩ ⟨by omega, by omega⟩]; exact c1), decide_eq_false (by omega)]; exact zr0 _
  · rw [if_neg (by rw [show (48 : Int32) = iI 48 from rfl, iI_lt ⟨by omega, by omega⟩ ⟨by omega, by omega⟩]; exact c1)]
    by_cases c2 : 57 < b
    · rw [if_pos (by rw [show (57 : Int32) = iI 57 from rfl, iI_lt ⟨by omega, by omega⟩ ⟨by omega, by omega⟩]; exact c2), decide_eq_false (by omega)]; exact zr0 _
    · rw [if_neg (by rw [show (57 : Int32) = iI 57 from rfl, iI_lt ⟨by omega, by omega⟩ ⟨by omega, by omega⟩]; exact c2), decide_eq_true (by omega)]; exact zr1 _
theorem m_ltr (x : Int32) : MX12_isLetter x = MX7_isLetter x := rfl
theorem m_dig (x : Int32) : MX12_isDigit x = MX7_isDigit x := rfl
def R53 (k i : Nat) : Prop := k = 53 ∧ 5 ≤ i ∧ i ≤ 8
theorem CX_53 {σ s : Sto} {T : Tp} (h : CXr σ T) (e : Fr R53 σ s) : CXr s T := CX_k h (fun k i hk => e k i (by unfold R53; omega))
theorem iI_500 {k : Nat} (hk : k < 500) : ¬ ((500 : Int32) ≤ iI (k : Int)) := by rw [show (500 : Int32) = iI ((500 : Nat) : Int) from rfl, iI_leN (by omega) (by omega)]; omega
theorem in_le {P : Int → Bool} {T : Tp} {p k : Nat} (hP : P (-1) = false) (hp : p ≤ T.2) (h : ∀ i, p ≤ i → i < p + k → P (Bt T i) = true) : p + k ≤ T.2 := by
  by_cases e : k = 0
  · omega
  · have : p + (k - 1) < T.2 := Bt_lt (fun z => by
      have := h (p + (k - 1)) (by omega) (by omega)
      rw [z, hP] at this; cases this)
    omega
theorem c_skip {σ : Sto} {ρ : Rho} {T : Tp} {a : Nat} (hD : Dk ρ) (hT : TOK T) (h : CXr σ T) (ha : a ≤ T.2) (h5 : σ 53 5 = iI a) : OK (MX7_skipBlanks σ ρ 53 5) (fun s => s 53 5 = iI (pl T a) ∧ Fr R53 σ s) := by
  have hl := hT.1
  unfold MX7_skipBlanks
  rw [bn_eq]
  refine run_g (S := Sto) (call := fun (g : Sto → Int32 → Option Sto) τ (k : Nat) => g τ (iI k)) (N := 500) (I := fun k τ => τ 53 5 = iI ((a + k : Nat) : Int) ∧ (∀ i, a ≤ i → i < a + k → blk (Bt T i) = true) ∧ Fr R53 σ τ) (Post := fun o => OK o _) ?_ ?_ (by unfold FU; omega) (k0 := 0) (by omega) (s := σ) ⟨h5, fun i x y => by omega, Fr.rf⟩
  · intro g τ ⟨i1, i2, i3⟩
    have := in_le (P := blk) (by decide) ha i2
    unfold FX7_skipBlanks_2
    rw [if_pos (by decide)]
    have : pl T a = a + 500 := en_eq (by omega) (by omega) i2 (by rw [Bt_out (by omega)]; decide)
    exact OK.so ⟨by rw [this]; exact i1, i3⟩
  · intro g τ k ⟨i1, i2, i3⟩ hk ih
    have hb := Bt_rg (T := T) (i := a + k) hT
    unfold FX7_skipBlanks_2 BX7_skipBlanks_31
    rw [if_neg (iI_500 hk), i1, c_byteAt hD hT (CX_53 h i3) (by omega), ob_some, bn_eq]
    by_cases c : blk (Bt T (a + k)) = true
    · have hlt : a + k < T.2 := Bt_lt (fun e => by rw [e] at c; cases c)
      have nxt := ih (su τ 53 5 (iI ((a + (k + 1) : Nat) : Int))) ⟨su_s, fun i x y => by
        by_cases e : i = a + k
        · rw [e]; exact c
        · exact i2 i x (by omega), i3.tr (Fr.su (by unfold R53; omega))⟩
      have e5 : iI ((a + k : Nat) : Int) + (1 : Int32) = iI ((a + (k + 1) : Nat) : Int) := iI_succ _
      by_cases c32 : Bt T (a + k) = 32
      · rw [if_pos (by rw [c32]; rfl), e5, bn_eq, bn_eq, iI_succ]; exact nxt
      · have c10 : Bt T (a + k) = 10 := by
          have := of_decide_eq_true c
          omega
        rw [if_neg (by rw [show (32 : Int32) = iI 32 from rfl, iI_eq ⟨by omega, by omega⟩ ⟨by omega, by omega⟩]; exact c32), if_pos (by rw [c10]; rfl), e5, bn_eq, bn_eq, iI_succ]; exact nxt
    · have c' : ¬ (Bt T (a + k) = 32 ∨ Bt T (a + k) = 10) := fun z => c (decide_eq_true z)
      rw [if_neg (by rw [show (32 : Int32) = iI 32 from rfl, iI_eq ⟨by omega, by omega⟩ ⟨by omega, by omega⟩]; exact fun z => c' (Or.inl z)), if_neg (by rw [show (10 : Int32) = iI 10 from rfl, iI_eq ⟨by omega, by omega⟩ ⟨by omega, by omega⟩]; exact fun z => c' (Or.inr z))]
      have hle : a + k ≤ T.2 := by
        by_cases e : k = 0
        · omega
        · have : a + (k - 1) < T.2 := Bt_lt (fun z => by
            have := i2 (a + (k - 1)) (by omega) (by omega)
            rw [z] at this; cases this)
          omega
      have : pl T a = a + k := en_eq (by omega) hle i2 (by cases q : blk (Bt T (a + k)); rfl; exact absurd q c)
      exact OK.so ⟨by rw [this]; exact i1, i3⟩
theorem c_word {σ : Sto} {ρ : Rho} {T : Tp} {p : Nat} (hD : Dk ρ) (hT : TOK T) (h : CXr σ T) (hp : p ≤ T.2) (h5 : σ 53 5 = iI p) (h7 : σ 53 7 = iI p) : OK (MX7_takeWord σ ρ 53 5) (fun s => s 53 5 = iI (en ltr T p) ∧ s 53 6 = 1 ∧ s 53 7 = iI p ∧ Fr R53 σ s) := by
  have hl := hT.1
  unfold MX7_takeWord
  rw [bn_eq, bn_eq]
  refine run_g (S := Sto) (call := fun (g : Sto → Int32 → Option Sto) τ (k : Nat) => g τ (iI k)) (N := 500) (I := fun k τ => τ 53 5 = iI ((p + k : Nat) : Int) ∧ τ 53 6 = 1 ∧ τ 53 7 = iI p ∧ (∀ i, p ≤ i → i < p + k → ltr (Bt T i) = true) ∧ Fr R53 σ τ) (Post := fun o => OK o _) ?_ ?_ (by unfold FU; omega) (k0 := 0) (by omega) (s := su σ 53 6 1) ⟨by rw [su_i (by decide)]; exact h5, su_s, by rw [su_i (by decide)]; exact h7, fun i x y => by omega, Fr.su (by unfold R53; omega)⟩
  · intro g τ ⟨i1, i2, i3, i4, i5⟩
    have := in_le (P := ltr) (by decide) hp i4
    have p0 : p = 0 := by omega
    unfold FX7_takeWord_7
    rw [if_pos (by decide)]
    have : en ltr T p = p + 500 := en_eq (by omega) (by omega) i4 (by rw [Bt_out (by omega)]; decide)
    exact OK.so ⟨by rw [this]; exact i1, i2, i3, i5⟩
  · intro g τ k ⟨i1, i2, i3, i4, i5⟩ hk ih
    have hb := Bt_rg (T := T) (i := p + k) hT
    have hle := in_le (P := ltr) (by decide) hp i4
    unfold FX7_takeWord_7
    rw [if_neg (iI_500 hk), i1, c_byteAt hD hT (CX_53 h i5) (by omega), ob_some, c_ltr hb, ob_some]
    cases c : ltr (Bt T (p + k)) with
    | true =>
      have e5 : iI ((p + k : Nat) : Int) + (1 : Int32) = iI ((p + (k + 1) : Nat) : Int) := iI_succ _
      rw [if_neg (show ¬ b32 true = 0 by decide), e5, bn_eq, bn_eq, iI_succ]
      exact ih _ ⟨su_s, by rw [su_i (by decide)]; exact i2, by rw [su_i (by decide)]; exact i3, fun i x y => by
        by_cases e : i = p + k
        · rw [e]; exact c
        · exact i4 i x (by omega), i5.tr (Fr.su (by unfold R53; omega))⟩
    | false =>
      rw [if_pos (show b32 false = 0 from rfl)]
      exact OK.so ⟨by rw [en_eq (by omega) hle i4 c]; exact i1, i2, i3, i5⟩
theorem dec_bd {T : Tp} {p k : Nat} (h : ∀ i, p ≤ i → i < p + k → dig (Bt T i) = true) (hk : k ≤ 3) : 0 ≤ dec T p k ∧ dec T p k ≤ 999 := by
  have D : ∀ j, j < k → 48 ≤ Bt T (p + j) ∧ Bt T (p + j) ≤ 57 := fun j hj => of_decide_eq_true (h (p + j) (by omega) (by omega))
  have : k = 0 ∨ k = 1 ∨ k = 2 ∨ k = 3 := by omega
  rcases this with rfl | rfl | rfl | rfl
  · unfold dec; omega
  · have d0 := D 0 (by omega)
    simp only [dec]; omega
  · have d0 := D 0 (by omega); have d1 := D 1 (by omega)
    simp only [dec]; omega
  · have d0 := D 0 (by omega); have d1 := D 1 (by omega); have d2 := D 2 (by omega)
    simp only [dec]; omega
theorem c_digits {σ : Sto} {ρ : Rho} {T : Tp} {p : Nat} (hD : Dk ρ) (hT : TOK T) (h : CXr σ T) (hp : p ≤ T.2) (h5 : σ 53 5 = iI p) (h7 : σ 53 7 = iI p) : OK (MX7_takeDigits σ ρ 53 5) (fun s => s 53 5 = iI (en dig T p) ∧ s 53 6 = (if en dig T p - p ≤ 3 then 2 else 5) ∧ s 53 7 = iI p ∧ s 53 8 = iI (dec T p (min 3 (en dig T p - p))) ∧ Fr R53 σ s) := by
  have hl := hT.1
  -- the end of it
  have E : ∀ τ k, τ 53 5 = iI ((p + k : Nat) : Int) → τ 53 8 = iI (dec T p (min 3 k)) → τ 53 7 = iI p → Fr R53 σ τ → en dig T p = p + k → k ≤ 500 → OK (BX7_takeDigits_72 ρ 53 5 τ) (fun s => s 53 5 = iI (en dig T p) ∧ s 53 6 = (if en dig T p - p ≤ 3 then 2 else 5) ∧ s 53 7 = iI p ∧ s 53 8 = iI (dec T p (min 3 (en dig T p - p))) ∧ Fr R53 σ s) := by
    intro τ k i1 i2 i3 i5 he hk
    unfold BX7_takeDigits_72 BX7_takeDigits_91
    have es : τ 53 5 - τ 53 7 = iI (k : Int) := by rw [i1, i3, iI_sub]; congr 1; omega
    rw [es, he, show p + k - p = k by omega]
    by_cases c : k ≤ 3
    · rw [if_neg (by rw [w3, iI_lt ⟨by omega, by omega⟩ ⟨by omega, by omega⟩]; omega), if_pos c, bn_eq]
      exact OK.so ⟨by rw [su_i (by decide)]; exact i1, su_s, by rw [su_i (by decide)]; exact i3, by rw [su_i (by decide)]; exact i2, i5.tr (Fr.su (by unfold R53; omega))⟩
    · rw [if_pos (by rw [w3, iI_lt ⟨by omega, by omega⟩ ⟨by omega, by omega⟩]; omega), if_neg c, bn_eq]
      exact OK.so ⟨by rw [su_i (by decide)]; exact i1, su_s, by rw [su_i (by decide)]; exact i3, by rw [su_i (by decide)]; exact i2, i5.tr (Fr.su (by unfold R53; omega))⟩
  unfold MX7_takeDigits
  rw [bn_eq, bn_eq]
  refine run_g (S := Sto) (call := fun (g : Sto → Int32 → Option Sto) τ (k : Nat) => g τ (iI k)) (N := 500) (I := fun k τ => τ 53 5 = iI ((p + k : Nat) : Int) ∧ τ 53 8 = iI (dec T p (min 3 k)) ∧ τ 53 7 = iI p ∧ (∀ i, p ≤ i → i < p + k → dig (Bt T i) = true) ∧ Fr R53 σ τ) (Post := fun o => OK o _) ?_ ?_ (by unfold FU; omega) (k0 := 0) (by omega) (s := su σ 53 8 0) ⟨by rw [su_i (by decide)]; exact h5, su_s, by rw [su_i (by decide)]; exact h7, fun i x y => by omega, Fr.su (by unfold R53; omega)⟩
  · intro g τ ⟨i1, i2, i3, i4, i5⟩
    have := in_le (P := dig) (by decide) hp i4
    unfold FX7_takeDigits_7
    rw [if_pos (by decide)]
    exact E τ 500 i1 i2 i3 i5 (en_eq (by omega) (by omega) i4 (by rw [Bt_out (by omega)]; decide)) (by omega)
  · intro g τ k ⟨i1, i2, i3, i4, i5⟩ hk ih
    have hb := Bt_rg (T := T) (i := p + k) hT
    have hle := in_le (P := dig) (by decide) hp i4
    unfold FX7_takeDigits_7 BX7_takeDigits_56
    rw [if_neg (iI_500 hk), i1, c_byteAt hD hT (CX_53 h i5) (by omega), ob_some, c_dig hb, ob_some]
    cases c : dig (Bt T (p + k)) with
    | true =>
      have e5 : iI ((p + k : Nat) : Int) + (1 : Int32) = iI ((p + (k + 1) : Nat) : Int) := iI_succ _
      have i4' : ∀ i, p ≤ i → i < p + (k + 1) → dig (Bt T i) = true := fun i x y => by
        by_cases e : i = p + k
        · rw [e]; exact c
        · exact i4 i x (by omega)
      rw [if_neg (show ¬ b32 true = 0 by decide)]
      by_cases c3 : 3 ≤ k
      · rw [if_pos (by rw [w3, iI_leN (by omega) (by omega)]; exact c3), e5, bn_eq, bn_eq, iI_succ]
        refine ih _ ⟨su_s, ?_, by rw [su_i (by decide)]; exact i3, i4', i5.tr (Fr.su (by unfold R53; omega))⟩
        rw [su_i (by decide), i2, show min 3 k = 3 by omega, show min 3 (k + 1) = 3 by omega]
      · have e8 : min 3 k = k := by omega
        rw [if_neg (by rw [w3, iI_leN (by omega) (by omega)]; exact c3), ob_some, bn_eq, i2, e8, show (10 : Int32) = iI 10 from rfl, show (48 : Int32) = iI 48 from rfl, iI_mul, iI_add, iI_sub, su_i (by decide), i1, e5, bn_eq, bn_eq, iI_succ]
        refine ih _ ⟨su_s, ?_, by rw [su_i (by decide), su_i (by decide)]; exact i3, i4', (i5.tr (Fr.su (by unfold R53; omega))).tr (Fr.su (by unfold R53; omega))⟩
        rw [su_i (by decide), su_s, show min 3 (k + 1) = k + 1 by omega]; rfl
    | false =>
      rw [if_pos (show b32 false = 0 from rfl)]
      exact E τ k i1 i2 i3 i5 (en_eq (by omega) hle i4 c) (by omega)
/-- the class's token -/
def TC (σ : Sto) (T : Tp) (a : Nat) : Prop := σ 53 5 = iI (nx T a) ∧ σ 53 6 = iI (tkd T a) ∧ σ 53 7 = iI (pl T a) ∧ (tkd T a = 2 → σ 53 8 = iI (vl T a))
theorem c_advance {σ : Sto} {ρ : Rho} {T : Tp} {a : Nat} (hD : Dk ρ) (hT : TOK T) (h : CXr σ T) (ha : a ≤ T.2) (h5 : σ 53 5 = iI a) : OK (MX7_advance σ ρ 53 5) (fun s => TC s T a ∧ Fr R53 σ s) := by
  have hl := hT.1
  have hp := pl_le ha
  unfold MX7_advance
  refine OK.bi (c_skip hD hT h ha h5) ?_
  intro s ⟨g1, g2⟩
  have h2 : CXr (su s 53 7 (s 53 5)) T := CX_53 h (g2.tr (Fr.su (by unfold R53; omega)))
  have e5 : su s 53 7 (s 53 5) 53 5 = iI (pl T a) := by rw [su_i (by decide)]; exact g1
  have e7 : su s 53 7 (s 53 5) 53 7 = iI (pl T a) := by rw [su_s]; exact g1
  have f2 : Fr R53 σ (su s 53 7 (s 53 5)) := g2.tr (Fr.su (by unfold R53; omega))
  rw [bn_eq]
  generalize su s 53 7 (s 53 5) = t at h2 e5 e7 f2 ⊢
  have hb := Bt_rg (T := T) (i := pl T a) hT
  rw [e5, c_byteAt hD hT h2 (by omega), ob_some, bn_eq]
  unfold TC
  by_cases c0 : bb T a = -1
  · have c0' : Bt T (pl T a) = -1 := c0
    rw [if_pos (by rw [c0']; rfl), bn_eq]
    have n0 : nx T a = pl T a := by unfold nx; rw [if_pos c0]
    have k0 : tkd T a = 0 := by unfold tkd; rw [if_pos c0]
    rw [n0, k0]
    exact OK.so ⟨⟨by rw [su_i (by decide)]; exact e5, su_s, by rw [su_i (by decide)]; exact e7, fun z => absurd z (by decide)⟩, f2.tr (Fr.su (by unfold R53; omega))⟩
  · have c0' : ¬ Bt T (pl T a) = -1 := c0
    rw [if_neg (by rw [show (-1 : Int32) = iI (-1) from rfl, iI_eq ⟨by omega, by omega⟩ ⟨by omega, by omega⟩]; exact c0'), c_ltr hb, ob_some]
    cases c1 : ltr (bb T a) with
    | true =>
      have c1' : ltr (Bt T (pl T a)) = true := c1
      rw [c1', if_neg (show ¬ b32 true = 0 by decide)]
      refine OK.bi (c_word hD hT h2 hp.2 e5 e7) ?_
      intro u ⟨u1, u2, u3, u4⟩
      have n0 : nx T a = en ltr T (pl T a) := by unfold nx; rw [if_neg c0, if_pos c1]
      have k0 : tkd T a = 1 := by unfold tkd; rw [if_neg c0, if_pos c1]
      rw [n0, k0]
      exact OK.so ⟨⟨u1, u2, u3, fun z => absurd z (by decide)⟩, f2.tr u4⟩
    | false =>
      have c1' : ltr (Bt T (pl T a)) = false := c1
      rw [c1', if_pos (show b32 false = 0 from rfl), c_dig hb, ob_some]
      cases c2 : dig (bb T a) with
      | true =>
        have c2' : dig (Bt T (pl T a)) = true := c2
        rw [c2', if_neg (show ¬ b32 true = 0 by decide)]
        refine OK.bi (c_digits hD hT h2 hp.2 e5 e7) ?_
        intro u ⟨u1, u2, u3, u4, u5⟩
        have n0 : nx T a = en dig T (pl T a) := by unfold nx; rw [if_neg c0, if_neg (by rw [c1]; decide), if_pos c2]
        have k0 : tkd T a = if en dig T (pl T a) - pl T a ≤ 3 then 2 else 5 := by unfold tkd; rw [if_neg c0, if_neg (by rw [c1]; decide), if_pos c2, n0]
        refine OK.so ⟨⟨by rw [n0]; exact u1, ?_, u3, fun _ => ?_⟩, f2.tr u5⟩
        · rw [u2, k0]
          by_cases c : en dig T (pl T a) - pl T a ≤ 3
          · rw [if_pos c, if_pos c]; rfl
          · rw [if_neg c, if_neg c]; rfl
        · rw [u4]; unfold vl; rw [n0]
      | false =>
        have c2' : dig (Bt T (pl T a)) = false := c2
        rw [c2', if_pos (show b32 false = 0 from rfl), iI_succ, bn_eq]
        have n0 : nx T a = pl T a + 1 := by unfold nx; rw [if_neg c0, if_neg (by rw [c1]; decide), if_neg (by rw [c2]; decide)]
        have f3 : ∀ v : Int32, Fr R53 σ (su (su t 53 5 (iI ((pl T a + 1 : Nat) : Int))) 53 6 v) := fun v => (f2.tr (Fr.su (by unfold R53; omega))).tr (Fr.su (by unfold R53; omega))
        unfold BX7_advance_97
        by_cases c3 : bb T a = 45
        · have c3' : Bt T (pl T a) = 45 := c3
          have k0 : tkd T a = 3 := by unfold tkd; rw [if_neg c0, if_neg (by rw [c1]; decide), if_neg (by rw [c2]; decide), if_pos c3]
          rw [if_pos (by rw [c3']; rfl), bn_eq, n0, k0]
          exact OK.so ⟨⟨by rw [su_i (by decide), su_s], su_s, by rw [su_i (by decide), su_i (by decide)]; exact e7, fun z => absurd z (by decide)⟩, f3 _⟩
        · have c3' : ¬ Bt T (pl T a) = 45 := c3
          rw [if_neg (by rw [show (45 : Int32) = iI 45 from rfl, iI_eq ⟨by omega, by omega⟩ ⟨by omega, by omega⟩]; exact c3')]
          by_cases c4 : bb T a = 59
          · have c4' : Bt T (pl T a) = 59 := c4
            have k0 : tkd T a = 4 := by unfold tkd; rw [if_neg c0, if_neg (by rw [c1]; decide), if_neg (by rw [c2]; decide), if_neg c3, if_pos c4]
            rw [if_pos (by rw [c4']; rfl), bn_eq, n0, k0]
            exact OK.so ⟨⟨by rw [su_i (by decide), su_s], su_s, by rw [su_i (by decide), su_i (by decide)]; exact e7, fun z => absurd z (by decide)⟩, f3 _⟩
          · have c4' : ¬ Bt T (pl T a) = 59 := c4
            have k0 : tkd T a = 5 := by unfold tkd; rw [if_neg c0, if_neg (by rw [c1]; decide), if_neg (by rw [c2]; decide), if_neg c3, if_neg c4]
            rw [if_neg (by rw [show (59 : Int32) = iI 59 from rfl, iI_eq ⟨by omega, by omega⟩ ⟨by omega, by omega⟩]; exact c4'), bn_eq, n0, k0]
            exact OK.so ⟨⟨by rw [su_i (by decide), su_s], su_s, by rw [su_i (by decide), su_i (by decide)]; exact e7, fun z => absurd z (by decide)⟩, f3 _⟩
