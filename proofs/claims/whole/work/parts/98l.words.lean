/-! TEXT: the four words -/
def wl (k : Nat) : List Int := ([[112, 114, 105, 109, 101], [112, 111, 105, 110, 116], [99, 111, 110, 105, 99], [112, 97, 105, 114]] : List (List Int)).getD k []
def wcode (k : Nat) : Int := ([8864267, 8805260, 1900020, 315918] : List Int).getD k 0
def wis (T : Tp) (a k : Nat) : Bool := decide (tkd T a = 1 ∧ nx T a - pl T a = (wl k).length ∧ ∀ j, j < (wl k).length → Bt T (pl T a + j) = (wl k).getD j 0)
theorem wlen : ∀ k, k < 4 → MJ0_length_8abf5 k = some (iI ((wl k).length : Nat)) := by decide +kernel
theorem wlen5 : ∀ k, k < 4 → (wl k).length ≤ 5 := by decide +kernel
theorem wchr : ∀ k, k < 4 → ∀ j, j < (wl k).length → MJ0_charAt_5068e k (iI (j : Nat)) = some (iI ((wl k).getD j 0)) := by decide +kernel
theorem wchr_rg : ∀ k, k < 4 → ∀ j, j < (wl k).length → 97 ≤ (wl k).getD j 0 ∧ (wl k).getD j 0 ≤ 122 := by decide +kernel
theorem tkd_le {T : Tp} {a : Nat} : tkd T a ≤ 5 := by
  unfold tkd
  repeat' split
  all_goals omega
theorem c_tokenIs {σ : Sto} {ρ : Rho} {T : Tp} {a k : Nat} (hD : Dk ρ) (hT : TOK T) (h : CXr σ T) (ha : a ≤ T.2) (ht : TC σ T a) (hk : k < 4) : MX7_tokenIs σ ρ 53 5 k = some (b32 (wis T a k)) := by
  have hl := hT.1
  have hp := pl_le ha
  have hn := nx_le ha
  have h5 := wlen5 k hk
  have hkd := @tkd_le T a
  unfold MX7_tokenIs wis
  rw [ht.2.1]
  by_cases c1 : tkd T a = 1
  · rw [if_pos (by rw [c1]; rfl), wlen k hk, ob_some, ht.1, ht.2.2.1, iI_sub, show ((nx T a : Nat) : Int) - (pl T a : Int) = ((nx T a - pl T a : Nat) : Int) by omega]
    by_cases c2 : nx T a - pl T a = (wl k).length
    · rw [if_pos (by rw [c2]), bn_eq]
      have key : ∀ o, o = fs (fun j => decide (Bt T (pl T a + j) ≠ (wl k).getD j 0)) (wl k).length → (if o.isSome then (0 : Int32) else 1) = b32 (decide (tkd T a = 1 ∧ nx T a - pl T a = (wl k).length ∧ ∀ j, j < (wl k).length → Bt T (pl T a + j) = (wl k).getD j 0)) := by
        intro o ho
        cases o with
        | none =>
          have := fs_none.mp ho.symm
          rw [decide_eq_true ⟨c1, c2, fun j hj => Classical.byContradiction fun z => absurd (decide_eq_true z) (by rw [this j hj]; decide)⟩]; rfl
        | some j =>
          obtain ⟨x, y, -⟩ := fs_some ho.symm
          rw [decide_eq_false (fun z => (of_decide_eq_true y) (z.2.2 j x))]; rfl
      rw [← key _ rfl]
      refine scan_g (S := Unit) (call := fun (g : Int32 → Option Int32) _ (j : Nat) => g (iI j)) (N := (wl k).length) (P := fun j => decide (Bt T (pl T a + j) ≠ (wl k).getD j 0)) (I := fun _ => True) (Post := fun o r => r = some (if o.isSome then 0 else 1)) ?_ ?_ ?_ (by unfold FU; omega) (s := ()) trivial
      · intro g _ _
        unfold FX7_tokenIs_28
        rw [wlen k hk, ob_some, if_pos (by rw [iI_leN (by omega) (by omega)]; omega)]; exact zr1 _
      · intro g _ j _ hj hP
        have hb := Bt_rg (T := T) (i := pl T a + j) hT
        have hw := wchr_rg k hk j hj
        unfold FX7_tokenIs_28
        rw [wlen k hk, ob_some, if_neg (by rw [iI_leN (by omega) (by omega)]; omega), ht.2.2.1, iI_add, show ((pl T a : Nat) : Int) + (j : Int) = ((pl T a + j : Nat) : Int) from rfl, c_byteAt hD hT h (by omega), ob_some, wchr k hk j hj, ob_some, if_neg (by rw [iI_eq ⟨by omega, by omega⟩ ⟨by omega, by omega⟩]; exact of_decide_eq_true hP)]; exact zr0 _
      · intro g _ j _ hj hP
        refine ⟨(), trivial, ?_⟩
        have e : Bt T (pl T a + j) = (wl k).getD j 0 := Classical.byContradiction fun z => absurd (decide_eq_true z) (by rw [hP]; decide)
        unfold FX7_tokenIs_28
        rw [wlen k hk, ob_some, if_neg (by rw [iI_leN (by omega) (by omega)]; omega), ht.2.2.1, iI_add, show ((pl T a : Nat) : Int) + (j : Int) = ((pl T a + j : Nat) : Int) from rfl, c_byteAt hD hT h (by omega), ob_some, wchr k hk j hj, ob_some, if_pos (by rw [e]), bn_eq, iI_succ]
    · rw [if_neg (by rw [iI_eqN (by omega) (by omega)]; exact c2), decide_eq_false (fun z => c2 z.2.1)]; exact zr0 _
  · rw [if_neg (by rw [w1, iI_eqN (by omega) (by omega)]; exact c1), decide_eq_false (fun z => c1 z.1)]; exact zr0 _
def wkO (T : Tp) (a : Nat) : Option Nat := if wis T a 0 then some 0 else if wis T a 1 then some 1 else if wis T a 2 then some 2 else if wis T a 3 then some 3 else none
theorem wkO_lt {T : Tp} {a w : Nat} (h : wkO T a = some w) : w < 4 := by
  unfold wkO at h
  repeat' split at h
  all_goals first | (cases h; omega) | cases h
theorem c_lineKind {σ : Sto} {ρ : Rho} {T : Tp} {a : Nat} (hD : Dk ρ) (hT : TOK T) (h : CXr σ T) (ha : a ≤ T.2) (ht : TC σ T a) : MX7_lineKind σ ρ 53 5 = some (iI (oI (wkO T a))) := by
  unfold MX7_lineKind wkO
  rw [c_tokenIs hD hT h ha ht (by omega), ob_some]
  cases wis T a 0 with
  | true => rw [if_neg (show ¬ b32 true = 0 by decide), if_pos rfl]; rfl
  | false =>
    rw [if_pos (show b32 false = 0 from rfl), if_neg (show ¬ (false = true) by decide), c_tokenIs hD hT h ha ht (by omega), ob_some]
    cases wis T a 1 with
    | true => rw [if_neg (show ¬ b32 true = 0 by decide), if_pos rfl]; rfl
    | false =>
      rw [if_pos (show b32 false = 0 from rfl), if_neg (show ¬ (false = true) by decide), c_tokenIs hD hT h ha ht (by omega), ob_some]
      cases wis T a 2 with
      | true => rw [if_neg (show ¬ b32 true = 0 by decide), if_pos rfl]; rfl
      | false =>
        rw [if_pos (show b32 false = 0 from rfl), if_neg (show ¬ (false = true) by decide), c_tokenIs hD hT h ha ht (by omega), ob_some]
        cases wis T a 3 with
        | true => rw [if_neg (show ¬ b32 true = 0 by decide), if_pos rfl]; rfl
        | false => rw [if_pos (show b32 false = 0 from rfl), if_neg (show ¬ (false = true) by decide)]; rfl
/-- numbers of words -/
theorem cde_bd {T : Tp} {p n : Nat} (h : ∀ i, p ≤ i → i < p + n → ltr (Bt T i) = true) : (n ≤ 9 → 0 ≤ cde T p n ∧ cde T p n < 27 ^ n) ∧ (9 < n → cde T p n = -1) := by
  induction n with
  | zero => exact ⟨fun _ => by unfold cde; omega, fun z => absurd z (by omega)⟩
  | succ n ih =>
    have := ih (fun i x y => h i x (by omega))
    have hl : 97 ≤ Bt T (p + n) ∧ Bt T (p + n) ≤ 122 := of_decide_eq_true (h (p + n) (by omega) (by omega))
    constructor
    · intro hn
      have hb := this.1 (by omega)
      unfold cde
      rw [if_neg (by omega), Int.pow_succ]
      generalize (27 : Int) ^ n = q at hb ⊢
      omega
    · intro hn
      unfold cde
      rw [if_pos (by omega)]
theorem cde_rg {T : Tp} {p n : Nat} (h : ∀ i, p ≤ i → i < p + n → ltr (Bt T i) = true) : rg64 (cde T p n) := by
  have := cde_bd h
  by_cases c : n ≤ 9
  · have hb := this.1 c
    have : (27 : Int) ^ n ≤ 27 ^ 9 := by
      have : ∀ n, n ≤ 9 → (27 : Int) ^ n ≤ 27 ^ 9 := by decide +kernel
      exact this n c
    have e : (27 : Int) ^ 9 = 7625597484987 := by decide +kernel
    exact ⟨by omega, by omega⟩
  · rw [this.2 (by omega)]; exact ⟨by omega, by omega⟩
theorem cde_0 {T : Tp} {p n : Nat} (h : ∀ i, p ≤ i → i < p + n → ltr (Bt T i) = true) (e : cde T p n = 0) : n = 0 := by
  cases n with
  | zero => rfl
  | succ n =>
    have hl : 97 ≤ Bt T (p + n) ∧ Bt T (p + n) ≤ 122 := of_decide_eq_true (h (p + n) (by omega) (by omega))
    have := cde_bd (T := T) (p := p) (n := n) (fun i x y => h i x (by omega))
    unfold cde at e
    by_cases c : 9 ≤ n
    · rw [if_pos c] at e; cases e
    · rw [if_neg c] at e
      have := this.1 (by omega)
      omega
theorem cde_s {T : Tp} {p n : Nat} {K d : Int} (h : ∀ i, p ≤ i → i < p + n → ltr (Bt T i) = true) (hK : 0 ≤ K) (hd : 1 ≤ d ∧ d ≤ 26) (e : cde T p n = 27 * K + d) : ∃ m, n = m + 1 ∧ cde T p m = K ∧ Bt T (p + m) = 96 + d := by
  cases n with
  | zero => unfold cde at e; omega
  | succ n =>
    have hl : 97 ≤ Bt T (p + n) ∧ Bt T (p + n) ≤ 122 := of_decide_eq_true (h (p + n) (by omega) (by omega))
    have := cde_bd (T := T) (p := p) (n := n) (fun i x y => h i x (by omega))
    unfold cde at e
    by_cases c : 9 ≤ n
    · rw [if_pos c] at e; omega
    · rw [if_neg c] at e
      exact ⟨n, rfl, by omega, by omega⟩
theorem cde5 {T : Tp} {p n : Nat} {a b c d e : Int} (h : ∀ i, p ≤ i → i < p + n → ltr (Bt T i) = true) (ha : 1 ≤ a ∧ a ≤ 26) (hb : 1 ≤ b ∧ b ≤ 26) (hc : 1 ≤ c ∧ c ≤ 26) (hd : 1 ≤ d ∧ d ≤ 26) (he : 1 ≤ e ∧ e ≤ 26) : cde T p n = 27 * (27 * (27 * (27 * a + b) + c) + d) + e ↔ n = 5 ∧ Bt T (p + 0) = 96 + a ∧ Bt T (p + 1) = 96 + b ∧ Bt T (p + 2) = 96 + c ∧ Bt T (p + 3) = 96 + d ∧ Bt T (p + 4) = 96 + e := by
  constructor
  · intro z
    obtain ⟨m, rfl, z1, z2⟩ := cde_s h (by omega) he z
    obtain ⟨m, rfl, y1, y2⟩ := cde_s (fun i x y => h i x (by omega)) (by omega) hd z1
    obtain ⟨m, rfl, x1, x2⟩ := cde_s (fun i x y => h i x (by omega)) (by omega) hc y1
    obtain ⟨m, rfl, v1, v2⟩ := cde_s (fun i x y => h i x (by omega)) (by omega) hb x1
    obtain ⟨m, rfl, u1, u2⟩ := cde_s (n := m) (K := 0) (fun i x y => h i x (by omega)) (by omega) ha (by rw [v1]; omega)
    have := cde_0 (fun i x y => h i x (by omega)) u1
    subst this
    exact ⟨rfl, u2, v2, x2, y2, z2⟩
  · rintro ⟨rfl, q0, q1, q2, q3, q4⟩
    simp only [cde]
    rw [q0, q1, q2, q3, q4]
    simp
    omega
theorem cde4 {T : Tp} {p n : Nat} {b c d e : Int} (h : ∀ i, p ≤ i → i < p + n → ltr (Bt T i) = true) (hb : 1 ≤ b ∧ b ≤ 26) (hc : 1 ≤ c ∧ c ≤ 26) (hd : 1 ≤ d ∧ d ≤ 26) (he : 1 ≤ e ∧ e ≤ 26) : cde T p n = 27 * (27 * (27 * b + c) + d) + e ↔ n = 4 ∧ Bt T (p + 0) = 96 + b ∧ Bt T (p + 1) = 96 + c ∧ Bt T (p + 2) = 96 + d ∧ Bt T (p + 3) = 96 + e := by
  constructor
  · intro z
    obtain ⟨m, rfl, z1, z2⟩ := cde_s h (by omega) he z
    obtain ⟨m, rfl, y1, y2⟩ := cde_s (fun i x y => h i x (by omega)) (by omega) hd z1
    obtain ⟨m, rfl, x1, x2⟩ := cde_s (fun i x y => h i x (by omega)) (by omega) hc y1
    obtain ⟨m, rfl, u1, u2⟩ := cde_s (n := m) (K := 0) (fun i x y => h i x (by omega)) (by omega) hb (by rw [x1]; omega)
    have := cde_0 (fun i x y => h i x (by omega)) u1
    subst this
    exact ⟨rfl, u2, x2, y2, z2⟩
  · rintro ⟨rfl, q1, q2, q3, q4⟩
    simp only [cde]
    rw [q1, q2, q3, q4]
    simp
    omega
theorem all5 {P : Nat → Prop} : (∀ j, j < 5 → P j) ↔ P 0 ∧ P 1 ∧ P 2 ∧ P 3 ∧ P 4 := by
  constructor
  · intro h; exact ⟨h 0 (by omega), h 1 (by omega), h 2 (by omega), h 3 (by omega), h 4 (by omega)⟩
  · rintro ⟨h0, h1, h2, h3, h4⟩ j hj
    have : j = 0 ∨ j = 1 ∨ j = 2 ∨ j = 3 ∨ j = 4 := by omega
    rcases this with rfl | rfl | rfl | rfl | rfl <;> assumption
theorem all4 {P : Nat → Prop} : (∀ j, j < 4 → P j) ↔ P 0 ∧ P 1 ∧ P 2 ∧ P 3 := by
  constructor
  · intro h; exact ⟨h 0 (by omega), h 1 (by omega), h 2 (by omega), h 3 (by omega)⟩
  · rintro ⟨h0, h1, h2, h3⟩ j hj
    have : j = 0 ∨ j = 1 ∨ j = 2 ∨ j = 3 := by omega
    rcases this with rfl | rfl | rfl | rfl <;> assumption
theorem wcode_iff {T : Tp} {p n k : Nat} (hk : k < 4) (h : ∀ i, p ≤ i → i < p + n → ltr (Bt T i) = true) : cde T p n = wcode k ↔ n = (wl k).length ∧ ∀ j, j < (wl k).length → Bt T (p + j) = (wl k).getD j 0 := by
  have : k = 0 ∨ k = 1 ∨ k = 2 ∨ k = 3 := by omega
  rcases this with rfl | rfl | rfl | rfl
  · have := cde5 (a := 16) (b := 18) (c := 9) (d := 13) (e := 5) h (by omega) (by omega) (by omega) (by omega) (by omega)
    show cde T p n = 8864267 ↔ n = 5 ∧ ∀ j, j < 5 → Bt T (p + j) = (wl 0).getD j 0
    rw [all5]; exact this
  · have := cde5 (a := 16) (b := 15) (c := 9) (d := 14) (e := 20) h (by omega) (by omega) (by omega) (by omega) (by omega)
    show cde T p n = 8805260 ↔ n = 5 ∧ ∀ j, j < 5 → Bt T (p + j) = (wl 1).getD j 0
    rw [all5]; exact this
  · have := cde5 (a := 3) (b := 15) (c := 14) (d := 9) (e := 3) h (by omega) (by omega) (by omega) (by omega) (by omega)
    show cde T p n = 1900020 ↔ n = 5 ∧ ∀ j, j < 5 → Bt T (p + j) = (wl 2).getD j 0
    rw [all5]; exact this
  · have := cde4 (b := 16) (c := 1) (d := 9) (e := 18) h (by omega) (by omega) (by omega) (by omega)
    show cde T p n = 315918 ↔ n = 4 ∧ ∀ j, j < 4 → Bt T (p + j) = (wl 3).getD j 0
    rw [all4]; exact this
theorem en_all {P : Int → Bool} {T : Tp} {a : Nat} (h : a ≤ T.2) : ∀ i, a ≤ i → i < en P T a → P (Bt T i) = true := by
  unfold en
  intro i h1 h2
  cases e : fs (fun i => !P (Bt T (a + i))) (T.2 - a) with
  | none =>
    rw [e] at h2
    have h2 : i < T.2 := h2
    have := fs_none.mp e (i - a) (by omega)
    rw [show a + (i - a) = i by omega] at this
    simpa using this
  | some k =>
    rw [e] at h2
    have h2 : i < a + k := h2
    obtain ⟨-, -, z⟩ := fs_some e
    have := z (i - a) (by omega)
    rw [show a + (i - a) = i by omega] at this
    simpa using this
theorem word_ltr {T : Tp} {a : Nat} (ha : a ≤ T.2) (h : tkd T a = 1) : ¬ bb T a = -1 ∧ ltr (bb T a) = true ∧ ∀ i, pl T a ≤ i → i < pl T a + (nx T a - pl T a) → ltr (Bt T i) = true := by
  unfold tkd at h
  by_cases c0 : bb T a = -1
  · rw [if_pos c0] at h; cases h
  · rw [if_neg c0] at h
    cases c1 : ltr (bb T a) with
    | true =>
      refine ⟨c0, rfl, ?_⟩
      have n0 : nx T a = en ltr T (pl T a) := by unfold nx; rw [if_neg c0, if_pos c1]
      have := en_le (P := ltr) (pl_le ha).2
      intro i h1 h2
      exact en_all (pl_le ha).2 i h1 (by omega)
    | false =>
      rw [c1, if_neg (by decide)] at h
      exfalso
      repeat' split at h
      all_goals cases h
