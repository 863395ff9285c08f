/-! the class's references; loops; its family -/
def DkL : List (Nat × Nat × Nat) := [(0, 0, 1), (0, 1, 7), (0, 2, 33), (0, 3, 52), (0, 4, 53), (0, 5, 59), (0, 6, 68), (0, 7, 83), (0, 8, 85), (0, 9, 87), (0, 10, 88), (0, 11, 89), (0, 12, 90), (0, 13, 91), (1, 0, 2), (1, 1, 5), (2, 2, 3), (2, 3, 4), (5, 0, 6), (7, 0, 8), (8, 0, 9), (9, 2, 10), (9, 3, 11), (8, 1, 12), (12, 2, 13), (12, 3, 14), (8, 2, 15), (15, 2, 16), (15, 3, 17), (8, 3, 18), (18, 2, 19), (18, 3, 20), (8, 4, 21), (21, 2, 22), (21, 3, 23), (8, 5, 24), (24, 2, 25), (24, 3, 26), (8, 6, 27), (27, 2, 28), (27, 3, 29), (8, 7, 30), (30, 2, 31), (30, 3, 32), (33, 0, 34), (34, 0, 35), (34, 1, 38), (35, 2, 36), (35, 3, 37), (38, 0, 39), (33, 1, 40), (40, 0, 41), (40, 1, 44), (41, 2, 42), (41, 3, 43), (44, 0, 45), (33, 2, 46), (46, 0, 47), (46, 1, 50), (47, 2, 48), (47, 3, 49), (50, 0, 51), (53, 0, 54), (53, 3, 57), (53, 4, 58), (54, 2, 55), (54, 3, 56), (59, 0, 60), (59, 1, 62), (59, 2, 64), (59, 3, 66), (59, 4, 67), (60, 0, 61), (62, 0, 63), (64, 0, 65), (83, 0, 84), (85, 0, 86), (71, 0, 72), (73, 0, 74), (75, 0, 76), (77, 0, 78), (79, 0, 80), (81, 0, 82), (68, 0, 69), (68, 1, 70)]
def Dk (ρ : Rho) : Prop := ∀ t ∈ DkL, ρ t.1 t.2.1 = some t.2.2
theorem dk_0_0 {ρ : Rho} (h : Dk ρ) : ρ 0 0 = some 1 := h (0, 0, 1) (by decide +kernel)
theorem dk_0_1 {ρ : Rho} (h : Dk ρ) : ρ 0 1 = some 7 := h (0, 1, 7) (by decide +kernel)
theorem dk_0_2 {ρ : Rho} (h : Dk ρ) : ρ 0 2 = some 33 := h (0, 2, 33) (by decide +kernel)
theorem dk_0_3 {ρ : Rho} (h : Dk ρ) : ρ 0 3 = some 52 := h (0, 3, 52) (by decide +kernel)
theorem dk_0_4 {ρ : Rho} (h : Dk ρ) : ρ 0 4 = some 53 := h (0, 4, 53) (by decide +kernel)
theorem dk_0_5 {ρ : Rho} (h : Dk ρ) : ρ 0 5 = some 59 := h (0, 5, 59) (by decide +kernel)
theorem dk_0_6 {ρ : Rho} (h : Dk ρ) : ρ 0 6 = some 68 := h (0, 6, 68) (by decide +kernel)
theorem dk_0_7 {ρ : Rho} (h : Dk ρ) : ρ 0 7 = some 83 := h (0, 7, 83) (by decide +kernel)
theorem dk_0_8 {ρ : Rho} (h : Dk ρ) : ρ 0 8 = some 85 := h (0, 8, 85) (by decide +kernel)
theorem dk_0_9 {ρ : Rho} (h : Dk ρ) : ρ 0 9 = some 87 := h (0, 9, 87) (by decide +kernel)
theorem dk_0_10 {ρ : Rho} (h : Dk ρ) : ρ 0 10 = some 88 := h (0, 10, 88) (by decide +kernel)
theorem dk_0_11 {ρ : Rho} (h : Dk ρ) : ρ 0 11 = some 89 := h (0, 11, 89) (by decide +kernel)
theorem dk_0_12 {ρ : Rho} (h : Dk ρ) : ρ 0 12 = some 90 := h (0, 12, 90) (by decide +kernel)
theorem dk_0_13 {ρ : Rho} (h : Dk ρ) : ρ 0 13 = some 91 := h (0, 13, 91) (by decide +kernel)
theorem dk_1_0 {ρ : Rho} (h : Dk ρ) : ρ 1 0 = some 2 := h (1, 0, 2) (by decide +kernel)
theorem dk_1_1 {ρ : Rho} (h : Dk ρ) : ρ 1 1 = some 5 := h (1, 1, 5) (by decide +kernel)
theorem dk_2_2 {ρ : Rho} (h : Dk ρ) : ρ 2 2 = some 3 := h (2, 2, 3) (by decide +kernel)
theorem dk_2_3 {ρ : Rho} (h : Dk ρ) : ρ 2 3 = some 4 := h (2, 3, 4) (by decide +kernel)
theorem dk_5_0 {ρ : Rho} (h : Dk ρ) : ρ 5 0 = some 6 := h (5, 0, 6) (by decide +kernel)
theorem dk_7_0 {ρ : Rho} (h : Dk ρ) : ρ 7 0 = some 8 := h (7, 0, 8) (by decide +kernel)
theorem dk_8_0 {ρ : Rho} (h : Dk ρ) : ρ 8 0 = some 9 := h (8, 0, 9) (by decide +kernel)
theorem dk_9_2 {ρ : Rho} (h : Dk ρ) : ρ 9 2 = some 10 := h (9, 2, 10) (by decide +kernel)
theorem dk_9_3 {ρ : Rho} (h : Dk ρ) : ρ 9 3 = some 11 := h (9, 3, 11) (by decide +kernel)
theorem dk_8_1 {ρ : Rho} (h : Dk ρ) : ρ 8 1 = some 12 := h (8, 1, 12) (by decide +kernel)
theorem dk_12_2 {ρ : Rho} (h : Dk ρ) : ρ 12 2 = some 13 := h (12, 2, 13) (by decide +kernel)
theorem dk_12_3 {ρ : Rho} (h : Dk ρ) : ρ 12 3 = some 14 := h (12, 3, 14) (by decide +kernel)
theorem dk_8_2 {ρ : Rho} (h : Dk ρ) : ρ 8 2 = some 15 := h (8, 2, 15) (by decide +kernel)
theorem dk_15_2 {ρ : Rho} (h : Dk ρ) : ρ 15 2 = some 16 := h (15, 2, 16) (by decide +kernel)
theorem dk_15_3 {ρ : Rho} (h : Dk ρ) : ρ 15 3 = some 17 := h (15, 3, 17) (by decide +kernel)
theorem dk_8_3 {ρ : Rho} (h : Dk ρ) : ρ 8 3 = some 18 := h (8, 3, 18) (by decide +kernel)
theorem dk_18_2 {ρ : Rho} (h : Dk ρ) : ρ 18 2 = some 19 := h (18, 2, 19) (by decide +kernel)
theorem dk_18_3 {ρ : Rho} (h : Dk ρ) : ρ 18 3 = some 20 := h (18, 3, 20) (by decide +kernel)
theorem dk_8_4 {ρ : Rho} (h : Dk ρ) : ρ 8 4 = some 21 := h (8, 4, 21) (by decide +kernel)
theorem dk_21_2 {ρ : Rho} (h : Dk ρ) : ρ 21 2 = some 22 := h (21, 2, 22) (by decide +kernel)
theorem dk_21_3 {ρ : Rho} (h : Dk ρ) : ρ 21 3 = some 23 := h (21, 3, 23) (by decide +kernel)
theorem dk_8_5 {ρ : Rho} (h : Dk ρ) : ρ 8 5 = some 24 := h (8, 5, 24) (by decide +kernel)
theorem dk_24_2 {ρ : Rho} (h : Dk ρ) : ρ 24 2 = some 25 := h (24, 2, 25) (by decide +kernel)
theorem dk_24_3 {ρ : Rho} (h : Dk ρ) : ρ 24 3 = some 26 := h (24, 3, 26) (by decide +kernel)
theorem dk_8_6 {ρ : Rho} (h : Dk ρ) : ρ 8 6 = some 27 := h (8, 6, 27) (by decide +kernel)
theorem dk_27_2 {ρ : Rho} (h : Dk ρ) : ρ 27 2 = some 28 := h (27, 2, 28) (by decide +kernel)
theorem dk_27_3 {ρ : Rho} (h : Dk ρ) : ρ 27 3 = some 29 := h (27, 3, 29) (by decide +kernel)
theorem dk_8_7 {ρ : Rho} (h : Dk ρ) : ρ 8 7 = some 30 := h (8, 7, 30) (by decide +kernel)
theorem dk_30_2 {ρ : Rho} (h : Dk ρ) : ρ 30 2 = some 31 := h (30, 2, 31) (by decide +kernel)
theorem dk_30_3 {ρ : Rho} (h : Dk ρ) : ρ 30 3 = some 32 := h (30, 3, 32) (by decide +kernel)
theorem dk_33_0 {ρ : Rho} (h : Dk ρ) : ρ 33 0 = some 34 := h (33, 0, 34) (by decide +kernel)
theorem dk_34_0 {ρ : Rho} (h : Dk ρ) : ρ 34 0 = some 35 := h (34, 0, 35) (by decide +kernel)
theorem dk_34_1 {ρ : Rho} (h : Dk ρ) : ρ 34 1 = some 38 := h (34, 1, 38) (by decide +kernel)
theorem dk_35_2 {ρ : Rho} (h : Dk ρ) : ρ 35 2 = some 36 := h (35, 2, 36) (by decide +kernel)
theorem dk_35_3 {ρ : Rho} (h : Dk ρ) : ρ 35 3 = some 37 := h (35, 3, 37) (by decide +kernel)
theorem dk_38_0 {ρ : Rho} (h : Dk ρ) : ρ 38 0 = some 39 := h (38, 0, 39) (by decide +kernel)
theorem dk_33_1 {ρ : Rho} (h : Dk ρ) : ρ 33 1 = some 40 := h (33, 1, 40) (by decide +kernel)
theorem dk_40_0 {ρ : Rho} (h : Dk ρ) : ρ 40 0 = some 41 := h (40, 0, 41) (by decide +kernel)
theorem dk_40_1 {ρ : Rho} (h : Dk ρ) : ρ 40 1 = some 44 := h (40, 1, 44) (by decide +kernel)
theorem dk_41_2 {ρ : Rho} (h : Dk ρ) : ρ 41 2 = some 42 := h (41, 2, 42) (by decide +kernel)
theorem dk_41_3 {ρ : Rho} (h : Dk ρ) : ρ 41 3 = some 43 := h (41, 3, 43) (by decide +kernel)
theorem dk_44_0 {ρ : Rho} (h : Dk ρ) : ρ 44 0 = some 45 := h (44, 0, 45) (by decide +kernel)
theorem dk_33_2 {ρ : Rho} (h : Dk ρ) : ρ 33 2 = some 46 := h (33, 2, 46) (by decide +kernel)
theorem dk_46_0 {ρ : Rho} (h : Dk ρ) : ρ 46 0 = some 47 := h (46, 0, 47) (by decide +kernel)
theorem dk_46_1 {ρ : Rho} (h : Dk ρ) : ρ 46 1 = some 50 := h (46, 1, 50) (by decide +kernel)
theorem dk_47_2 {ρ : Rho} (h : Dk ρ) : ρ 47 2 = some 48 := h (47, 2, 48) (by decide +kernel)
theorem dk_47_3 {ρ : Rho} (h : Dk ρ) : ρ 47 3 = some 49 := h (47, 3, 49) (by decide +kernel)
theorem dk_50_0 {ρ : Rho} (h : Dk ρ) : ρ 50 0 = some 51 := h (50, 0, 51) (by decide +kernel)
theorem dk_53_0 {ρ : Rho} (h : Dk ρ) : ρ 53 0 = some 54 := h (53, 0, 54) (by decide +kernel)
theorem dk_53_3 {ρ : Rho} (h : Dk ρ) : ρ 53 3 = some 57 := h (53, 3, 57) (by decide +kernel)
theorem dk_53_4 {ρ : Rho} (h : Dk ρ) : ρ 53 4 = some 58 := h (53, 4, 58) (by decide +kernel)
theorem dk_54_2 {ρ : Rho} (h : Dk ρ) : ρ 54 2 = some 55 := h (54, 2, 55) (by decide +kernel)
theorem dk_54_3 {ρ : Rho} (h : Dk ρ) : ρ 54 3 = some 56 := h (54, 3, 56) (by decide +kernel)
theorem dk_59_0 {ρ : Rho} (h : Dk ρ) : ρ 59 0 = some 60 := h (59, 0, 60) (by decide +kernel)
theorem dk_59_1 {ρ : Rho} (h : Dk ρ) : ρ 59 1 = some 62 := h (59, 1, 62) (by decide +kernel)
theorem dk_59_2 {ρ : Rho} (h : Dk ρ) : ρ 59 2 = some 64 := h (59, 2, 64) (by decide +kernel)
theorem dk_59_3 {ρ : Rho} (h : Dk ρ) : ρ 59 3 = some 66 := h (59, 3, 66) (by decide +kernel)
theorem dk_59_4 {ρ : Rho} (h : Dk ρ) : ρ 59 4 = some 67 := h (59, 4, 67) (by decide +kernel)
theorem dk_60_0 {ρ : Rho} (h : Dk ρ) : ρ 60 0 = some 61 := h (60, 0, 61) (by decide +kernel)
theorem dk_62_0 {ρ : Rho} (h : Dk ρ) : ρ 62 0 = some 63 := h (62, 0, 63) (by decide +kernel)
theorem dk_64_0 {ρ : Rho} (h : Dk ρ) : ρ 64 0 = some 65 := h (64, 0, 65) (by decide +kernel)
theorem dk_83_0 {ρ : Rho} (h : Dk ρ) : ρ 83 0 = some 84 := h (83, 0, 84) (by decide +kernel)
theorem dk_85_0 {ρ : Rho} (h : Dk ρ) : ρ 85 0 = some 86 := h (85, 0, 86) (by decide +kernel)
theorem dk_71_0 {ρ : Rho} (h : Dk ρ) : ρ 71 0 = some 72 := h (71, 0, 72) (by decide +kernel)
theorem dk_73_0 {ρ : Rho} (h : Dk ρ) : ρ 73 0 = some 74 := h (73, 0, 74) (by decide +kernel)
theorem dk_75_0 {ρ : Rho} (h : Dk ρ) : ρ 75 0 = some 76 := h (75, 0, 76) (by decide +kernel)
theorem dk_77_0 {ρ : Rho} (h : Dk ρ) : ρ 77 0 = some 78 := h (77, 0, 78) (by decide +kernel)
theorem dk_79_0 {ρ : Rho} (h : Dk ρ) : ρ 79 0 = some 80 := h (79, 0, 80) (by decide +kernel)
theorem dk_81_0 {ρ : Rho} (h : Dk ρ) : ρ 81 0 = some 82 := h (81, 0, 82) (by decide +kernel)
theorem dk_68_0 {ρ : Rho} (h : Dk ρ) : ρ 68 0 = some 69 := h (68, 0, 69) (by decide +kernel)
theorem dk_68_1 {ρ : Rho} (h : Dk ρ) : ρ 68 1 = some 70 := h (68, 1, 70) (by decide +kernel)
theorem dk_ring {ρ : Rho} (h : Dk ρ) {j : Nat} (hj : j < 8) : ρ 8 j = some (9 + 3 * j) := by
  have : ∀ j, j < 8 → (8, j, 9 + 3 * j) ∈ DkL := by decide +kernel
  exact h _ (this j hj)
theorem dk_ringS {ρ : Rho} (h : Dk ρ) {j : Nat} (hj : j < 8) : ρ (9 + 3 * j) 2 = some (9 + 3 * j + 1) ∧ ρ (9 + 3 * j) 3 = some (9 + 3 * j + 2) := by
  have : ∀ j, j < 8 → (9 + 3 * j, 2, 9 + 3 * j + 1) ∈ DkL ∧ (9 + 3 * j, 3, 9 + 3 * j + 2) ∈ DkL := by decide +kernel
  exact ⟨h _ (this j hj).1, h _ (this j hj).2⟩
theorem dk_base {ρ : Rho} (h : Dk ρ) {j : Nat} (hj : j < 6) : ρ (71 + 2 * j) 0 = some (71 + 2 * j + 1) := by
  have : ∀ j, j < 6 → (71 + 2 * j, 0, 71 + 2 * j + 1) ∈ DkL := by decide +kernel
  exact h _ (this j hj)
theorem dk_img {ρ : Rho} (h : Dk ρ) {k : Nat} (hk : k < 3) : ρ 33 k = some (34 + 6 * k) ∧ ρ (34 + 6 * k) 0 = some (34 + 6 * k + 1) ∧ ρ (34 + 6 * k) 1 = some (34 + 6 * k + 4) ∧ ρ (34 + 6 * k + 1) 2 = some (34 + 6 * k + 1 + 1) ∧ ρ (34 + 6 * k + 1) 3 = some (34 + 6 * k + 1 + 2) ∧ ρ (34 + 6 * k + 4) 0 = some (34 + 6 * k + 5) := by
  have : ∀ k, k < 3 → ∀ t ∈ [(33, k, 34 + 6 * k), (34 + 6 * k, 0, 34 + 6 * k + 1), (34 + 6 * k, 1, 34 + 6 * k + 4), (34 + 6 * k + 1, 2, 34 + 6 * k + 1 + 1), (34 + 6 * k + 1, 3, 34 + 6 * k + 1 + 2), (34 + 6 * k + 4, 0, 34 + 6 * k + 5)], t ∈ DkL := by decide +kernel
  have T := this k hk
  exact ⟨h _ (T (33, k, 34 + 6 * k) (by simp)), h _ (T (34 + 6 * k, 0, 34 + 6 * k + 1) (by simp)), h _ (T (34 + 6 * k, 1, 34 + 6 * k + 4) (by simp)), h _ (T (34 + 6 * k + 1, 2, 34 + 6 * k + 1 + 1) (by simp)), h _ (T (34 + 6 * k + 1, 3, 34 + 6 * k + 1 + 2) (by simp)), h _ (T (34 + 6 * k + 4, 0, 34 + 6 * k + 5) (by simp))⟩
def RFr (ρ ρ' : Rho) : Prop := ∀ k i, k ≠ 69 → ρ' k i = ρ k i
theorem RFr.rf {ρ : Rho} : RFr ρ ρ := fun _ _ _ => rfl
theorem RFr.tr {ρ ρ' ρ'' : Rho} (h : RFr ρ ρ') (h2 : RFr ρ' ρ'') : RFr ρ ρ'' := fun k i hk => (h2 k i hk).trans (h k i hk)
theorem Dk.fr {ρ ρ' : Rho} (h : Dk ρ) (hf : RFr ρ ρ') : Dk ρ' := by
  intro t ht
  rw [hf]
  · exact h t ht
  · have : ∀ t ∈ DkL, t.1 ≠ 69 := by decide +kernel
    exact this t ht
theorem Md.fr {ρ ρ' : Rho} (h : Md ρ) (hf : RFr ρ ρ') : Md ρ' := by
  obtain ⟨a, b, c, d, e, f, g⟩ := h
  unfold Md
  rw [hf 92 0 (by decide), hf 92 1 (by decide), hf 92 2 (by decide), hf 92 11 (by decide), hf 92 12 (by decide), hf 92 13 (by decide), hf 92 19 (by decide)]
  exact ⟨a, b, c, d, e, f, g⟩
theorem ln69 : ln 69 = 6 := by decide +kernel
theorem rg69 {ρ : Rho} {n : Nat} (hn : n < 6) : rg ρ 69 (iI n) = ρ 69 n := by
  unfold rg
  have hr : rg32 (n : Int) := ⟨by omega, by omega⟩
  rw [if_neg, iI_cl hr]; rfl
  rw [iI_cl hr, ln69, show (0 : Int32) = iI 0 from rfl, iI_lt hr ⟨by omega, by omega⟩]
  omega
theorem rp69 {ρ : Rho} {n j : Nat} (hn : n < 6) : rp ρ 69 (iI n) j = some (ru ρ 69 n (some j)) := by
  unfold rp
  have hr : rg32 (n : Int) := ⟨by omega, by omega⟩
  rw [if_neg, iI_cl hr]; rfl
  rw [iI_cl hr, ln69, show (0 : Int32) = iI 0 from rfl, iI_lt hr ⟨by omega, by omega⟩]
  omega
/-- a loop that looks for the first -/
theorem scan_g {γ β S : Type} {bt : γ} {F : γ → γ} {call : γ → S → Nat → Option β} {N : Nat} {P : Nat → Bool} {I : S → Prop} {Post : Option Nat → Option β → Prop}
    (hexit : ∀ r s, I s → Post none (call (F r) s N)) (hstop : ∀ r s (k : Nat), I s → k < N → P k = true → Post (some k) (call (F r) s k))
    (hstep : ∀ r s (k : Nat), I s → k < N → P k = false → ∃ s', I s' ∧ call (F r) s k = call r s' (k + 1)) {fu : Nat} (hfu : N < fu) {s : S} (hs : I s) : Post (fs P N) (call (fixN bt F fu) s 0) := by
  refine run_g (S := S) (call := call) (N := N) (I := fun k s => I s ∧ ∀ j, j < k → P j = false) (Post := fun o => Post (fs P N) o) ?_ ?_ hfu (k0 := 0) (by omega) ⟨hs, fun j hj => absurd hj (Nat.not_lt_zero j)⟩
  · intro r s ⟨h1, h2⟩
    rw [fs_none.mpr h2]; exact hexit r s h1
  · intro r s k ⟨h1, h2⟩ hk ih
    cases hp : P k with
    | true => rw [fs_of hk hp h2]; exact hstop r s k h1 hk hp
    | false =>
      obtain ⟨s', i', e⟩ := hstep r s k h1 hk hp
      rw [e]
      refine ih s' ⟨i', fun j hj => ?_⟩
      by_cases q : j = k
      · rw [q]; exact hp
      · exact h2 j (by omega)
/-- a loop that counts -/
theorem cnt_g {γ β S : Type} {bt : γ} {F : γ → γ} {call : γ → S → Nat → Nat → Option β} {N : Nat} {P : Nat → Bool} {I : S → Prop} {Post : Option β → Prop}
    (hexit : ∀ r s, I s → Post (call (F r) s (ct P N) N)) (hstep : ∀ r s (v k : Nat), I s → k < N → v ≤ k → ∃ s', I s' ∧ call (F r) s v k = call r s' (v + if P k then 1 else 0) (k + 1)) {fu : Nat} (hfu : N < fu) {s : S} (hs : I s) : Post (call (fixN bt F fu) s 0 0) := by
  refine run_g (S := S) (call := fun g s k => call g s (ct P k) k) (N := N) (I := fun _ s => I s) (Post := Post) (fun r s h => hexit r s h) ?_ hfu (k0 := 0) (by omega) hs
  intro r s k h hk ih
  obtain ⟨s', i', e⟩ := hstep r s (ct P k) k h hk (ct_le P k)
  rw [e]
  exact ih s' i'
/-- the k-th -/
def kth (P : Nat → Bool) (N k : Nat) : Option Nat := fs (fun i => P i && (ct P i == k)) N
theorem kth_g {γ β S : Type} {bt : γ} {F : γ → γ} {call : γ → S → Nat → Nat → Option β} {N k : Nat} {P : Nat → Bool} {I : S → Prop} {Post : Option Nat → Option β → Prop}
    (hexit : ∀ r s v, I s → v ≤ k → v ≤ N → Post none (call (F r) s v N)) (hstop : ∀ r s (i : Nat), I s → i < N → P i = true → k ≤ i → Post (some i) (call (F r) s k i))
    (hstep : ∀ r s (v i : Nat), I s → i < N → v ≤ k → v ≤ i → (P i = true → v < k) → ∃ s', I s' ∧ call (F r) s v i = call r s' (v + if P i then 1 else 0) (i + 1)) {fu : Nat} (hfu : N < fu) {s : S} (hs : I s) : Post (kth P N k) (call (fixN bt F fu) s 0 0) := by
  unfold kth
  refine run_g (S := S) (call := fun g s i => call g s (ct P i) i) (N := N) (I := fun i s => I s ∧ ct P i ≤ k ∧ ∀ j, j < i → (P j && (ct P j == k)) = false) (Post := fun o => Post (fs (fun i => P i && (ct P i == k)) N) o) ?_ ?_ hfu (k0 := 0) (by omega) ⟨hs, Nat.zero_le _, fun j hj => absurd hj (Nat.not_lt_zero j)⟩
  · intro r s ⟨h1, h2, h3⟩
    rw [fs_none.mpr h3]; exact hexit r s _ h1 h2 (ct_le P N)
  · intro r s i ⟨h1, h2, h3⟩ hi ih
    by_cases c : P i = true ∧ ct P i = k
    · obtain ⟨c1, c2⟩ := c
      rw [fs_of (k := i) hi (by simp [c1, c2]) h3]
      rw [c2]
      exact hstop r s i h1 hi c1 (by rw [← c2]; exact ct_le P i)
    · obtain ⟨s', i', e⟩ := hstep r s (ct P i) i h1 hi h2 (ct_le P i) (fun z => by
        have : ct P i ≠ k := fun w => c ⟨z, w⟩
        omega)
      rw [e]
      refine ih s' ⟨i', ?_, fun j hj => ?_⟩
      · unfold ct
        by_cases z : P i = true
        · rw [if_pos z]
          have : ct P i ≠ k := fun w => c ⟨z, w⟩
          omega
        · rw [if_neg z]; omega
      · by_cases q : j = i
        · subst q
          by_cases z : P j = true
          · have : ct P j ≠ k := fun w => c ⟨z, w⟩
            simp [this]
          · simp [z]
        · exact h3 j (by omega)
/-- the family's base -/
def Fam (σ : Sto) (ρ : Rho) (p f : Nat) (B : Nat → Nat → Int) : Prop := f ≤ 6 ∧ σ 68 2 = iI f ∧ ∃ b : Nat → Nat, (∀ i, i < 6 → ρ 69 i = some (b i) ∧ ∃ j, j < 6 ∧ b i = 71 + 2 * j) ∧ (∀ i j, i < 6 → j < 6 → b i = b j → i = j) ∧ ∀ i, i < 6 → Cv σ (b i) p (B i)
def Pm (ρ : Rho) : Prop := ∃ b : Nat → Nat, (∀ i, i < 6 → ρ 69 i = some (b i) ∧ ∃ j, j < 6 ∧ b i = 71 + 2 * j) ∧ ∀ i j, i < 6 → j < 6 → b i = b j → i = j
theorem Fam.pm {σ : Sto} {ρ : Rho} {p f : Nat} {B : Nat → Nat → Int} (h : Fam σ ρ p f B) : Pm ρ := by
  obtain ⟨-, -, b, h1, h2, -⟩ := h
  exact ⟨b, h1, h2⟩
def FX (k _i : Nat) : Prop := 68 ≤ k ∧ k ≤ 82
theorem Fam_k {σ σ' : Sto} {ρ : Rho} {p f : Nat} {B : Nat → Nat → Int} (h : Fam σ ρ p f B) (e : ∀ k i, 68 ≤ k → k ≤ 82 → k ≠ 70 → σ' k i = σ k i) : Fam σ' ρ p f B := by
  obtain ⟨h0, h1, b, h2, h3, h4⟩ := h
  refine ⟨h0, by rw [e 68 2 (by omega) (by omega) (by omega)]; exact h1, b, h2, h3, fun i hi => ?_⟩
  obtain ⟨j, hj, ej⟩ := (h2 i hi).2
  exact Cv_k (h4 i hi) (fun i => e _ _ (by omega) (by omega) (by omega)) (fun i => e _ _ (by omega) (by omega) (by omega))
def oI (o : Option Nat) : Int := match o with | some i => (i : Int) | none => -1
theorem c_firstOff {σ : Sto} {ρ : Rho} {p f t : Nat} {B : Nat → Nat → Int} {x y z : Int} (hD : Dk ρ) (hp : PR p) (h : Fam σ ρ p f B) (ht : Tr σ t x y z) (hb : bd3 x y z 23) : MX1_firstOff σ ρ 68 t = some (iI (oI (fs (fun i => decide (qv (B i) x y z % p ≠ 0)) f))) := by
  have hp3 := hp.le
  obtain ⟨h0, h1, b, h2, h3, h4⟩ := h
  unfold MX1_firstOff
  rw [bn_eq]
  refine scan_g (S := Unit) (call := fun (g : Int32 → Option Int32) _ (k : Nat) => g (iI k)) (N := f) (P := fun i => decide (qv (B i) x y z % p ≠ 0)) (I := fun _ => True) (Post := fun o r => r = some (iI (oI o))) ?_ ?_ ?_ (by unfold FU; omega) (s := ()) trivial
  · intro g _ _
    unfold FX1_firstOff_2
    rw [h1, if_pos (by rw [iI_leN (by omega) (by omega)]; omega)]; rfl
  · intro g _ k _ hk hP
    obtain ⟨j, hj, ej⟩ := (h2 k (by omega)).2
    have hv := emod_nn (x := qv (B k) x y z) (p := p) (by omega)
    have hP' := of_decide_eq_true hP
    unfold FX1_firstOff_2
    rw [h1, if_neg (by rw [iI_leN (by omega) (by omega)]; omega), if_neg (by rw [w6, iI_leN (by omega) (by omega)]; omega), dk_68_0 hD, ob_some, rg69 (by omega), (h2 k (by omega)).1, ob_some, c_value (by rw [ej]; exact dk_base hD hj) hp (h4 k (by omega)) ht hb, ob_some, if_neg (fun w => hP' ((iI_z hv.1 (by omega)).mp w))]
    rfl
  · intro g _ k _ hk hP
    obtain ⟨j, hj, ej⟩ := (h2 k (by omega)).2
    have hv := emod_nn (x := qv (B k) x y z) (p := p) (by omega)
    have hP' : qv (B k) x y z % p = 0 := by
      have := of_decide_eq_false hP
      exact Classical.byContradiction this
    refine ⟨(), trivial, ?_⟩
    unfold FX1_firstOff_2
    rw [h1, if_neg (by rw [iI_leN (by omega) (by omega)]; omega), if_neg (by rw [w6, iI_leN (by omega) (by omega)]; omega), dk_68_0 hD, ob_some, rg69 (by omega), (h2 k (by omega)).1, ob_some, c_value (by rw [ej]; exact dk_base hD hj) hp (h4 k (by omega)) ht hb, ob_some, if_pos ((iI_z hv.1 (by omega)).mpr hP'), bn_eq, iI_succ]
def Lin (p : Nat) (V : (Nat → Int) → Prop) : Prop := ∀ (x y z : Nat → Int) (a b : Int), V x → V y → (∀ i, i < 6 → (z i - (a * x i + b * y i)) % p = 0) → V z
theorem Vm_Lin {p : Nat} {L : List Nat} : Lin p (Vm p L) := fun _ _ _ _ _ hx hy h => Vm_lin hx hy h
/-- what is left after a pass -/
def ps (p : Nat) (B : Nat → Nat → Int) (a g : Nat) (X Y Z : Int) (j c : Nat) : Int := ((qv (B a) X Y Z % p) * B (tr a g j) c + -(qv (B (tr a g j)) X Y Z % p) * B a c) % p
set_option maxHeartbeats 1000000 in
theorem c_pass {σ : Sto} {ρ : Rho} {p f q : Nat} {B : Nat → Nat → Int} (hD : Dk ρ) (hp : PR p) (h : Fam σ ρ p f B) (ht : Tr σ 70 (cX p q) (cY p q) (cZ p q)) : OK (MX1_pass σ ρ 68) (fun o => ∃ (f' : Nat) (B' : Nat → Nat → Int), Fam o.1 o.2 p f' B' ∧ RFr ρ o.2 ∧ Fr FX σ o.1 ∧ ∀ V, Lin p V → Bs p 6 f B V → Bs p 6 f' B' (fun x => V x ∧ dot 6 (mk p q) x % p = 0)) := by
  have hp3 := hp.le
  have hb := cXYZ_bd (n := q) hp
  have hfo := c_firstOff hD hp h ht hb
  have dm : ∀ x : Nat → Int, dot 6 (mk p q) x % p = qv x (cX p q) (cY p q) (cZ p q) % p := fun x => eqm.mpr dot_mk
  unfold MX1_pass
  rw [dk_68_1 hD, ob_some, hfo, ob_some, bn_eq]
  cases e : fs (fun i => decide (qv (B i) (cX p q) (cY p q) (cZ p q) % p ≠ 0)) f with
  | none =>
    rw [show oI none = -1 from rfl, if_pos (by decide)]
    refine OK.so ⟨f, B, h, RFr.rf, Fr.rf, fun V _ hV => Bs_none hV (fun i hi => ?_)⟩
    rw [dm]
    have := of_decide_eq_false (fs_none.mp e i hi)
    exact Classical.byContradiction this
  | some a =>
    obtain ⟨e1, e2, e3⟩ := fs_some e
    have hva := of_decide_eq_true e2
    obtain ⟨h0, h1, b, h2, h3, h4⟩ := h
    obtain ⟨g, rfl⟩ : ∃ g, f = g + 1 := ⟨f - 1, by omega⟩
    have hag : a ≤ g := by omega
    have eg : iI ((g + 1 : Nat) : Int) - 1 = iI (g : Nat) := by
      rw [show (1 : Int32) = iI 1 from rfl, iI_sub]; congr 1; push_cast; omega
    rw [show oI (some a) = (a : Int) from rfl, if_neg (by rw [w0, iI_lt (rgN (by omega)) (rgN (by omega))]; omega), h1, if_neg (by rw [iI_leN (by omega) (by omega)]; omega), if_pos (by rw [w6, iI_leN (by omega) (by omega)]; omega), bn_eq, eg, dk_68_0 hD, ob_some, rg69 (by omega), (h2 a (by omega)).1, ob_some, ob_some, ob_some, su_s, rg69 (by omega), (h2 g (by omega)).1, ob_some, rp69 (by omega), ob_some, ru_n (Or.inl (by decide)), dk_68_0 hD, ob_some, rp69 (by omega), ob_some]
    generalize hρ2 : ru (ru ρ 69 a (some (b g))) 69 g (some (b a)) = ρ2
    have hF : RFr ρ ρ2 := fun k i hk => by rw [← hρ2, ru_n (Or.inl hk), ru_n (Or.inl hk)]
    have hD2 := hD.fr hF
    have hb2 : ∀ i, i < 6 → ρ2 69 i = some (b (tr a g i)) := by
      intro i hi
      rw [← hρ2]
      unfold tr
      by_cases c1 : i = g
      · subst c1
        rw [ru_s]
        by_cases c2 : i = a
        · rw [if_pos c2, c2]
        · rw [if_neg c2, if_pos rfl]
      · rw [ru_n (Or.inr c1)]
        by_cases c2 : i = a
        · subst c2; rw [ru_s, if_pos rfl]
        · rw [ru_n (Or.inr c2), if_neg c2, if_neg c1]; exact (h2 i hi).1
    have tl : ∀ i, i < 6 → tr a g i < 6 := fun i hi => by unfold tr; split; omega; split <;> omega
    have tj : ∀ i, i < 6 → ∃ j, j < 6 ∧ b (tr a g i) = 71 + 2 * j := fun i hi => (h2 _ (tl i hi)).2
    have ti : ∀ i j, i < 6 → j < 6 → b (tr a g i) = b (tr a g j) → i = j := fun i j hi hj hh => by
      have := congrArg (tr a g) (h3 _ _ (tl i hi) (tl j hj) hh)
      rwa [tr_tr, tr_tr] at this
    have ba : b (tr a g g) = b a := by
      unfold tr
      by_cases c2 : g = a
      · rw [if_pos c2, c2]
      · rw [if_neg c2, if_pos rfl]
    obtain ⟨ja, hja, eja⟩ := (h2 a (by omega)).2
    generalize hσ4 : su σ 68 2 (iI (g : Nat)) = σ4
    have s4 : ∀ k i, k ≠ 68 → σ4 k i = σ k i := fun k i hk => by rw [← hσ4]; exact su_k hk
    have t4 : Tr σ4 70 (cX p q) (cY p q) (cZ p q) := Tr_k ht (fun i => s4 _ _ (by decide))
    have cv4 : ∀ i, i < 6 → Cv σ4 (b i) p (B i) := fun i hi => by
      obtain ⟨j, hj, ej⟩ := (h2 i hi).2
      exact Cv_k (h4 i hi) (fun i => s4 _ _ (by omega)) (fun i => s4 _ _ (by omega))
    have hva1 := emod_nn (x := qv (B a) (cX p q) (cY p q) (cZ p q)) (p := p) (by omega)
    rw [dk_68_1 hD2, ob_some, c_value (by rw [eja]; exact dk_base hD2 hja) hp (cv4 a (by omega)) t4 hb, ob_some, bn_eq, bn_eq]
    generalize hva0 : qv (B a) (cX p q) (cY p q) (cZ p q) % (p : Int) = va at *
    refine run_g (S := Sto) (call := fun (g' : Sto → Rho → Nat → Int32 → Int32 → Option (Sto × Rho)) s (k : Nat) => g' s ρ2 (b a) (iI va) (iI k)) (N := g) (I := fun k s => s 68 2 = iI (g : Nat) ∧ Tr s 70 (cX p q) (cY p q) (cZ p q) ∧ Fr FX σ s ∧ ∀ i, i < 6 → Cv s (b (tr a g i)) p (if i < k then ps p B a g (cX p q) (cY p q) (cZ p q) i else B (tr a g i))) (Post := fun o => OK o _) ?_ ?_ (by unfold FU; omega) (k0 := 0) (by omega) (s := σ4) ⟨by rw [← hσ4]; exact su_s, t4, ?_, fun i hi => by rw [if_neg (by omega)]; exact cv4 _ (tl i hi)⟩
    · intro g' s ⟨i1, i2, i3, i4⟩
      show OK (FX1_pass_85 68 g' s ρ2 (b a) (iI va) (iI g)) _
      unfold FX1_pass_85
      rw [i1, if_pos (by rw [iI_leN (by omega) (by omega)]; omega)]
      refine OK.so ⟨g, fun i => if i < g then ps p B a g (cX p q) (cY p q) (cZ p q) i else B (tr a g i), ⟨by omega, i1, fun i => b (tr a g i), fun i hi => ⟨hb2 i hi, tj i hi⟩, ti, i4⟩, hF, i3, fun V hL hV => ?_⟩
      have hT := Bs_tr hV hag
      have ta : (fun j => B (tr a g j)) g = B a := by
        dsimp only
        unfold tr
        by_cases c2 : g = a
        · rw [if_pos c2, c2]
        · rw [if_neg c2, if_pos rfl]
      have hcong : ∀ i, i < g → ∀ c, c < 6 → ((if i < g then ps p B a g (cX p q) (cY p q) (cZ p q) i else B (tr a g i)) c - (dot 6 (mk p q) ((fun j => B (tr a g j)) g) * (fun j => B (tr a g j)) i c + -(dot 6 (mk p q) ((fun j => B (tr a g j)) i)) * (fun j => B (tr a g j)) g c)) % (p : Int) = 0 := by
        intro i hi c hc
        rw [if_pos hi, ta]
        dsimp only
        unfold ps
        have k1 := em_sub (p := (p : Int)) (x := (qv (B a) (cX p q) (cY p q) (cZ p q) % p) * B (tr a g i) c + -(qv (B (tr a g i)) (cX p q) (cY p q) (cZ p q) % p) * B a c)
        have k2 := dot_mk (p := p) (q := q) (x := B a)
        have k3 := em_sub (p := (p : Int)) (x := qv (B a) (cX p q) (cY p q) (cZ p q))
        have k4 := dot_mk (p := p) (q := q) (x := B (tr a g i))
        have k5 := em_sub (p := (p : Int)) (x := qv (B (tr a g i)) (cX p q) (cY p q) (cZ p q))
        generalize qv (B a) (cX p q) (cY p q) (cZ p q) = u1 at *
        generalize qv (B (tr a g i)) (cX p q) (cY p q) (cZ p q) = u2 at *
        generalize u1 % (p : Int) = u3 at *
        generalize u2 % (p : Int) = u4 at *
        generalize dot 6 (mk p q) (B a) = u5 at *
        generalize dot 6 (mk p q) (B (tr a g i)) = u6 at *
        generalize B (tr a g i) c = v1 at *
        generalize B a c = v2 at *
        generalize (u3 * v1 + -u4 * v2) % (p : Int) = u7 at *
        exact z_of (z_sub (z_add k1 (z_mulL v1 (z_sub k3 k2))) (z_mulL v2 (z_sub k5 k4))) (by grind)
      refine Bs_last hp hT ?_ hcong (fun i hi => ?_)
      · rw [show B (tr a g g) = B a from ta, dm, hva0]
        exact hva
      · exact hL _ _ _ _ _ (hT.1 i (by omega)) (hT.1 g (by omega)) (hcong i hi)
    · intro g' s k ⟨i1, i2, i3, i4⟩ hk ih
      show OK (FX1_pass_85 68 g' s ρ2 (b a) (iI va) (iI k)) _
      obtain ⟨jk, hjk, ejk⟩ := tj k (by omega)
      have ck := i4 k (by omega)
      rw [if_neg (Nat.lt_irrefl k)] at ck
      have cg := i4 g (by omega)
      rw [if_neg (by omega), ba] at cg
      have eBg : B (tr a g g) = B a := by
        unfold tr
        by_cases c2 : g = a
        · rw [if_pos c2, c2]
        · rw [if_neg c2, if_pos rfl]
      rw [eBg] at cg
      have nek : b (tr a g k) ≠ b a := fun z => by
        have := ti k g (by omega) (by omega) (z.trans ba.symm)
        omega
      have hvk := emod_nn (x := qv (B (tr a g k)) (cX p q) (cY p q) (cZ p q)) (p := p) (by omega)
      have ρk : ρ2 (b (tr a g k)) 0 = some (b (tr a g k) + 1) := by rw [ejk]; exact dk_base hD2 hjk
      have ρa : ρ2 (b a) 0 = some (b a + 1) := by rw [eja]; exact dk_base hD2 hja
      unfold FX1_pass_85
      have hk6 : k < 6 := by omega
      rw [i1, if_neg (by rw [iI_leN (by omega) (by omega)]; omega)]
      simp only [dk_68_0 hD2, dk_68_1 hD2, ↓ob_some, rg69 hk6, hb2 k hk6, ρk, ρa, c_value ρk hp ck i2 hb, iI_neg, c_blend ck.2.1 cg.2.1, bn_eq, iI_succ]
      rw [F6_k (by omega), ck.1, c_reduce hp F6_FI (fun c hc => ?_), ob_some]
      · refine ih _ ⟨?_, ?_, ?_, ?_⟩
        · rw [F6_k (by omega), F6_k (by omega)]; exact i1
        · exact Tr_k i2 (fun i => by rw [F6_k (by omega), F6_k (by omega)])
        · exact i3.tr (fun k' i hn => by
            have : k' ≠ b (tr a g k) + 1 := fun z => hn (by unfold FX; omega)
            rw [F6_k this, F6_k this])
        · intro i hi
          obtain ⟨ji, hji, eji⟩ := tj i hi
          by_cases c : i = k
          · subst c
            rw [if_pos (by omega)]
            refine ⟨by rw [F6_k (by omega), F6_k (by omega)]; exact ck.1, ?_, fun c hc => emod_nn (by omega)⟩
            intro c hc
            rw [F6_FI c hc]
            unfold ps
            rw [hva0]
          · have ne : b (tr a g i) ≠ b (tr a g k) := fun z => c (ti i k hi (by omega) z)
            have e2 : (if i < k + 1 then ps p B a g (cX p q) (cY p q) (cZ p q) i else B (tr a g i)) = (if i < k then ps p B a g (cX p q) (cY p q) (cZ p q) i else B (tr a g i)) := by
              by_cases c3 : i < k
              · rw [if_pos c3, if_pos (by omega)]
              · rw [if_neg c3, if_neg (by omega)]
            rw [e2]
            exact Cv_k (i4 i hi) (fun j => by rw [F6_k (by omega), F6_k (by omega)]) (fun j => by rw [F6_k (by omega), F6_k (by omega)])
      · have a1 := b23 hp hva1; have a2 := b23 hp (ck.2.2 c hc); have a3 := b23 hp hvk; have a4 := b23 hp (cg.2.2 c hc)
        exact bd_rg (bd_add (bd_mul a1 a2) (bd_mul (bd_neg a3) a4)) (by decide)
    · intro k i hn
      exact s4 k i (fun z => hn (by unfold FX; omega))
