/-! THE LAW: the start, the whole -/
def ini (n : Nat) : Option (Sto × Rho) :=
  nw 10 n σ0 ρ0 fun σ1 ρ2 =>
  Option.bind (MX11_init (n + 1) σ1 ρ2 n) fun c4 =>
  nw 11 (n + 92) c4.1 c4.2 fun σ5 ρ6 =>
  Option.bind (MX12_init (n + 93) σ5 ρ6 (n + 92)) fun c8 => some c8
theorem law_inn {n sl : Nat} {sc : Nat → Int32} {s : Sto} {r : Rho} (h : ini n = some (s, r)) : ML_law n σ0 ρ0 sl sc = fixN (fun _ _ _ _ _ => none) (FL_law_18 sl sc) FU s r n (n + 92) 0 := by
  unfold ini at h
  unfold ML_law
  unfold nw at h ⊢
  by_cases c : kd n = 10
  · rw [if_pos c] at h ⊢
    dsimp only at h ⊢
    cases e : MX11_init (n + 1) (zs σ0 n) (zn ρ0 n) n with
    | none => rw [e, ob_none] at h; cases h
    | some c4 =>
      rw [e, ob_some] at h
      rw [ob_some]
      by_cases d : kd (n + 92) = 11
      · rw [if_pos d] at h ⊢
        cases e2 : MX12_init (n + 93) (zs c4.1 (n + 92)) (zn c4.2 (n + 92)) (n + 92) with
        | none => rw [e2, ob_none] at h; cases h
        | some c8 =>
          rw [e2, ob_some] at h
          rw [ob_some, bn_eq]
          have := Option.some.inj h
          rw [this]
      · rw [if_neg d] at h; cases h
  · rw [if_neg c] at h; cases h
theorem law_ini {sl : Nat} {sc : Nat → Int32} {s : Sto} {r : Rho} (h : ini 0 = some (s, r)) : ML_law 0 σ0 ρ0 sl sc = fixN (fun _ _ _ _ _ => none) (FL_law_18 sl sc) FU s r 0 92 0 := law_inn h
def A0 : AS := ((D0, fun _ => 0, 0, 0, -1, 0, 0), [], fun _ => none)
theorem AOK_A0 : AOK A0 := ⟨⟨SOK_D0, Nat.zero_le _, fun i _ => ⟨Int.le_refl _, by show (0 : Int) ≤ 255; omega⟩⟩, fun S hS => absurd hS List.not_mem_nil, Nat.zero_le _, fun k M _ h => by cases h⟩
/-- what is to be looked at -/
def look : List (Nat × Nat × Int32) :=
  [(2, 0, 7), (2, 1, 0), (5, 1, 0), (1, 2, 0), (1, 3, -1), (1, 4, 0), (1, 5, 0), (7, 1, 0), (7, 2, 0), (52, 0, 0), (52, 1, 0), (52, 2, 0), (93, 36, 7), (93, 37, 0), (92, 3, 0), (92, 4, 0), (92, 5, -1), (93, 46, 0), (93, 47, 0), (92, 6, 0), (95, 0, 0), (95, 1, 0), (95, 2, 0)]
def chk (o : Option (Sto × Rho)) : Bool := match o with
  | none => false
  | some c => (look.all fun t => c.1 t.1 t.2.1 == t.2.2) && ((List.range 500).all fun i => c.1 6 i == 0) && ((List.range 500).all fun i => c.1 94 i == 0) && ((List.range 36).all fun i => c.1 4 i == (if i % 6 = 0 then 1 else 0)) && ((List.range 36).all fun i => c.1 93 i == (if i % 6 = 0 then 1 else 0)) && (DkL.all fun t => c.2 t.1 t.2.1 == some t.2.2) && ((List.range 6).all fun i => c.2 69 i == some (71 + 2 * i)) && (([(92, 0, 93), (92, 1, 94), (92, 2, 95), (92, 11, 96), (92, 12, 97), (92, 13, 98), (92, 19, 99)] : List (Nat × Nat × Nat)).all fun t => c.2 t.1 t.2.1 == some t.2.2)
theorem chk_ini : chk (ini 0) = true := by decide +kernel
theorem ini_ok : ∃ s r, ini 0 = some (s, r) ∧ Rel s r A0 := by
  have h := chk_ini
  cases e : ini 0 with
  | none => rw [e] at h; cases h
  | some c =>
    obtain ⟨s, r⟩ := c
    rw [e] at h
    unfold chk at h
    simp only [Bool.and_eq_true] at h
    obtain ⟨⟨⟨⟨⟨⟨⟨h1, h2⟩, h3⟩, h4⟩, h5⟩, h6⟩, h7⟩, h8⟩ := h
    have L : ∀ t ∈ look, s t.1 t.2.1 = t.2.2 := fun t ht => eq_of_beq (List.all_eq_true.mp h1 t ht)
    have l : ∀ k i v, (k, i, v) ∈ look → s k i = v := fun k i v ht => L (k, i, v) ht
    have b6 : ∀ i, i < 500 → s 6 i = 0 := fun i hi => eq_of_beq (List.all_eq_true.mp h2 i (List.mem_range.mpr hi))
    have b94 : ∀ i, i < 500 → s 94 i = 0 := fun i hi => eq_of_beq (List.all_eq_true.mp h3 i (List.mem_range.mpr hi))
    have n4 : ∀ i, i < 36 → s 4 i = (if i % 6 = 0 then 1 else 0) := fun i hi => eq_of_beq (List.all_eq_true.mp h4 i (List.mem_range.mpr hi))
    have n93 : ∀ i, i < 36 → s 93 i = (if i % 6 = 0 then 1 else 0) := fun i hi => eq_of_beq (List.all_eq_true.mp h5 i (List.mem_range.mpr hi))
    have hD : Dk r := fun t ht => eq_of_beq (List.all_eq_true.mp h6 t ht)
    have r69 : ∀ i, i < 6 → r 69 i = some (71 + 2 * i) := fun i hi => eq_of_beq (List.all_eq_true.mp h7 i (List.mem_range.mpr hi))
    have M8 := fun t ht => eq_of_beq (List.all_eq_true.mp h8 t ht)
    have hM : Md r := ⟨M8 (92, 0, 93) (by simp), M8 (92, 1, 94) (by simp), M8 (92, 2, 95) (by simp), M8 (92, 11, 96) (by simp), M8 (92, 12, 97) (by simp), M8 (92, 13, 98) (by simp), M8 (92, 19, 99) (by simp)⟩
    have hP : Pm r := ⟨fun i => 71 + 2 * i, fun i hi => ⟨r69 i hi, i, hi, rfl⟩, fun i j _ _ e => by dsimp only at e; omega⟩
    have e1 : ∀ i : Nat, (if i % 6 = 0 then (1 : Int32) else 0) = iI (D0.2.2 i) := fun i => by
      show _ = iI (if i % 6 = 0 then 1 else 0)
      by_cases c : i % 6 = 0
      · rw [if_pos c, if_pos c]; rfl
      · rw [if_neg c, if_neg c]; rfl
    have hC : CS s 2 D0 := ⟨l 2 0 7 (by decide), l 2 1 0 (by decide), fun i hi => (n4 i hi).trans (e1 i), fun k hk => absurd hk (Nat.not_lt_zero _)⟩
    have hS : MS s 0 D0 := ⟨l 93 36 7 (by decide), l 93 37 0 (by decide), fun i hi => by rw [Nat.zero_add]; exact (n93 i hi).trans (e1 i), fun k hk => absurd hk (Nat.not_lt_zero _)⟩
    have i0 : ∀ k, k < 3 → s 52 k = 0 ∧ s 95 k = 0 := fun k hk => by
      have : k = 0 ∨ k = 1 ∨ k = 2 := by omega
      rcases this with rfl | rfl | rfl
      · exact ⟨l 52 0 0 (by decide), l 95 0 0 (by decide)⟩
      · exact ⟨l 52 1 0 (by decide), l 95 1 0 (by decide)⟩
      · exact ⟨l 52 2 0 (by decide), l 95 2 0 (by decide)⟩
    have hK : KR s A0 := ⟨⟨hC, l 5 1 0 (by decide), fun i hi => by rw [show s (1 + 5) i = 0 from b6 i hi]; rfl, l 1 2 0 (by decide), l 1 3 (-1) (by decide), l 1 4 0 (by decide), l 1 5 0 (by decide)⟩, ⟨0, by omega, l 7 1 0 (by decide), l 7 2 0 (by decide), fun i hi => absurd hi (Nat.not_lt_zero _)⟩, fun k hk => Or.inl ⟨rfl, (i0 k hk).1⟩⟩
    have hR : MR s A0 := ⟨⟨hS, l 92 3 0 (by decide), fun i hi => by rw [b94 i hi]; rfl, l 92 4 0 (by decide), l 92 5 (-1) (by decide), l 93 46 0 (by decide), l 93 47 0 (by decide)⟩, ⟨l 92 6 0 (by decide), fun i hi => absurd hi (Nat.not_lt_zero _)⟩, fun k hk => Or.inl ⟨rfl, (i0 k hk).2⟩⟩
    exact ⟨s, r, rfl, hD, hM, hP, AOK_A0, hK, hR⟩
theorem law_pure {sl : Nat} {sc : Nat → Int32} (h : sl ≤ 3072) : ML_law 0 σ0 ρ0 sl sc = some 1 := by
  obtain ⟨s, r, e, hR⟩ := ini_ok
  rw [law_ini e]
  have nsl : Int32.ofNat sl - 6 = iI ((sl : Int) - 6) := by
    rw [show Int32.ofNat sl = iI (sl : Int) from (iI_nat sl).symm, show (6 : Int32) = iI 6 from rfl, iI_sub]
  have sgE : ∀ k : Nat, k < sl → sg sl sc (iI (k : Int)) = some (sc k) := fun k hk => by
    unfold sg
    have hr : rg32 (k : Int) := ⟨by omega, by omega⟩
    rw [if_neg, iI_cl hr]; rfl
    rw [iI_cl hr, show (0 : Int32) = iI 0 from rfl, iI_lt hr ⟨by omega, by omega⟩]
    omega
  refine run_g (S := Sto × Rho) (call := fun (g : Sto → Rho → Nat → Nat → Int32 → Option Int32) x (k : Nat) => g x.1 x.2 0 92 (iI ((6 * k : Nat) : Int))) (N := sl / 6) (I := fun _ x => ∃ A, Rel x.1 x.2 A) (Post := fun o => o = some 1) ?_ ?_ (by unfold FU; omega) (k0 := 0) (by omega) (s := (s, r)) ⟨A0, hR⟩
  · intro g ⟨σ, ρ⟩ _
    show FL_law_18 sl sc g σ ρ 0 92 (iI ((6 * (sl / 6) : Nat) : Int)) = some 1
    unfold FL_law_18
    rw [nsl, if_pos (by rw [iI_lt ⟨by omega, by omega⟩ ⟨by omega, by omega⟩]; omega)]
  · intro g ⟨σ, ρ⟩ k ⟨A, hA⟩ hk ih
    show FL_law_18 sl sc g σ ρ 0 92 (iI ((6 * k : Nat) : Int)) = some 1
    have H : ∀ j : Nat, j < 6 → sg sl sc (iI ((6 * k : Nat) : Int) + iI ((j : Nat) : Int)) = some (iI ((sc (6 * k + j)).toInt)) := fun j hj => by
      rw [iI_add, show (((6 * k : Nat) : Int) + ((j : Nat) : Int)) = ((6 * k + j : Nat) : Int) from rfl, sgE _ (by omega)]
      exact congrArg some (Int32.ofInt_toInt _).symm
    refine law_step (A := A) (z := fun j => (sc (6 * k + j)).toInt) (x1 := sc (6 * k)) (fun j => ⟨Int32.le_toInt _, Int32.toInt_lt _⟩) (H 1 (by omega)) (H 2 (by omega)) (H 3 (by omega)) (H 4 (by omega)) (H 5 (by omega)) (fun σ' ρ' A' hR' => ?_) hA ?_ (sgE _ (by omega))
    · have := ih (σ', ρ') ⟨A', hR'⟩
      rw [show iI ((6 * k : Nat) : Int) + 6 = iI ((6 * (k + 1) : Nat) : Int) by rw [show (6 : Int32) = iI 6 from rfl, iI_add]; congr 1]
      exact this
    · rw [nsl, iI_lt ⟨by omega, by omega⟩ ⟨by omega, by omega⟩]; omega
