/-! the class's family: gathered, read -/
theorem c_markAt {σ : Sto} {ρ : Rho} {s : Nat} {S : Sheet} {k : Int} (hr : Sr ρ s) (h : CS σ s S) (hl : S.2.1.length ≤ 8) (hk : rg32 k) : MX8_markAt σ ρ s (iI k) = some (iI (if 0 ≤ k ∧ k < S.2.1.length then (S.2.1.getD k.toNat 0 : Nat) else -1)) := by
  obtain ⟨r2, -, l8, -⟩ := hr
  obtain ⟨-, h1, -, h3⟩ := h
  unfold MX8_markAt
  by_cases c0 : k < 0
  · rw [if_pos (by rw [show (0 : Int32) = iI 0 from rfl, iI_lt hk ⟨by omega, by omega⟩]; exact c0), if_neg (show ¬ (0 ≤ k ∧ k < S.2.1.length) by omega)]; rfl
  · rw [if_neg (by rw [show (0 : Int32) = iI 0 from rfl, iI_lt hk ⟨by omega, by omega⟩]; exact c0), h1]
    by_cases c1 : (S.2.1.length : Int) ≤ k
    · rw [if_pos (by rw [iI_le (rgN (by omega)) hk]; exact c1), if_neg (show ¬ (0 ≤ k ∧ k < S.2.1.length) by omega)]; rfl
    · rw [if_neg (by rw [iI_le (rgN (by omega)) hk]; exact c1), if_neg (by rw [show (8 : Int32) = iI 8 from rfl, iI_le ⟨by omega, by omega⟩ hk]; omega), r2, ob_some, ag_ok (by omega) (by rw [l8]; omega) (by rw [l8]; omega), ob_some, h3 k.toNat (by omega), if_pos (show 0 ≤ k ∧ k < S.2.1.length by omega)]
def e6v (i j : Nat) : Int := if j = i then 1 else 0
theorem Sr_2 {ρ : Rho} (h : Dk ρ) : Sr ρ 2 := ⟨dk_2_2 h, dk_2_3 h, by decide +kernel, by decide +kernel⟩
theorem take_succ' {L : List Nat} {k : Nat} (hk : k < L.length) {p : Nat} {x : Nat → Int} : Vm p (L.take (k + 1)) x ↔ Vm p (L.take k) x ∧ dot 6 (mk p (L.getD k 0)) x % p = 0 := by
  have e : L.take (k + 1) = L.take k ++ [L.getD k 0] := by
    rw [List.take_add_one, List.getElem?_eq_getElem hk, List.getD_eq_getElem?_getD, List.getElem?_eq_getElem hk]
    rfl
  unfold Vm
  rw [e]
  constructor
  · intro h
    exact ⟨fun q hq => h q (List.mem_append_left _ hq), h _ (List.mem_append_right _ List.mem_cons_self)⟩
  · rintro ⟨h1, h2⟩ q hq
    rcases List.mem_append.mp hq with h | h
    · exact h1 q h
    · rw [List.mem_singleton.mp h]; exact h2
set_option maxHeartbeats 1000000 in
theorem c_gather {σ : Sto} {ρ : Rho} {S : Sheet} (hD : Dk ρ) (hP : Pm ρ) (hS : SOK S) (h : CS σ 2 S) : OK (MX1_gather σ ρ 68 2) (fun o => ∃ (f : Nat) (B : Nat → Nat → Int), Fam o.1 o.2 S.1 f B ∧ Bs S.1 6 f B (Vm S.1 S.2.1) ∧ RFr ρ o.2 ∧ Fr FX σ o.1) := by
  obtain ⟨hp, hl, -, hq, -, -⟩ := id hS
  have hp3 := hp.le
  have hN := NP_le hp
  obtain ⟨b, b1, b2⟩ := hP
  have sx : ∀ {σ' : Sto}, Fr FX σ σ' → CS σ' 2 S := fun {σ'} hf => CS_k h (fun i => hf _ _ (by unfold FX; omega)) (fun i => hf _ _ (by unfold FX; omega)) (fun i => hf _ _ (by unfold FX; omega))
  unfold MX1_gather
  rw [bn_eq, bn_eq]
  refine run_g (S := Sto) (call := fun (g : Sto → Rho → Int32 → Option (Sto × Rho)) s (k : Nat) => g s ρ (iI k)) (N := 6) (I := fun k s => s 68 2 = iI (6 : Nat) ∧ Fr FX σ s ∧ ∀ i, i < k → Cv s (b i) S.1 (e6v i)) (Post := fun o => OK o _) ?_ ?_ (by unfold FU; omega) (k0 := 0) (by omega) (s := su σ 68 2 (6 : Int32)) ⟨su_s, Fr.su (S := FX) (by unfold FX; omega), fun i hi => by omega⟩
  · intro g s ⟨i1, i2, i3⟩
    show OK (FX1_gather_8 68 2 (BX1_gather_65 68 2) g s ρ (iI (6 : Nat))) _
    unfold FX1_gather_8
    rw [if_pos (by decide)]
    unfold BX1_gather_65
    rw [bn_eq]
    have V0 : Bs S.1 6 6 e6v (Vm S.1 (S.2.1.take 0)) := by
      have e : e6v = fun j i => if i = j then (1 : Int) else 0 := by funext i j; rfl
      rw [e]
      exact Bs_iff Bs_std (fun x => ⟨fun _ q hq => by simp at hq, fun _ => trivial⟩)
    refine run_g (S := Sto × Rho) (call := fun (g : Sto → Rho → Int32 → Option (Sto × Rho)) s (k : Nat) => g s.1 s.2 (iI k)) (N := S.2.1.length) (I := fun k s => ∃ (f : Nat) (B : Nat → Nat → Int), Fam s.1 s.2 S.1 f B ∧ Bs S.1 6 f B (Vm S.1 (S.2.1.take k)) ∧ RFr ρ s.2 ∧ Fr FX σ s.1) (Post := fun o => OK o _) ?_ ?_ (by unfold FU; omega) (k0 := 0) (by omega) (s := (s, ρ)) ⟨6, e6v, ⟨Nat.le_refl _, i1, b, b1, b2, i3⟩, V0, RFr.rf, i2⟩
    · intro g2 ⟨s2, ρ2⟩ ⟨f, B, j1, j2, j3, j4⟩
      show OK (FX1_gather_67 68 2 g2 s2 ρ2 (iI S.2.1.length)) _
      unfold FX1_gather_67
      dsimp only at j1 j3 j4
      have c2 := sx j4
      rw [c2.2.1, if_pos (by rw [iI_leN (by omega) (by omega)]; omega)]
      rw [List.take_length] at j2
      exact OK.so ⟨f, B, j1, j2, j3, j4⟩
    · intro g2 ⟨s2, ρ2⟩ k ⟨f, B, j1, j2, j3, j4⟩ hk ih
      show OK (FX1_gather_67 68 2 g2 s2 ρ2 (iI k)) _
      dsimp only at j1 j2 j3 j4
      have c2 := sx j4
      have hD2 := hD.fr j3
      have hqk : S.2.1.getD k 0 < NP S.1 := by
        rw [List.getD_eq_getElem?_getD, List.getElem?_eq_getElem hk]
        exact hq _ (List.getElem_mem hk)
      have hm := c_markAt (k := (k : Int)) (Sr_2 hD2) c2 hl (rgN (by omega))
      rw [if_pos (show 0 ≤ (k : Int) ∧ (k : Int) < S.2.1.length by omega), show ((k : Int)).toNat = k from rfl] at hm
      have hpl := c_place (σ := s2) (t := 70) (n := ((S.2.1.getD k 0 : Nat) : Int)) hp (rgN (by omega))
      rw [if_pos (show 0 ≤ ((S.2.1.getD k 0 : Nat) : Int) ∧ ((S.2.1.getD k 0 : Nat) : Int) < (NP S.1 : Nat) by omega), Int.toNat_natCast] at hpl
      unfold FX1_gather_67 BX1_gather_98
      rw [c2.2.1, if_neg (by rw [iI_leN (by omega) (by omega)]; omega), dk_68_1 hD2, ob_some, hm, ob_some, c2.1, hpl, ob_some, if_neg ne10]
      have fm := Fam_k (σ' := T3 s2 70 (cX S.1 (S.2.1.getD k 0)) (cY S.1 (S.2.1.getD k 0)) (cZ S.1 (S.2.1.getD k 0))) j1 (fun k' i _ _ h70 => T3_k h70)
      refine OK.bi (c_pass hD2 hp fm T3_Tr) ?_
      rintro ⟨s3, ρ3⟩ ⟨f', B', k1, k2, k3, k4⟩
      rw [bn_eq, iI_succ]
      refine ih (s3, ρ3) ⟨f', B', k1, Bs_iff (k4 _ Vm_Lin j2) (fun x => (take_succ' hk).symm), j3.tr k2, ?_⟩
      refine (j4.tr (fun k' i hn => T3_k (fun z => hn ?_))).tr k3
      unfold FX; omega
  · intro g s k ⟨i1, i2, i3⟩ hk ih
    show OK (FX1_gather_8 68 2 (BX1_gather_65 68 2) g s ρ (iI k)) _
    obtain ⟨b1k, j, hj, ej⟩ := b1 k hk
    have ρk : ρ (b k) 0 = some (b k + 1) := by rw [ej]; exact dk_base hD hj
    have c2 := sx i2
    unfold FX1_gather_8
    rw [if_neg (by rw [w6, iI_leN (by omega) (by omega)]; omega)]
    simp only [dk_68_0 hD, ↓ob_some, rg69 hk, b1k, ρk, bn_eq, iI_succ, show (0 : Int32) = iI 0 from rfl, fill6]
    rw [c_change hk, ob_some, c2.1]
    refine ih _ ⟨?_, ?_, ?_⟩
    · rw [su_k (by omega), F6_k (by omega), su_k (by omega)]; exact i1
    · refine i2.tr (fun k' i hn => ?_)
      have n1 : k' ≠ b k + 1 := fun z => hn (by unfold FX; omega)
      have n2 : k' ≠ b k := fun z => hn (by unfold FX; omega)
      rw [su_k n1, F6_k n1, su_k n2]
    · intro i hi
      obtain ⟨b1i, ji, hji, eji⟩ := b1 i (by omega)
      by_cases c : i = k
      · subst c
        refine ⟨by rw [su_k (by omega), F6_k (by omega), su_s], ?_, ?_⟩
        · intro j' hj'
          have := FI_set (i := i) (x := 1) (F6_FI (σ := su s (b i) 1 (iI S.1)) (k := b i + 1) (v := v6 0 0 0 0 0 0)) j' hj'
          rw [show (1 : Int32) = iI 1 from rfl, this]
          unfold vset e6v
          by_cases c' : j' = i
          · rw [if_pos c', if_pos c']
          · rw [if_neg c', if_neg c']
            rcases c6 hj' with rfl | rfl | rfl | rfl | rfl | rfl <;> rfl
        · intro j' hj'
          unfold e6v
          split <;> omega
      · have ne : b i ≠ b k := fun z => c (b2 i k (by omega) hk z)
        refine Cv_k (i3 i (by omega)) (fun j' => ?_) (fun j' => ?_)
        · rw [su_k (by omega), F6_k (by omega), su_k (by omega)]
        · rw [su_k (by omega), F6_k (by omega), su_k (by omega)]
theorem c_isLess {σ : Sto} {ρ : Rho} {p f t : Nat} {B : Nat → Nat → Int} {x y z : Int} (hD : Dk ρ) (hp : PR p) (h : Fam σ ρ p f B) (ht : Tr σ t x y z) (hb : bd3 x y z 23) : MX1_isLessBy σ ρ 68 t = some (if (fs (fun i => decide (qv (B i) x y z % p ≠ 0)) f).isSome then 1 else 0) := by
  have h6 := h.1
  unfold MX1_isLessBy
  rw [c_firstOff hD hp h ht hb, ob_some]
  cases e : fs (fun i => decide (qv (B i) x y z % p ≠ 0)) f with
  | none => rw [show oI none = -1 from rfl, if_pos (by decide)]; exact zr0 _
  | some a =>
    have := (fs_some e).1
    rw [show oI (some a) = (a : Int) from rfl, if_neg (by rw [show (-1 : Int32) = iI (-1) from rfl, iI_eq (rgN (by omega)) ⟨by omega, by omega⟩]; omega)]
    exact zr1 _
set_option maxHeartbeats 1000000 in
theorem c_readOne {σ : Sto} {ρ : Rho} {p k : Nat} {B : Nat → Nat → Int} {V : (Nat → Int) → Prop} (hD : Dk ρ) (hp : PR p) (h : Fam σ ρ p 1 B) (hB : Bs p 6 1 B V) (hL : Lin p V) (hk : k < 68 ∨ 82 < k) : OK (MX1_readOne σ ρ 68 k) (fun s => ∃ w, One p V w ∧ FI s k w ∧ Fr (fun k' _ => k' = k) σ s) := by
  have hp3 := hp.le
  obtain ⟨h0, h1, b, h2, h3, h4⟩ := h
  obtain ⟨b0, j, hj, ej⟩ := h2 0 (by omega)
  have c0 := h4 0 (by omega)
  have ρ0' : ρ (b 0) 0 = some (b 0 + 1) := by rw [ej]; exact dk_base hD hj
  have L : ∃ l, l < 6 ∧ B 0 l ≠ 0 ∧ ∀ j, j < l → B 0 j = 0 := by
    cases e : fs (fun i => decide (B 0 i ≠ 0)) 6 with
    | none =>
      have hz := fs_none.mp e
      have := hB.2.1 (fun _ => 1) (fun i hi => by
        have h5 : B 0 i = 0 := Classical.byContradiction (fun w => absurd (decide_eq_true w) (by rw [hz i hi]; simp))
        show (0 + 1 * B 0 i) % (p : Int) = 0
        rw [h5]; simp) 0 (by omega)
      exact absurd this (one_nz hp)
    | some l =>
      obtain ⟨a, b, c⟩ := fs_some e
      exact ⟨l, a, of_decide_eq_true b, fun j hj => by have := of_decide_eq_false (c j hj); omega⟩
  obtain ⟨l, l1, l2, l3⟩ := L
  have bl := c0.2.2 l l1
  unfold MX1_readOne
  have r0 : rg ρ 69 (0 : Int32) = ρ 69 0 := rg69 (n := 0) (by omega)
  rw [dk_68_0 hD, ob_some, r0, b0, ob_some, ρ0', ob_some, ob_some, r0, b0, ob_some, bn_eq, bn_eq, bn_eq, c0.1]
  refine run_g (S := Int) (call := fun (g : Sto → Nat → Int32 → Int32 → Int32 → Option Sto) (v : Int) (i : Nat) => g σ (b 0 + 1) (iI p) (iI v) (iI i)) (N := l + 1) (I := fun i v => if i ≤ l then v = 0 else v = B 0 l) (Post := fun o => OK o _) ?_ ?_ (by unfold FU; omega) (k0 := 0) (by omega) (s := 0) (by rw [if_pos (by omega)])
  · intro g v hv
    rw [if_neg (by omega)] at hv
    subst hv
    have hx : FX1_readOne_26 ρ 68 k (BX1_readOne_52 ρ 68 k) g σ (b 0 + 1) (iI p) (iI (B 0 l)) (iI ((l + 1 : Nat) : Int)) = BX1_readOne_52 ρ 68 k σ (b 0 + 1) (iI p) (iI (B 0 l)) := by
      unfold FX1_readOne_26
      by_cases c : 6 ≤ l + 1
      · rw [if_pos (by rw [w6, iI_leN (by omega) (by omega)]; exact c)]
      · rw [if_neg (by rw [w6, iI_leN (by omega) (by omega)]; exact c), if_neg (fun z => l2 ((iI_z bl.1 (by omega)).mp z))]
    show OK (FX1_readOne_26 ρ 68 k (BX1_readOne_52 ρ 68 k) g σ (b 0 + 1) (iI p) (iI (B 0 l)) (iI ((l + 1 : Nat) : Int))) _
    rw [hx]
    unfold BX1_readOne_52
    obtain ⟨i1, i2, i3⟩ := c_inverse' hp bl.1 bl.2 l2
    have iv2 := iv_ok (v := (B 0 l).toNat) hp (by omega) (by omega)
    have ivm : (iv p (B 0 l).toNat : Int) * B 0 l % p = 1 := by
      have := iv2.2.2.1
      have h3 : (((B 0 l).toNat * iv p (B 0 l).toNat % p : Nat) : Int) = 1 := by rw [this]; rfl
      rw [Int.natCast_emod, Int.natCast_mul, show (((B 0 l).toNat : Nat) : Int) = B 0 l by omega, Int.mul_comm] at h3
      exact h3
    generalize hK : (iv p (B 0 l).toNat : Int) = K at *
    have f0 := c0.2.1
    have f1 : FI (F6 σ k (B 0)) (b 0 + 1) (B 0) := FI_k f0 (fun i => F6_k (by omega))
    rw [c_copy f0, ob_some, i1, ob_some, show (0 : Int32) = iI 0 from rfl, c_blend F6_FI f1, ob_some, c_reduce hp F6_FI (fun i hi => ?_), ob_some]
    · refine OK.so ⟨fun i => (K * B 0 i + 0 * B 0 i) % p, ⟨?_, fun i hi => emod_nn (by omega), l, l1, ?_, fun j hj => ?_⟩, F6_FI, fun k' i hn => ?_⟩
      · exact hL (B 0) (B 0) _ K 0 (hB.1 0 (by omega)) (hB.1 0 (by omega)) (fun i hi => em_sub)
      · dsimp only; rw [Int.zero_mul, Int.add_zero]; exact ivm
      · dsimp only; rw [l3 j hj]; simp
      · have hn' : k' ≠ k := hn
        rw [F6_k hn', F6_k hn', F6_k hn']
    · have a1 : bd K 23 := ⟨by omega, by omega⟩
      have a2 := b23 hp (c0.2.2 i hi)
      exact bd_rg (bd_add (bd_mul a1 a2) (bd_mul (bd_lit 0) a2)) (by decide)
  · intro g v i hv hi ih
    rw [if_pos (by omega)] at hv
    subst hv
    show OK (FX1_readOne_26 ρ 68 k (BX1_readOne_52 ρ 68 k) g σ (b 0 + 1) (iI p) (iI 0) (iI i)) _
    unfold FX1_readOne_26
    rw [if_neg (by rw [w6, iI_leN (by omega) (by omega)]; omega), if_pos (show iI 0 = 0 from rfl), c_nth c0.2.1 (by omega), ob_some, bn_eq, bn_eq, iI_succ]
    refine ih _ ?_
    by_cases c : i = l
    · rw [if_neg (by omega), c]
    · rw [if_pos (by omega)]; exact l3 i (by omega)
