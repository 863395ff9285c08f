/-! how many vectors span -/
theorem sm_cut {F : Nat → Int} {m : Nat} : ∀ {n}, m ≤ n → (∀ j, m ≤ j → j < n → F j = 0) → sm F n = sm F m
  | 0, h, _ => by rw [show m = 0 by omega]
  | n + 1, h, hz => by
    by_cases q : m = n + 1
    · rw [q]
    · show sm F n + F n = sm F m
      rw [sm_cut (n := n) (by omega) (fun j a b => hz j a (by omega)), hz n (by omega) (by omega), Int.add_zero]
theorem sm_app {F : Nat → Int} {m : Nat} : ∀ {n}, sm F (m + n) = sm F m + sm (fun j => F (m + j)) n
  | 0 => by show sm F m = sm F m + 0; omega
  | n + 1 => by
    show sm F (m + n) + F (m + n) = sm F m + (sm (fun j => F (m + j)) n + F (m + n))
    rw [sm_app (n := n)]; omega
def dot (W : Nat) (u v : Nat → Int) : Int := sm (fun i => u i * v i) W
theorem dot_rv {W : Nat} {M : Nat → Nat → Int} {x : Nat → Int} {r : Nat} : rv W M x r = dot W (M r) x := rfl
theorem dot_sm {W n : Nat} {u t : Nat → Int} {C : Nat → Nat → Int} : dot W u (fun i => sm (fun j => t j * C j i) n) = sm (fun j => t j * dot W u (C j)) n := by
  unfold dot
  have e1 : sm (fun i => u i * sm (fun j => t j * C j i) n) W = sm (fun i => sm (fun j => u i * (t j * C j i)) n) W := sm_congr (fun i _ => sm_mulL.symm)
  have e2 : sm (fun j => t j * sm (fun i => u i * C j i) W) n = sm (fun j => sm (fun i => u i * (t j * C j i)) W) n := sm_congr (fun j _ => by
    rw [← sm_mulL]; exact sm_congr (fun i _ => by grind))
  rw [e1, e2]
  exact sm_swap
theorem dot_one {W q : Nat} {u : Nat → Int} (hq : q < W) : dot W u (fun i => if i = q then 1 else 0) = u q := by
  unfold dot
  rw [sm_one (k := q) hq (fun j _ hj => by simp [hj])]
  simp
theorem dot_sub {W : Nat} {u x y : Nat → Int} : dot W u (fun i => x i - y i) = dot W u x - dot W u y := by
  unfold dot
  rw [← sm_sub]; exact sm_congr (fun i _ => by grind)
theorem dot_eqm {p : Int} {W : Nat} {u x y : Nat → Int} (h : ∀ i, i < W → (x i - y i) % p = 0) : (dot W u x - dot W u y) % p = 0 := by
  unfold dot
  exact sm_eqm (fun i hi => by rw [← Int.mul_sub]; exact z_mulL _ (h i hi))
def cmb (n : Nat) (t : Nat → Int) (C : Nat → Nat → Int) (i : Nat) : Int := sm (fun j => t j * C j i) n
def Bs (p W k : Nat) (B : Nat → Nat → Int) (V : (Nat → Int) → Prop) : Prop :=
  (∀ j, j < k → V (B j)) ∧ (∀ t : Nat → Int, (∀ i, i < W → cmb k t B i % p = 0) → ∀ j, j < k → t j % p = 0) ∧ ∀ x, V x → ∃ t : Nat → Int, ∀ i, i < W → (x i - cmb k t B i) % p = 0
theorem Bs_le {p W k l : Nat} {B C : Nat → Nat → Int} {V : (Nat → Int) → Prop} (hp : PR p) (h1 : Bs p W k B V) (h2 : Bs p W l C V) : l ≤ k := by
  refine Classical.byContradiction fun hlk => ?_
  obtain ⟨-, -, s1⟩ := h1
  obtain ⟨v2, i2, -⟩ := h2
  have ex : ∀ j, ∃ t : Nat → Int, j < l → ∀ i, i < W → (C j i - cmb k t B i) % p = 0 := by
    intro j
    by_cases q : j < l
    · obtain ⟨t, ht⟩ := s1 (C j) (v2 j q)
      exact ⟨t, fun _ => ht⟩
    · exact ⟨fun _ => 0, fun h => absurd h q⟩
  obtain ⟨T, hT⟩ := Classical.skolem.mp ex
  obtain ⟨t, ⟨i0, hi0, ht0⟩, hs⟩ := dep hp k T
  have key := i2 (fun j => if j < k + 1 then t j else 0) (fun i hi => by
    unfold cmb
    rw [sm_cut (m := k + 1) (by omega) (fun j a b => by dsimp only; rw [if_neg (by omega)]; simp)]
    rw [sm_congr (G := fun j => t j * C j i) (fun j hj => by dsimp only; rw [if_pos hj])]
    have e1 : (sm (fun j => t j * C j i) (k + 1) - sm (fun j => t j * cmb k (T j) B i) (k + 1)) % p = 0 := sm_eqm (fun j hj => by
      rw [← Int.mul_sub]; exact z_mulL _ (hT j (by omega) i hi))
    have e2 : sm (fun j => t j * cmb k (T j) B i) (k + 1) = sm (fun a => sm (fun j => t j * T j a) (k + 1) * B a i) k := by
      unfold cmb
      rw [sm_congr (G := fun j => sm (fun a => t j * (T j a * B a i)) k) (fun j _ => sm_mulL.symm), sm_swap]
      refine sm_congr (fun a _ => ?_)
      rw [← sm_mulR]; exact sm_congr (fun j _ => by grind)
    have e3 : sm (fun j => t j * cmb k (T j) B i) (k + 1) % p = 0 := by
      rw [e2]; exact sm_z (fun a ha => z_mulR _ (hs a ha))
    have := z_add e1 e3
    rwa [Int.sub_add_cancel] at this) i0 (by omega)
  rw [if_pos hi0] at key
  exact ht0 key
theorem Bs_uni {p W k l : Nat} {B C : Nat → Nat → Int} {V : (Nat → Int) → Prop} (hp : PR p) (h1 : Bs p W k B V) (h2 : Bs p W l C V) : l = k := Nat.le_antisymm (Bs_le hp h1 h2) (Bs_le hp h2 h1)
theorem Bs_std {p W : Nat} : Bs p W W (fun j i => if i = j then 1 else 0) (fun _ => True) := by
  have e : ∀ (t : Nat → Int) i, i < W → cmb W t (fun j i => if i = j then 1 else 0) i = t i := by
    intro t i hi
    unfold cmb
    rw [sm_one (k := i) hi (fun j _ hj => by simp [Ne.symm hj])]
    simp
  refine ⟨fun _ _ => trivial, fun t h j hj => ?_, fun x _ => ⟨x, fun i hi => ?_⟩⟩
  · have := h j hj
    rwa [e t j hj] at this
  · rw [e x i hi, Int.sub_self]; simp
theorem cmb_app {n k : Nat} {t : Nat → Int} {C : Nat → Nat → Int} {i : Nat} : cmb (n + k) t C i = cmb n t C i + cmb k (fun j => t (n + j)) (fun j => C (n + j)) i := sm_app
theorem RI_dim {p R W n k : Nat} {M M' B : Nat → Nat → Int} (hp : PR p) (h : RI p R W n W M M') (hB : Bs p W k B (nul p R W M)) : n + k = W := by
  obtain ⟨g1, -, g3, ⟨pc, g4, g5, g6, -⟩, g8⟩ := h
  obtain ⟨b1, b2, b3⟩ := hB
  let C : Nat → Nat → Int := fun j i => if j < n then (if i = pc j then 1 else 0) else B (j - n) i
  have hC1 : ∀ j, j < n → C j = fun i => if i = pc j then 1 else 0 := fun j hj => by funext i; simp [C, hj]
  have hC2 : ∀ j, C (n + j) = B j := fun j => by funext i; show (if n + j < n then (if i = pc (n + j) then 1 else 0) else B (n + j - n) i) = B j i; rw [if_neg (by omega), Nat.add_sub_cancel_left]
  have d1 : ∀ r, r < n → ∀ j, j < n → dot W (M' r) (C j) = if r = j then 1 else 0 := fun r hr j hj => by
    rw [hC1 j hj, dot_one (g4 j hj)]; exact g6 r (by omega) j hj
  have s1 : ∀ (t : Nat → Int) r, r < n → sm (fun j => t j * dot W (M' r) (C j)) n = t r := by
    intro t r hr
    rw [sm_one (k := r) hr (fun j hj hne => by rw [d1 r hr j hj, if_neg (Ne.symm hne), Int.mul_zero]), d1 r hr r hr, if_pos rfl, Int.mul_one]
  refine (Bs_uni hp (V := fun _ => True) (Bs_std (p := p) (W := W)) (l := n + k) (C := C) ⟨fun _ _ => trivial, fun t ht => ?_, fun x _ => ?_⟩)
  · have t1 : ∀ r, r < n → t r % p = 0 := by
      intro r hr
      have h0 : dot W (M' r) (fun i => cmb (n + k) t C i) % p = 0 := sm_z (fun i hi => z_mulL _ (ht i hi))
      have h1 : dot W (M' r) (fun i => cmb (n + k) t C i) = sm (fun j => t j * dot W (M' r) (C j)) (n + k) := dot_sm
      rw [h1, sm_app, s1 t r hr] at h0
      have h2 : sm (fun j => t (n + j) * dot W (M' r) (C (n + j))) k % p = 0 := sm_z (fun j hj => by
        rw [hC2]; exact z_mulL _ ((g3 (B j)).mp (b1 j hj) r (by omega)))
      have := z_sub h0 h2
      rwa [Int.add_sub_cancel] at this
    intro j hj
    by_cases q : j < n
    · exact t1 j q
    · have := b2 (fun j => t (n + j)) (fun i hi => by
        have h0 := ht i hi
        rw [cmb_app] at h0
        have h1 : cmb n t C i % p = 0 := sm_z (fun j hj => z_mulR _ (t1 j hj))
        have h2 := z_sub h0 h1
        rw [Int.add_comm, Int.add_sub_cancel] at h2
        have e : cmb k (fun j => t (n + j)) (fun j => C (n + j)) i = cmb k (fun j => t (n + j)) B i := sm_congr (fun j _ => by dsimp only; rw [hC2])
        rwa [e] at h2) (j - n) (by omega)
      rwa [show n + (j - n) = j by omega] at this
  · let s : Nat → Int := fun r => dot W (M' r) x
    have hy : nul p R W M (fun i => x i - cmb n s C i) := by
      refine (g3 _).mpr (fun r hr => ?_)
      rw [dot_rv, dot_sub]
      by_cases q : r < n
      · have e : dot W (M' r) (fun i => cmb n s C i) = s r := by
          rw [← s1 s r q]; exact dot_sm
        rw [e, Int.sub_self]; simp
      · have e : ∀ z : Nat → Int, dot W (M' r) z % p = 0 := fun z => sm_z (fun i hi => by rw [g8 r (by omega) hr i hi]; simp)
        exact z_sub (e _) (e _)
    obtain ⟨t, ht⟩ := b3 _ hy
    refine ⟨fun j => if j < n then s j else t (j - n), fun i hi => ?_⟩
    have := ht i hi
    rw [cmb_app]
    have e1 : cmb n (fun j => if j < n then s j else t (j - n)) C i = cmb n s C i := sm_congr (fun j hj => by dsimp only; rw [if_pos hj])
    have e2 : cmb k (fun j => if n + j < n then s (n + j) else t (n + j - n)) (fun j => C (n + j)) i = cmb k t B i := sm_congr (fun j hj => by
      dsimp only
      rw [if_neg (by omega), hC2, Nat.add_sub_cancel_left])
    rw [e1, e2, ← Int.sub_sub]; exact this
