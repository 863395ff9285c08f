/-! more rows than columns: they depend on one another -/
theorem sm_z {p : Int} {F : Nat → Int} : ∀ {n}, (∀ k, k < n → F k % p = 0) → sm F n % p = 0
  | 0, _ => by show (0 : Int) % p = 0; simp
  | n + 1, h => z_add (sm_z (n := n) (fun k hk => h k (by omega))) (h n (by omega))
theorem sm_mulR {c : Int} {F : Nat → Int} {n : Nat} : sm (fun k => F k * c) n = sm F n * c := by
  rw [Int.mul_comm, ← sm_mulL]; exact sm_congr (fun k _ => Int.mul_comm _ _)
theorem sm_sub {F G : Nat → Int} {n : Nat} : sm (fun k => F k - G k) n = sm F n - sm G n := by
  have h := sm_add (F := F) (G := fun k => (-1) * G k) (n := n)
  rw [sm_mulL] at h
  rw [show sm F n - sm G n = sm F n + (-1) * sm G n by omega, ← h]
  exact sm_congr (fun k _ => by omega)
/-- one of the terms apart -/
theorem sm_at {F : Nat → Int} {k n : Nat} (hk : k < n) : sm F n = F k + sm (fun j => if j = k then 0 else F j) n := by
  have h : sm F n = sm (fun j => (if j = k then F k else 0) + (if j = k then 0 else F j)) n := sm_congr (fun j _ => by
    by_cases q : j = k
    · subst q; simp
    · simp [q])
  rw [h, sm_add, sm_one (k := k) hk (fun j _ hj => if_neg hj), if_pos rfl]
theorem dep {p : Nat} (hp : PR p) : ∀ (n : Nat) (A : Nat → Nat → Int), ∃ t : Nat → Int, (∃ i, i < n + 1 ∧ t i % p ≠ 0) ∧ ∀ j, j < n → sm (fun i => t i * A i j) (n + 1) % p = 0
  | 0, A => ⟨fun _ => 1, ⟨0, by omega, one_nz hp⟩, fun j hj => by omega⟩
  | n + 1, A => by
    by_cases hz : ∀ i, i < n + 2 → A i n % p = 0
    · obtain ⟨t, ⟨i, hi, ht⟩, hs⟩ := dep hp n A
      refine ⟨fun i => if i = n + 1 then 0 else t i, ⟨i, by omega, by simp only [if_neg (show i ≠ n + 1 by omega)]; exact ht⟩, ?_⟩
      intro j hj
      show (sm (fun i => (if i = n + 1 then 0 else t i) * A i j) (n + 1) + (if n + 1 = n + 1 then 0 else t (n + 1)) * A (n + 1) j) % p = 0
      rw [if_pos rfl, Int.zero_mul, Int.add_zero, sm_congr (G := fun i => t i * A i j) (fun k hk => by rw [if_neg (by omega)])]
      by_cases q : j = n
      · subst q
        exact sm_z (fun k hk => z_mulL _ (hz k (by omega)))
      · exact hs j (by omega)
    · obtain ⟨k, hk⟩ := Classical.not_forall.mp hz
      obtain ⟨hk1, hk2⟩ := Classical.not_imp.mp hk
      -- row k goes to the end
      obtain ⟨s, ⟨i, hi, hsi⟩, hs⟩ := dep hp n (fun i j => A k n * A (if i = k then n + 1 else i) j - A (if i = k then n + 1 else i) n * A k j)
      let B : Nat → Nat → Int := fun i j => A (if i = k then n + 1 else i) j
      let T : Int := sm (fun i => s i * A (if i = k then n + 1 else i) n) (n + 1)
      have hs' : ∀ j, j < n → (A k n * sm (fun i => s i * A (if i = k then n + 1 else i) j) (n + 1) - T * A k j) % p = 0 := by
        intro j hj
        have := hs j hj
        rw [← sm_mulL, ← sm_mulR, ← sm_sub]
        rw [← this]; congr 1
        exact sm_congr (fun i _ => by grind)
      -- the numbers
      refine ⟨fun i => if i = k then -T else A k n * s (if i = n + 1 then k else i), ?_, ?_⟩
      · by_cases q : i = k
        · by_cases q2 : k = n + 1
          · omega
          · refine ⟨n + 1, by omega, ?_⟩
            simp only [if_neg (show n + 1 ≠ k by omega), if_pos]
            rw [← q]; exact nz_mul hp (q ▸ hk2) hsi
        · refine ⟨i, by omega, ?_⟩
          simp only [if_neg q, if_neg (show i ≠ n + 1 by omega)]
          exact nz_mul hp hk2 hsi
      · intro j hj
        have tot : sm (fun i => (if i = k then -T else A k n * s (if i = n + 1 then k else i)) * A i j) (n + 1 + 1) = A k n * sm (fun i => s i * A (if i = k then n + 1 else i) j) (n + 1) - T * A k j := by
          show sm (fun i => (if i = k then -T else A k n * s (if i = n + 1 then k else i)) * A i j) (n + 1) + (if n + 1 = k then -T else A k n * s (if n + 1 = n + 1 then k else n + 1)) * A (n + 1) j = _
          by_cases q : k = n + 1
          · rw [if_pos q.symm, ← sm_mulL]
            have e : sm (fun i => (if i = k then -T else A k n * s (if i = n + 1 then k else i)) * A i j) (n + 1) = sm (fun i => A k n * (s i * A (if i = k then n + 1 else i) j)) (n + 1) := sm_congr (fun i hi => by
              rw [if_neg (by omega), if_neg (by omega), if_neg (by omega), Int.mul_assoc])
            rw [e, q]; grind
          · rw [if_neg (fun r => q r.symm), if_pos rfl, sm_at (k := k) (show k < n + 1 by omega), sm_at (F := fun i => s i * A (if i = k then n + 1 else i) j) (k := k) (show k < n + 1 by omega), if_pos rfl, if_pos rfl]
            have e : sm (fun i => if i = k then 0 else (if i = k then -T else A k n * s (if i = n + 1 then k else i)) * A i j) (n + 1) = A k n * sm (fun i => if i = k then 0 else s i * A (if i = k then n + 1 else i) j) (n + 1) := by
              rw [← sm_mulL]
              refine sm_congr (fun i hi => ?_)
              by_cases r : i = k
              · rw [if_pos r, if_pos r, Int.mul_zero]
              · rw [if_neg r, if_neg r, if_neg r, if_neg r, if_neg (by omega), Int.mul_assoc]
            rw [e]; grind
        rw [tot]
        by_cases q : j = n
        · subst q
          rw [show sm (fun i => s i * A (if i = k then j + 1 else i) j) (j + 1) = T from rfl, Int.mul_comm, Int.sub_self]; simp
        · exact hs' j (by omega)
