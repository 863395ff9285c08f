/-! families: spans of conics through points -/
theorem sm6 {F : Nat → Int} : sm F 6 = F 0 + F 1 + F 2 + F 3 + F 4 + F 5 := by
  show 0 + F 0 + F 1 + F 2 + F 3 + F 4 + F 5 = _
  omega
def mk (p q : Nat) : Nat → Int := v6 (cX p q * cX p q % p) (cY p q * cY p q % p) (cZ p q * cZ p q % p) (cY p q * cZ p q % p) (cZ p q * cX p q % p) (cX p q * cY p q % p)
theorem mk_nn {p q i : Nat} (hp : PR p) : 0 ≤ mk p q i ∧ mk p q i < p := by
  have hp3 := hp.le
  unfold mk v6
  split
  · exact emod_nn (by omega)
  · split
    · exact emod_nn (by omega)
    · split
      · exact emod_nn (by omega)
      · split
        · exact emod_nn (by omega)
        · split <;> exact emod_nn (by omega)
theorem dot_mk {p q : Nat} {x : Nat → Int} : (dot 6 (mk p q) x - qv x (cX p q) (cY p q) (cZ p q)) % p = 0 := by
  unfold dot
  rw [sm6]
  unfold mk qv
  simp only [v6_0, v6_1, v6_2, v6_3, v6_4, v6_5]
  have e := fun t : Int => em_sub (p := (p : Int)) (x := t)
  exact z_of (z_add (z_add (z_add (z_add (z_add (z_mulR (x 0) (e (cX p q * cX p q))) (z_mulR (x 1) (e (cY p q * cY p q)))) (z_mulR (x 2) (e (cZ p q * cZ p q)))) (z_mulR (x 3) (e (cY p q * cZ p q)))) (z_mulR (x 4) (e (cZ p q * cX p q)))) (z_mulR (x 5) (e (cX p q * cY p q)))) (by grind)
def Vm (p : Nat) (L : List Nat) (x : Nat → Int) : Prop := ∀ q ∈ L, dot 6 (mk p q) x % p = 0
theorem dot_lin {p : Nat} {W : Nat} {u x y z : Nat → Int} {a b : Int} (h : ∀ i, i < W → (z i - (a * x i + b * y i)) % p = 0) : (dot W u z - (a * dot W u x + b * dot W u y)) % p = 0 := by
  have h1 := dot_eqm (u := u) h
  have e : dot W u (fun i => a * x i + b * y i) = a * dot W u x + b * dot W u y := by
    unfold dot
    rw [← sm_mulL, ← sm_mulL, ← sm_add]
    exact sm_congr (fun i _ => by grind)
  rw [e] at h1; exact h1
theorem Vm_lin {p : Nat} {L : List Nat} {x y z : Nat → Int} {a b : Int} (hx : Vm p L x) (hy : Vm p L y) (h : ∀ i, i < 6 → (z i - (a * x i + b * y i)) % p = 0) : Vm p L z := by
  intro q hq
  rw [eqm.mpr (dot_lin h)]
  exact z_add (z_mulL _ (hx q hq)) (z_mulL _ (hy q hq))
/-- two places changed -/
def tr (a g j : Nat) : Nat := if j = a then g else if j = g then a else j
theorem tr_tr {a g j : Nat} : tr a g (tr a g j) = j := by
  unfold tr
  by_cases h1 : j = a
  · subst h1
    by_cases h2 : g = j
    · simp [h2]
    · simp [h2]
  · by_cases h2 : j = g
    · subst h2; simp [h1]
    · simp [h1, h2]
theorem tr_lt {a g j : Nat} (ha : a ≤ g) (hj : j < g + 1) : tr a g j < g + 1 := by
  unfold tr
  split
  · omega
  · split <;> omega
theorem sm_tr {F : Nat → Int} {a g : Nat} (ha : a ≤ g) : sm (fun j => F (tr a g j)) (g + 1) = sm F (g + 1) := by
  by_cases q : a = g
  · subst q
    refine sm_congr (fun j _ => ?_)
    unfold tr
    by_cases h : j = a
    · rw [if_pos h, h]
    · rw [if_neg h, if_neg h]
  · show sm (fun j => F (tr a g j)) g + F (tr a g g) = sm F g + F g
    rw [sm_at (F := fun j => F (tr a g j)) (k := a) (n := g) (by omega), sm_at (F := F) (k := a) (n := g) (by omega)]
    have e1 : tr a g g = a := by unfold tr; rw [if_neg (by omega), if_pos rfl]
    have e2 : tr a g a = g := by unfold tr; rw [if_pos rfl]
    have e3 : sm (fun j => if j = a then 0 else F (tr a g j)) g = sm (fun j => if j = a then 0 else F j) g := sm_congr (fun j hj => by
      by_cases h : j = a
      · rw [if_pos h, if_pos h]
      · rw [if_neg h, if_neg h]
        unfold tr
        rw [if_neg h, if_neg (by omega)])
    rw [e1, e2, e3]; omega
theorem Bs_tr {p W g a : Nat} {B : Nat → Nat → Int} {V : (Nat → Int) → Prop} (h : Bs p W (g + 1) B V) (ha : a ≤ g) : Bs p W (g + 1) (fun j => B (tr a g j)) V := by
  obtain ⟨h1, h2, h3⟩ := h
  have key : ∀ (t : Nat → Int) i, cmb (g + 1) t (fun j => B (tr a g j)) i = cmb (g + 1) (fun j => t (tr a g j)) B i := by
    intro t i
    unfold cmb
    rw [← sm_tr (F := fun j => t (tr a g j) * B j i) ha]
    exact sm_congr (fun j _ => by rw [tr_tr])
  refine ⟨fun j hj => h1 _ (tr_lt ha hj), fun t ht j hj => ?_, fun x hx => ?_⟩
  · have := h2 (fun j => t (tr a g j)) (fun i hi => by rw [← key]; exact ht i hi) (tr a g j) (tr_lt ha hj)
    rwa [tr_tr] at this
  · obtain ⟨t, ht⟩ := h3 x hx
    refine ⟨fun j => t (tr a g j), fun i hi => ?_⟩
    rw [key]
    have e : cmb (g + 1) (fun j => t (tr a g (tr a g j))) B i = cmb (g + 1) t B i := sm_congr (fun j _ => by dsimp only; rw [tr_tr])
    rw [e]; exact ht i hi
theorem dot_cmb {W n : Nat} {u t : Nat → Int} {C : Nat → Nat → Int} : dot W u (cmb n t C) = sm (fun j => t j * dot W u (C j)) n := dot_sm
theorem Bs_last {p W g : Nat} {B C : Nat → Nat → Int} {u : Nat → Int} {V : (Nat → Int) → Prop} (hp : PR p) (h : Bs p W (g + 1) B V) (hw : dot W u (B g) % p ≠ 0) (hC : ∀ i, i < g → ∀ c, c < W → (C i c - (dot W u (B g) * B i c + -(dot W u (B i)) * B g c)) % p = 0) (hV : ∀ i, i < g → V (C i)) : Bs p W g C (fun x => V x ∧ dot W u x % p = 0) := by
  obtain ⟨h1, h2, h3⟩ := h
  have key : ∀ (t : Nat → Int) c, c < W → (cmb g t C c - (dot W u (B g) * cmb g t B c + -(sm (fun i => t i * dot W u (B i)) g) * B g c)) % p = 0 := by
    intro t c hc
    unfold cmb
    have e : dot W u (B g) * sm (fun j => t j * B j c) g + -(sm (fun i => t i * dot W u (B i)) g) * B g c = sm (fun j => t j * (dot W u (B g) * B j c + -(dot W u (B j)) * B g c)) g := by
      have e1 : dot W u (B g) * sm (fun j => t j * B j c) g = sm (fun j => t j * (dot W u (B g) * B j c)) g := by
        rw [← sm_mulL]; exact sm_congr (fun j _ => by grind)
      have e2 : -(sm (fun i => t i * dot W u (B i)) g) * B g c = sm (fun j => t j * (-(dot W u (B j)) * B g c)) g := by
        have e3 : sm (fun j => t j * (-(dot W u (B j)) * B g c)) g = sm (fun j => (t j * dot W u (B j)) * (-(B g c))) g := sm_congr (fun j _ => by grind)
        rw [e3, sm_mulR]; grind
      rw [e1, e2, ← sm_add]
      exact sm_congr (fun j _ => by grind)
    rw [e]
    exact sm_eqm (fun j hj => by rw [← Int.mul_sub]; exact z_mulL _ (hC j hj c hc))
  refine ⟨fun j hj => ⟨hV j hj, ?_⟩, fun t ht j hj => ?_, fun x hx => ?_⟩
  · rw [eqm.mpr (dot_lin (hC j hj))]
    exact z_of (show (0 : Int) % p = 0 by simp) (by grind)
  · have := h2 (fun i => if i < g then t i * dot W u (B g) else -(sm (fun i => t i * dot W u (B i)) g)) (fun c hc => by
      have e : cmb (g + 1) (fun i => if i < g then t i * dot W u (B g) else -(sm (fun i => t i * dot W u (B i)) g)) B c = dot W u (B g) * cmb g t B c + -(sm (fun i => t i * dot W u (B i)) g) * B g c := by
        show sm (fun j => (if j < g then t j * dot W u (B g) else -(sm (fun i => t i * dot W u (B i)) g)) * B j c) g + (if g < g then t g * dot W u (B g) else -(sm (fun i => t i * dot W u (B i)) g)) * B g c = _
        rw [if_neg (Nat.lt_irrefl g)]
        congr 1
        unfold cmb
        rw [← sm_mulL]
        exact sm_congr (fun j hj => by rw [if_pos hj]; grind)
      rw [e, ← eqm.mpr (key t c hc)]
      exact ht c hc) j (by omega)
    rw [if_pos hj] at this
    exact (dvd_prime hp this).resolve_right hw
  · obtain ⟨hx1, hx2⟩ := hx
    obtain ⟨t, ht⟩ := h3 x hx1
    obtain ⟨w, hw1, hw2⟩ := unit_inv hp hw
    have hd := dot_eqm (u := u) ht
    have hd2 : (sm (fun i => t i * dot W u (B i)) g + t g * dot W u (B g)) % p = 0 := by
      have e : dot W u (fun i => cmb (g + 1) t B i) = sm (fun i => t i * dot W u (B i)) g + t g * dot W u (B g) := dot_cmb
      rw [e] at hd
      exact z_of (z_sub hx2 hd) (by grind)
    refine ⟨fun i => w * t i, fun c hc => ?_⟩
    have k := key (fun i => w * t i) c hc
    have e1 : cmb g (fun i => w * t i) B c = w * cmb g t B c := by
      unfold cmb; rw [← sm_mulL]; exact sm_congr (fun j _ => by grind)
    have e2 : sm (fun i => w * t i * dot W u (B i)) g = w * sm (fun i => t i * dot W u (B i)) g := by
      rw [← sm_mulL]; exact sm_congr (fun j _ => by grind)
    rw [e1, e2] at k
    have hx := ht c hc
    have e3 : cmb (g + 1) t B c = cmb g t B c + t g * B g c := rfl
    rw [e3] at hx
    generalize cmb g t B c = K at *
    generalize sm (fun i => t i * dot W u (B i)) g = T at *
    generalize dot W u (B g) = w0 at *
    exact z_of (z_sub (z_sub (z_add (z_sub hx k) (z_mulL (B g c * w) hd2)) (z_mulL K hw2)) (z_mulL (B g c * t g) hw2)) (by grind)
theorem Bs_none {p W k : Nat} {B : Nat → Nat → Int} {u : Nat → Int} {V : (Nat → Int) → Prop} (h : Bs p W k B V) (hz : ∀ i, i < k → dot W u (B i) % p = 0) : Bs p W k B (fun x => V x ∧ dot W u x % p = 0) := by
  obtain ⟨h1, h2, h3⟩ := h
  exact ⟨fun j hj => ⟨h1 j hj, hz j hj⟩, h2, fun x hx => h3 x hx.1⟩
theorem Bs_iff {p W k : Nat} {B : Nat → Nat → Int} {V V' : (Nat → Int) → Prop} (h : Bs p W k B V) (e : ∀ x, V x ↔ V' x) : Bs p W k B V' := by
  obtain ⟨h1, h2, h3⟩ := h
  exact ⟨fun j hj => (e _).mp (h1 j hj), h2, fun x hx => h3 x ((e x).mpr hx)⟩
/-- marks as rows -/
def mkM (p : Nat) (L : List Nat) (r i : Nat) : Int := mk p (L.getD r 0) i
theorem nul_Vm {p : Nat} {L : List Nat} {x : Nat → Int} : nul p L.length 6 (mkM p L) x ↔ Vm p L x := by
  constructor
  · intro h q hq
    obtain ⟨r, hr, e⟩ := List.getElem_of_mem hq
    have := h r hr
    rw [dot_rv] at this
    have e2 : mkM p L r = mk p q := by
      funext i; unfold mkM
      rw [List.getD_eq_getElem?_getD, List.getElem?_eq_getElem hr, e]; rfl
    rwa [e2] at this
  · intro h r hr
    rw [dot_rv]
    have e2 : mkM p L r = mk p (L[r]'hr) := by
      funext i; unfold mkM
      rw [List.getD_eq_getElem?_getD, List.getElem?_eq_getElem hr]; rfl
    rw [e2]
    exact h _ (List.getElem_mem hr)
/-- a row more -/
theorem nul_more {p n R q : Nat} {L : List Nat} {M' : Nat → Nat → Int} {x : Nat → Int} (hp : PR p) (hR : R = L.length) (h : RI p R 6 n 6 (mkM p L) M') : nul p (n + 1) 6 (fun r i => if r = n then mk p q i else M' r i) x ↔ Vm p L x ∧ dot 6 (mk p q) x % p = 0 := by
  subst hR
  obtain ⟨pc, q1, q2, q3, q4, -⟩ := RI_piv hp h
  have er : ∀ r, r < n → rv 6 (fun r i => if r = n then mk p q i else M' r i) x r = dot 6 (M' r) x := fun r hr => by
    unfold rv dot
    exact sm_congr (fun i _ => by dsimp only; rw [if_neg (by omega)])
  have en : rv 6 (fun r i => if r = n then mk p q i else M' r i) x n = dot 6 (mk p q) x := by
    unfold rv dot
    exact sm_congr (fun i _ => by dsimp only; rw [if_pos rfl])
  constructor
  · intro hn
    refine ⟨nul_Vm.mp (q4 x (fun r hr => ?_)), ?_⟩
    · rw [← er r hr]; exact hn r (by omega)
    · rw [← en]; exact hn n (by omega)
  · rintro ⟨h1, h2⟩ r hr
    by_cases c : r = n
    · rw [c, en]; exact h2
    · rw [er r (by omega)]; exact q3 x (nul_Vm.mpr h1) r (by omega)
/-- the one conic of a family -/
def One (p : Nat) (V : (Nat → Int) → Prop) (w : Nat → Int) : Prop := V w ∧ (∀ i, i < 6 → 0 ≤ w i ∧ w i < p) ∧ ∃ k, k < 6 ∧ w k = 1 ∧ ∀ j, j < k → w j = 0
theorem one_uni {p : Nat} {B : Nat → Nat → Int} {V : (Nat → Int) → Prop} {w w' : Nat → Int} (hp : PR p) (hB : Bs p 6 1 B V) (h : One p V w) (h' : One p V w') : ∀ i, i < 6 → w i = w' i := by
  obtain ⟨-, -, b3⟩ := hB
  obtain ⟨v1, v2, k, hk, k1, k2⟩ := h
  obtain ⟨u1, u2, l, hl, l1, l2⟩ := h'
  obtain ⟨t, ht⟩ := b3 w v1
  obtain ⟨s, hs⟩ := b3 w' u1
  have e1 : ∀ (r : Nat → Int) i, cmb 1 r B i = r 0 * B 0 i := fun r i => by
    show 0 + r 0 * B 0 i = _; omega
  have one := one_nz hp
  have X : ∀ i, i < 6 → (s 0 * w i - t 0 * w' i) % p = 0 := by
    intro i hi
    have a := ht i hi
    have b := hs i hi
    rw [e1] at a b
    exact z_of (z_sub (z_mulL (s 0) a) (z_mulL (t 0) b)) (by grind)
  have tn : t 0 % p ≠ 0 := fun z => by
    have a := ht k hk
    rw [e1, k1] at a
    exact one (z_of (z_add a (z_mulR (B 0 k) z)) (by grind))
  have sn : s 0 % p ≠ 0 := fun z => by
    have a := hs l hl
    rw [e1, l1] at a
    exact one (z_of (z_add a (z_mulR (B 0 l) z)) (by grind))
  have kl : k = l := by
    refine Classical.byContradiction fun q => ?_
    by_cases c : k < l
    · have a := X k hk
      rw [k1, l2 k c] at a
      exact sn (z_of a (by grind))
    · have a := X l hl
      rw [l1, k2 l (by omega)] at a
      exact tn (z_of (z_neg.mpr a) (by grind))
  subst kl
  have a := X k hk
  rw [k1, l1] at a
  have st : (s 0 - t 0) % p = 0 := z_of a (by grind)
  intro i hi
  refine eq_small (v2 i hi) (u2 i hi) ?_
  have b : (t 0 * (w i - w' i)) % p = 0 := z_of (z_sub (X i hi) (z_mulR (w i) st)) (by grind)
  exact (dvd_prime hp b).resolve_left tn
/-- where five rows of six stand, the free column -/
theorem rref5 {p R : Nat} {M M' : Nat → Nat → Int} (h : RI p R 6 5 6 M M') : ∃ f, f ≤ 5 ∧ (∀ j, j < f → M' j j = 1) ∧ (f < 5 → M' f f ≠ 1) ∧ (∀ k, k < 5 → ∀ j, j < 5 → M' k (if j < f then j else j + 1) = if k = j then 1 else 0) := by
  obtain ⟨g1, -, -, ⟨pc, g4, g5, g6, g7⟩, -⟩ := h
  have l0 := g4 0 (by omega); have l1 := g4 1 (by omega); have l2 := g4 2 (by omega); have l3 := g4 3 (by omega); have l4 := g4 4 (by omega)
  have m0 := g5 0 1 (by omega) (by omega); have m1 := g5 1 2 (by omega) (by omega); have m2 := g5 2 3 (by omega) (by omega); have m3 := g5 3 4 (by omega) (by omega)
  have F : ∃ f, f ≤ 5 ∧ ∀ j, j < 5 → pc j = if j < f then j else j + 1 := by
    have K : ∀ f, f ≤ 5 → (pc 0 = if 0 < f then 0 else 1) → (pc 1 = if 1 < f then 1 else 2) → (pc 2 = if 2 < f then 2 else 3) → (pc 3 = if 3 < f then 3 else 4) → (pc 4 = if 4 < f then 4 else 5) → ∃ f, f ≤ 5 ∧ ∀ j, j < 5 → pc j = if j < f then j else j + 1 := by
      intro f hf a0 a1 a2 a3 a4
      refine ⟨f, hf, fun j hj => ?_⟩
      have : j = 0 ∨ j = 1 ∨ j = 2 ∨ j = 3 ∨ j = 4 := by omega
      rcases this with rfl | rfl | rfl | rfl | rfl
      · exact a0
      · exact a1
      · exact a2
      · exact a3
      · exact a4
    by_cases c0 : pc 0 = 0
    · by_cases c1 : pc 1 = 1
      · by_cases c2 : pc 2 = 2
        · by_cases c3 : pc 3 = 3
          · by_cases c4 : pc 4 = 4
            · exact K 5 (by omega) (by simp; omega) (by simp; omega) (by simp; omega) (by simp; omega) (by simp; omega)
            · exact K 4 (by omega) (by simp; omega) (by simp; omega) (by simp; omega) (by simp; omega) (by simp; omega)
          · exact K 3 (by omega) (by simp; omega) (by simp; omega) (by simp; omega) (by simp; omega) (by simp; omega)
        · exact K 2 (by omega) (by simp; omega) (by simp; omega) (by simp; omega) (by simp; omega) (by simp; omega)
      · exact K 1 (by omega) (by simp; omega) (by simp; omega) (by simp; omega) (by simp; omega) (by simp; omega)
    · exact K 0 (by omega) (by simp; omega) (by simp; omega) (by simp; omega) (by simp; omega) (by simp; omega)
  obtain ⟨f, hf, hpc⟩ := F
  refine ⟨f, hf, fun j hj => ?_, fun hf5 => ?_, fun k hk j hj => ?_⟩
  · have := g6 j (by omega) j (by omega)
    rw [hpc j (by omega), if_pos hj, if_pos rfl] at this
    exact this
  · have := g7 f (by omega) f (by rw [hpc f hf5, if_neg (by omega)]; omega)
    omega
  · have := g6 k (by omega) j hj
    rwa [hpc j hj] at this
