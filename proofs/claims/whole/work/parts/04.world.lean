/-! THE WORLD: every cell that the class and the reference make has a number k (in the order of its making) and lies at b + k; what it holds is told by two functions: σ (numbers) and ρ (references, by cell numbers). -/
abbrev Sto : Type := Nat → Nat → Int32
abbrev Rho : Type := Nat → Nat → Option Nat
/-- kinds: a class by its place in vwCl; 20 int[], 21 byte[], 22 boolean[], 23 Curve[], 24 Sheet[], 25 Moment[] -/
def kdSheet : List Nat := [7, 20, 20]
def kdMoment : List Nat := [3, 7, 20, 20, 8, 21]
def kdL : List Nat := [10] ++ kdMoment ++ ([4, 24] ++ (kdSheet ++ kdSheet ++ kdSheet ++ kdSheet ++ kdSheet ++ kdSheet ++ kdSheet ++ kdSheet)) ++ ([25] ++ kdMoment ++ kdMoment ++ kdMoment) ++ [22] ++ ([6] ++ kdSheet ++ [2, 9]) ++ ([5, 0, 2, 0, 2, 0, 2, 9, 9]) ++ ([1, 23, 9, 0, 2, 0, 2, 0, 2, 0, 2, 0, 2, 0, 2]) ++ [0, 2, 0, 2, 2, 2, 9, 9, 9] ++ [11, 20, 20, 22, 20, 20, 20, 20]
def lnSheet : List Nat := [0, 8, 36]
def lnMoment : List Nat := [0, 0, 8, 36, 0, 500]
def lnL : List Nat := [0] ++ lnMoment ++ ([0, 8] ++ (lnSheet ++ lnSheet ++ lnSheet ++ lnSheet ++ lnSheet ++ lnSheet ++ lnSheet ++ lnSheet)) ++ ([3] ++ lnMoment ++ lnMoment ++ lnMoment) ++ [3] ++ ([0] ++ lnSheet ++ [0, 0]) ++ ([0, 0, 0, 0, 0, 0, 0, 0, 0]) ++ ([0, 6, 0, 0, 0, 0, 0, 0, 0, 0, 0, 0, 0, 0, 0]) ++ [0, 0, 0, 0, 0, 0, 0, 0, 0] ++ [0, 2115, 500, 3, 6, 48, 6, 6]
def kd (k : Nat) : Nat := kdL.getD k 99
def ln (k : Nat) : Nat := lnL.getD k 0
/-- fields: 0 a number, 1 a reference, 2 a long -/
def fkL : List (List Nat) := [[1, 0], [1, 1, 0], [0, 0, 0, 0, 0, 0], [1, 1, 0, 0, 0, 0], [1, 0, 0], [1, 1, 1, 1, 1], [1, 0, 0, 1, 1, 0, 0, 0, 0], [0, 0, 1, 1], [1, 0], [0, 0, 0], [1, 1, 1, 1, 1, 1, 1, 1, 1, 1, 1, 1, 1, 1], [1, 1, 1, 0, 0, 0, 0, 0, 0, 0, 0, 1, 1, 1, 0, 0, 0, 0, 2, 1]]
def nF (ci : Nat) : Nat := (fkL.getD ci []).length
def fK (ci i : Nat) : Nat := (fkL.getD ci []).getD i 0
/-- what a reference's field, or an array of references, leads to -/
def ftL : List (List Nat) := [[2], [23, 9], [], [7, 8], [24], [0, 0, 0, 9, 9], [7, 99, 99, 2, 9], [99, 99, 20, 20], [21], [], [3, 4, 25, 22, 6, 5, 1, 0, 0, 2, 2, 9, 9, 9], [20, 20, 22, 99, 99, 99, 99, 99, 99, 99, 99, 20, 20, 20, 99, 99, 99, 99, 99, 20]]
def fT (kk i : Nat) : Nat := if kk < 20 then (ftL.getD kk []).getD i 99 else if kk = 23 then 0 else if kk = 24 then 7 else if kk = 25 then 3 else 99
def atL : List FieldType := [.int, .byte, .boolean, .object RX0, .object RX8, .object RX4]
def jn (lo hi : Int32) : Int64 := Int64.ofBitVec (hi.toBitVec ++ lo.toBitVec)
def jlo (v : Int64) : Int32 := Int32.ofBitVec (v.toBitVec.setWidth 32)
def jhi (v : Int64) : Int32 := Int32.ofBitVec ((v.toBitVec >>> 32).setWidth 32)
theorem jn_jlo (v : Int64) : jn (jlo v) (jhi v) = v := by
  apply Int64.toBitVec_inj.mp
  show ((v.toBitVec >>> 32).setWidth 32 ++ v.toBitVec.setWidth 32 : BitVec 64) = v.toBitVec
  apply BitVec.eq_of_getLsbD_eq
  intro i hi
  rw [BitVec.getLsbD_append]
  by_cases h : i < 32
  · simp [h]
  · simp only [h, if_false, BitVec.getLsbD_setWidth, BitVec.getLsbD_ushiftRight]
    have h1 : i - 32 < 32 := by omega
    have h2 : 32 + (i - 32) = i := by omega
    simp [h1, h2]
def fv (b : Nat) (σ : Sto) (ρ : Rho) (t k i : Nat) : Value := if t = 0 then .int (σ k i) else if t = 1 then va_rf ((ρ k i).map (fun j => b + j)) else .long (jn (σ k i) (σ k (i + 1000)))
def fl (b : Nat) (σ : Sto) (ρ : Rho) (ci k : Nat) : List Value := (List.range (nF ci)).map (fun i => fv b σ ρ (fK ci i) k i)
def cE (dA : Nat → ClassId) (b : Nat) (σ : Sto) (ρ : Rho) (k : Nat) : va_E :=
  if kd k < 20 then .inr (kd k, fl b σ ρ (kd k) k)
  else if kd k < 23 then .inl (dA (kd k), (ln k, .inl (σ k)))
  else .inl (dA (kd k), (ln k, .inr (.inr (.inr (.inr (fun i => (ρ k i).map (fun j => b + j)))))))
def wL (dA : Nat → ClassId) (b n : Nat) (σ : Sto) (ρ : Rho) : va_W := (List.range n).map (fun k => (b + k, cE dA b σ ρ k))
def tyL (dA : Nat → ClassId) : List (ClassId × FieldType) := [(dA 20, .int), (dA 21, .byte), (dA 22, .boolean), (dA 23, .object RX0), (dA 24, .object RX8), (dA 25, .object RX4)]
def Ty (n : Nat) (ρ : Rho) : Prop := ∀ k, k < n → ∀ i j, ρ k i = some j → j < n ∧ kd j = fT (kd k) i
def Fb (σ : Sto) : Prop := ∀ k, kd k = 21 → ∀ i, fits .byte (.int (σ k i)) = true
def Wd (D : va_G) (dA : Nat → ClassId) (b n : Nat) (σ : Sto) (ρ : Rho) (H : Heap) : Prop := va_P D vwCl (wL dA b n σ ρ) H ∧ Ty n ρ ∧ Fb σ
def su (σ : Sto) (k i : Nat) (v : Int32) : Sto := fun k' i' => if k' = k ∧ i' = i then v else σ k' i'
def ru (ρ : Rho) (k i : Nat) (v : Option Nat) : Rho := fun k' i' => if k' = k ∧ i' = i then v else ρ k' i'
def Sh (n k t : Nat) : Prop := k < n ∧ kd k = t
theorem wL_get {dA b n σ ρ k} (h : k < n) : (wL dA b n σ ρ)[k]? = some (b + k, cE dA b σ ρ k) := by
  simp [wL, List.getElem?_map, List.getElem?_range h]
theorem wL_D {dA b n σ ρ} {A : Nat → Prop} (hA : ∀ q, b ≤ q → A q) : va_D A (wL dA b n σ ρ) := by
  have key : ∀ (i : Nat) (p : Nat × va_E), (wL dA b n σ ρ)[i]? = some p → p.1 = b + i := by
    intro i p h
    simp only [wL, List.getElem?_map] at h
    cases hi : (List.range n)[i]? with
    | none => rw [hi] at h; cases h
    | some q =>
      rw [hi] at h
      have hq := List.getElem?_eq_some_iff.mp hi
      obtain ⟨hl, he⟩ := hq
      simp at he
      subst he
      cases h
      rfl
  refine ⟨fun i j p q hp hq e => ?_, fun k q hq => hA _ ?_⟩
  · rw [key i p hp, key j q hq] at e; omega
  · rw [key k q hq]; omega
theorem cE_ne_of {dA b σ ρ k σ' ρ'} (hs : ∀ i, σ' k i = σ k i) (hr : ∀ i, ρ' k i = ρ k i) : cE dA b σ' ρ' k = cE dA b σ ρ k := by
  have e1 : σ' k = σ k := funext hs
  unfold cE
  by_cases h1 : kd k < 20
  · rw [if_pos h1, if_pos h1]
    unfold fl fv
    simp only [hs, hr]
  · rw [if_neg h1, if_neg h1]
    by_cases h2 : kd k < 23
    · rw [if_pos h2, if_pos h2, e1]
    · rw [if_neg h2, if_neg h2]
      simp only [hr]
theorem wL_set {dA b n σ ρ k σ' ρ' e} (h : k < n) (ho : ∀ k', k' ≠ k → (∀ i, σ' k' i = σ k' i) ∧ ∀ i, ρ' k' i = ρ k' i) (he : e = cE dA b σ' ρ' k) : (wL dA b n σ ρ).set k (b + k, e) = wL dA b n σ' ρ' := by
  subst he
  apply List.ext_getElem?
  intro i
  rw [List.getElem?_set]
  by_cases hi : k = i
  · subst hi
    rw [if_pos rfl, wL_get h]
    simp [wL, h]
  · rw [if_neg hi]
    by_cases hn : i < n
    · rw [wL_get hn, wL_get hn, cE_ne_of (ho i (fun q => hi q.symm)).1 (ho i (fun q => hi q.symm)).2]
    · have l1 : (wL dA b n σ ρ).length ≤ i := by simp [wL]; omega
      have l2 : (wL dA b n σ' ρ').length ≤ i := by simp [wL]; omega
      rw [List.getElem?_eq_none l1, List.getElem?_eq_none l2]
theorem cE_obj {dA b σ ρ k ci} (h : kd k = ci) (hc : ci < 20) : cE dA b σ ρ k = .inr (ci, fl b σ ρ ci k) := by
  subst h; unfold cE; rw [if_pos hc]
theorem cE_num {dA b σ ρ k t} (h : kd k = t) (h1 : ¬ t < 20) (h2 : t < 23) : cE dA b σ ρ k = .inl (dA t, (ln k, .inl (σ k))) := by
  subst h; unfold cE; rw [if_neg h1, if_pos h2]
theorem cE_ref {dA b σ ρ k t} (h : kd k = t) (h2 : ¬ t < 23) : cE dA b σ ρ k = .inl (dA t, (ln k, .inr (.inr (.inr (.inr (fun i => (ρ k i).map (fun j => b + j))))))) := by
  subst h; unfold cE; rw [if_neg (by omega), if_neg h2]
theorem fl_get {b σ ρ ci k i} (h : i < nF ci) : (fl b σ ρ ci k)[i]? = some (fv b σ ρ (fK ci i) k i) := by
  simp [fl, List.getElem?_map, List.getElem?_range h]
theorem fl_len {b σ ρ ci k} : (fl b σ ρ ci k).length = nF ci := by simp [fl]
theorem fl_set {b σ ρ ci k i v σ' ρ'} (h : i < nF ci) (ho : ∀ i', i' < nF ci → i' ≠ i → fv b σ' ρ' (fK ci i') k i' = fv b σ ρ (fK ci i') k i') (hv : v = fv b σ' ρ' (fK ci i) k i) : (fl b σ ρ ci k).set i v = fl b σ' ρ' ci k := by
  subst hv
  apply List.ext_getElem?
  intro j
  rw [List.getElem?_set]
  by_cases hj : i = j
  · subst hj
    rw [if_pos rfl, fl_get h]
    simp [fl_len, h]
  · rw [if_neg hj]
    by_cases hn : j < nF ci
    · rw [fl_get hn, fl_get hn, ho j hn (fun q => hj q.symm)]
    · rw [List.getElem?_eq_none (by rw [fl_len]; omega), List.getElem?_eq_none (by rw [fl_len]; omega)]
theorem su_s {σ k i v} : su σ k i v k i = v := by simp [su]
theorem su_n {σ : Sto} {k i v k' i'} (h : k' ≠ k ∨ i' ≠ i) : su σ k i v k' i' = σ k' i' := by
  unfold su
  rw [if_neg]
  rintro ⟨a, c⟩
  rcases h with h | h
  · exact h a
  · exact h c
theorem ru_s {ρ k i v} : ru ρ k i v k i = v := by simp [ru]
theorem ru_n {ρ : Rho} {k i v k' i'} (h : k' ≠ k ∨ i' ≠ i) : ru ρ k i v k' i' = ρ k' i' := by
  unfold ru
  rw [if_neg]
  rintro ⟨a, c⟩
  rcases h with h | h
  · exact h a
  · exact h c
theorem su_upd {σ : Sto} {k i v} : su σ k i v k = upd (σ k) i v := by
  funext j
  unfold su upd
  by_cases h : j = i
  · rw [if_pos ⟨rfl, h⟩, if_pos h]
  · rw [if_neg (fun q => h q.2), if_neg h]
/-- the statics that the class reads: PRIMES -/
def prF (j : Nat) : Value := .int (([3, 5, 7, 11, 13, 17, 19, 23] : List Int32).getD j 0)
/-- literals of ConicDesk$Reader: constant pool entries 79, 85, 87, 89 -/
def stN : Nat := 4
def stK : List Nat := [79, 85, 87, 89]
def stT : List String := ["prime", "point", "conic", "pair"]
def stL : List Nat := [5, 5, 5, 4]
def stB : List (List Int32) := [[112, 114, 105, 109, 101], [112, 111, 105, 110, 116], [99, 111, 110, 105, 99], [112, 97, 105, 114]]
/-- the words that stay through any warming -/
def lw_g : List Cond := lw_tbl.filter goodWord
theorem lw_m {w : Cond} (i : Nat) (h : lw_tbl[i]? = some w) (hg : goodWord w = true) : w ∈ lw_g := List.mem_filter.mpr ⟨List.mem_of_getElem? h, hg⟩
def nestL : List (String × Nat × MethodName × String) := lw_tbl.filterMap (fun w => match w with | .methodLinkNest a i x h => some (a, i, x, h) | _ => none)
theorem nest_m {a h : String} {k : Nat} {x : MethodName} (i : Nat) (e : lw_tbl[i]? = some (.methodLinkNest a k x h)) : (a, k, x, h) ∈ nestL := List.mem_filterMap.mpr ⟨_, List.mem_of_getElem? e, rfl⟩
def Gl (b : Nat) (adK adV : Nat → Nat) (U : State) (H : Heap) : Prop :=
  (∃ t : Nat, va_Z RX11 "PRIMES" "[I" (.ref t) (fun q => b ≤ q) U H ∧ va_T .int t 8 prF (fun q => b ≤ q) U H) ∧ va_Z RJ0 "COMPACT_STRINGS" "Z" (.int 1) (fun q => b ≤ q) U H ∧ va_Zq RJ3 "SIOOBE_FORMATTER" "Ljava/util/function/BiFunction;" (fun q => b ≤ q) U H ∧ vk_S stN stL stB adK adV (fun q => b ≤ q) U H ∧ (∀ i, i < stN → vk_R RX7 (stK.getD i 0) (stT.getD i "") (adK i) U) ∧ (∀ q ∈ nestL, va_Nw (.methodLinkNest q.1 q.2.1 q.2.2.1 q.2.2.2) U) ∧ ∀ C ∈ [RX0, RX8, RX4], va_AO C U
theorem Gl.kept {b adK adV U H H1} (h : Gl b adK adV U H) (hq : ∀ a : Nat, a < H.size → ¬ (b ≤ a) → H1[a]? = H[a]?) : Gl b adK adV U H1 := by
  obtain ⟨⟨t, h1, h2⟩, h3, h4, h5, h6⟩ := h
  exact ⟨⟨t, h1.kept hq, h2.kept hq⟩, h3.kept hq, h4.kept hq, h5.kept hq, h6⟩
theorem Gl.warm {b adK adV} {s U : State} {H} (hW : s.WarmedH U.vm) (h : Gl b adK adV s H) : Gl b adK adV U H := by
  obtain ⟨⟨t, h1, h2⟩, h3, h4, h5, h6, h7, h8⟩ := h
  exact ⟨⟨t, va_Z.moved hW.alike h1, va_T.moved hW.alike h2⟩, va_Z.moved hW.alike h3, va_Zq.moved hW.alike h4, vk_S.moved hW.alike h5, fun i hi => vk_R.warm hW (h6 i hi), fun q hq => va_Nw.warmM hW (h7 q hq), fun C hC => va_AO.moved hW.alike (h8 C hC)⟩
theorem Gl.same {b adK adV} {u U : State} {H} (hv : U.vm = u.vm) (h : Gl b adK adV u H) : Gl b adK adV U H := by
  have hA : u.vm.Alike U.vm := by rw [hv]; exact Vm.Alike.refl _
  obtain ⟨⟨t, h1, h2⟩, h3, h4, h5, h6, h7, h8⟩ := h
  exact ⟨⟨t, va_Z.moved hA h1, va_T.moved hA h2⟩, va_Z.moved hA h3, va_Zq.moved hA h4, vk_S.moved hA h5, fun i hi => vk_R.same hv (h6 i hi), fun q hq => va_Nw.same rfl hv.symm (h7 q hq), fun C hC => va_AO.moved hA (h8 C hC)⟩
