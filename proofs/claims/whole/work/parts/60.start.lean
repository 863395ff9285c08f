theorem st_R {own tx : String} {k a : Nat} {A : Array Value} {U : State} (h1 : (Cond.stringRef own k tx).before A U = true) (h2 : (Term.string own k).eval A U none [] U = some (.ref a)) : vk_R own k tx a U := vk_R.of h1 h2
def σ0 : Sto := fun _ _ => 0
def ρ0 : Rho := fun _ _ => none
theorem arr_of {s : State} {args : Array Value} {ty : FieldType} (h : (Cond.arrayClass ty).before args s = true) (hp : ∀ C, ty ≠ .object C) (hp2 : ∀ n z cA kA comp, s.vm.classes[cA]? = some kA → kA.kind = .array comp ty → s.isArrayOf (arrV cA n z) ty) : ∃ cA, ArrOfT s cA ty ∧ va_RA s cA ty := by
  obtain ⟨cA, kA, comp, h1, h2, h3⟩ := Cond.arrayClass_spec h
  refine ⟨cA, fun n z => hp2 n z cA kA comp h2 h3, ?_⟩
  unfold va_RA
  cases ty with
  | object C => exact absurd rfl (hp C)
  | _ => exact h1
theorem arr_ofO {s : State} {args : Array Value} {C : String} (h : (Cond.arrayOver (.object C)).before args s = true) : ∃ cA, ArrOfT s cA (.object C) ∧ va_RA s cA (.object C) := by
  obtain ⟨comp, cA, kA, h1, h2, h3, h4, h5⟩ := Cond.arrayOver_spec h
  exact ⟨cA, fun N z => ⟨(fun k h => by cases h), kA, h3, comp, h4⟩, kA, comp, h3, h4, h1, h5⟩
set_option maxHeartbeats 4000000 in
set_option maxRecDepth 100000 in
theorem st_S {s : State} {args : Array Value} (hgv : (Jvm.Cond.and given_1 narrow_1).before args s = true) {A : Nat → Prop} (hA : ∀ a : Nat, a < s.heap.size → ¬ A a) : ∃ adK adV : Nat → Nat, vk_S stN stL stB adK adV A s s.heap ∧ ∀ i : Nat, i < stN → (Term.string RX7 (stK.getD i 0)).eval args s none [] s = some (.ref (adK i)) := by
  have hs := flat_of_before _ hgv
  refine vk_Sof (tm := fun i => Term.string RX7 (stK.getD i 0)) (by decide) ?_ ?_ ?_ ?_ ?_ ?_ hA
  · intro i hi
    match i, hi with
    | 0, _ => exact hs _ (by decide +kernel)
    | 1, _ => exact hs _ (by decide +kernel)
    | 2, _ => exact hs _ (by decide +kernel)
    | 3, _ => exact hs _ (by decide +kernel)
  · intro i hi
    match i, hi with
    | 0, _ => exact hs _ (by decide +kernel)
    | 1, _ => exact hs _ (by decide +kernel)
    | 2, _ => exact hs _ (by decide +kernel)
    | 3, _ => exact hs _ (by decide +kernel)
  · intro i hi
    match i, hi with
    | 0, _ => exact hs _ (by decide +kernel)
    | 1, _ => exact hs _ (by decide +kernel)
    | 2, _ => exact hs _ (by decide +kernel)
    | 3, _ => exact hs _ (by decide +kernel)
  · intro i hi
    match i, hi with
    | 0, _ => exact hs _ (by decide +kernel)
    | 1, _ => exact hs _ (by decide +kernel)
    | 2, _ => exact hs _ (by decide +kernel)
    | 3, _ => exact hs _ (by decide +kernel)
  · have key : ∀ i, i < 4 → ∀ j, j < stL.getD i 0 → (Cond.eq (.elem (.field (Term.string RX7 (stK.getD i 0)) "java/lang/String" "value" "[B") (.int (Int32.ofNat j))) (.int ((stB.getD i []).getD j 0))) ∈ flatC (Jvm.Cond.and given_1 narrow_1) := by decide +kernel
    exact fun i hi j hj => hs _ (key i hi j hj)
  · have key : ∀ i, i < 4 → ∀ j, j < 4 → i ≠ j → (Cond.not (Cond.eq (Term.string RX7 (stK.getD i 0)) (Term.string RX7 (stK.getD j 0)))) ∈ flatC (Jvm.Cond.and given_1 narrow_1) ∨ (Cond.not (Cond.eq (Term.string RX7 (stK.getD j 0)) (Term.string RX7 (stK.getD i 0)))) ∈ flatC (Jvm.Cond.and given_1 narrow_1) := by decide +kernel
    intro i j hi hj hne
    rcases key i hi j hj hne with h | h
    · exact Or.inl (hs _ h)
    · exact Or.inr (hs _ h)
set_option maxHeartbeats 4000000 in
set_option maxRecDepth 100000 in
theorem st_Gl {s : State} {a0 : Value} (hts : ∀ w ∈ lw_tbl, w.before #[a0] s = true) (hgv : (Jvm.Cond.and given_1 narrow_1).before #[a0] s = true) : ∃ adK adV : Nat → Nat, Gl s.heap.size adK adV s s.heap := by
  have hs := flat_of_before _ hgv
  have hA : ∀ a : Nat, a < s.heap.size → ¬ (fun q => s.heap.size ≤ q) a := fun a h => Nat.not_le.mpr h
  obtain ⟨adK, adV, hS, hev⟩ := st_S hgv hA
  refine ⟨adK, adV, ?_, ?_, ?_, hS, ?_, ?_, ?_⟩
  · obtain ⟨t, ht, hT⟩ := va_Tof (tm := Term.static RX11 "PRIMES" "[I") (N := 8) (f := prF) (ty := .int) (by decide) (hs _ (by decide +kernel)) (va_eqt (hs (Cond.eq (.length (Term.static RX11 "PRIMES" "[I")) (.int 8)) (by decide +kernel))) (fun j hj => by
      have key : ∀ j, j < 8 → (Cond.eq (.elem (Term.static RX11 "PRIMES" "[I") (.int (Int32.ofNat j))) (.int (([3, 5, 7, 11, 13, 17, 19, 23] : List Int32).getD j 0))) ∈ flatC (Jvm.Cond.and given_1 narrow_1) := by decide +kernel
      exact va_eqt (hs _ (key j hj))) hA
    exact ⟨t, va_Zof (hts (.laysStatic RX11 "PRIMES" "[I") (List.mem_of_getElem? (i := 546) (by decide +kernel))) (hts (.initialized RX11) (List.mem_of_getElem? (i := 92) (by decide +kernel))) ht hA, hT⟩
  · exact va_Zof (hts (.laysStatic RJ0 "COMPACT_STRINGS" "Z") (List.mem_of_getElem? (i := 492) (by decide +kernel))) (hts (.initialized RJ0) (List.mem_of_getElem? (i := 104) (by decide +kernel))) (va_eqi (hs (Cond.eq (.static RJ0 "COMPACT_STRINGS" "Z") (.int 1)) (by decide +kernel))) hA
  · exact va_Zqof (hts (.laysStatic RJ3 "SIOOBE_FORMATTER" "Ljava/util/function/BiFunction;") (List.mem_of_getElem? (i := 508) (by decide +kernel))) (hts (.initialized RJ3) (List.mem_of_getElem? (i := 106) (by decide +kernel))) (hs _ (by decide +kernel)) hA
  · intro i hi
    have h1 : (Cond.stringRef RX7 (stK.getD i 0) (stT.getD i "")).before #[a0] s = true := by
      match i, hi with
      | 0, _ => exact hts (.stringRef RX7 79 "prime") (List.mem_of_getElem? (i := 478) (by decide +kernel))
      | 1, _ => exact hts (.stringRef RX7 85 "point") (List.mem_of_getElem? (i := 531) (by decide +kernel))
      | 2, _ => exact hts (.stringRef RX7 87 "conic") (List.mem_of_getElem? (i := 532) (by decide +kernel))
      | 3, _ => exact hts (.stringRef RX7 89 "pair") (List.mem_of_getElem? (i := 533) (by decide +kernel))
    exact st_R h1 (hev i hi)
  · intro q hq
    obtain ⟨w, hw, hm⟩ := List.mem_filterMap.mp hq
    have hb := hts w hw
    cases w <;> simp at hm
    subst hm
    exact va_Nw.of rfl hb
  · intro C hC
    have h3 : C = RX0 ∨ C = RX8 ∨ C = RX4 := by simpa using hC
    rcases h3 with rfl | rfl | rfl
    · exact va_AO.of (A := #[a0]) (hts (.arrayOver (.object RX0)) (List.mem_of_getElem? (i := 359) (by decide +kernel)))
    · exact va_AO.of (A := #[a0]) (hts (.arrayOver (.object RX8)) (List.mem_of_getElem? (i := 203) (by decide +kernel)))
    · exact va_AO.of (A := #[a0]) (hts (.arrayOver (.object RX4)) (List.mem_of_getElem? (i := 216) (by decide +kernel)))
set_option maxHeartbeats 4000000 in
set_option maxRecDepth 100000 in
theorem st_K {s : State} {a0 : Value} (hts : ∀ w ∈ lw_tbl, w.before #[a0] s = true) : ∃ (D : va_G) (dA : Nat → ClassId), va_K D vwCl (tyL dA) s := by
  have htg : ∀ w ∈ lw_g, w.before #[a0] s = true := fun w hw => hts w (List.mem_filter.mp hw).1
  obtain ⟨c0, s0, K0⟩ := u_known (C := RX0) (T := TX0) (N := 2) (n := 2) htg iX0 (hts (.instantiable RX0 2) (List.mem_of_getElem? (i := 314) (by decide +kernel)))
  obtain ⟨c1, s1, K1⟩ := u_known (C := RX1) (T := TX1) (N := 3) (n := 3) htg iX1 (hts (.instantiable RX1 3) (List.mem_of_getElem? (i := 353) (by decide +kernel)))
  obtain ⟨c2, s2, K2⟩ := u_known (C := RX3) (T := TX3) (N := 6) (n := 6) htg iX3 (hts (.instantiable RX3 6) (List.mem_of_getElem? (i := 226) (by decide +kernel)))
  obtain ⟨c3, s3, K3⟩ := u_known (C := RX4) (T := TX4) (N := 6) (n := 6) htg iX4 (hts (.instantiable RX4 6) (List.mem_of_getElem? (i := 120) (by decide +kernel)))
  obtain ⟨c4, s4, K4⟩ := u_known (C := RX5) (T := TX5) (N := 3) (n := 3) htg iX5 (hts (.instantiable RX5 3) (List.mem_of_getElem? (i := 197) (by decide +kernel)))
  obtain ⟨c5, s5, K5⟩ := u_known (C := RX6) (T := TX6) (N := 5) (n := 5) htg iX6 (hts (.instantiable RX6 5) (List.mem_of_getElem? (i := 308) (by decide +kernel)))
  obtain ⟨c6, s6, K6⟩ := u_known (C := RX7) (T := TX7) (N := 9) (n := 9) htg iX7 (hts (.instantiable RX7 9) (List.mem_of_getElem? (i := 218) (by decide +kernel)))
  obtain ⟨c7, s7, K7⟩ := u_known (C := RX8) (T := TX8) (N := 4) (n := 4) htg iX8 (hts (.instantiable RX8 4) (List.mem_of_getElem? (i := 126) (by decide +kernel)))
  obtain ⟨c8, s8, K8⟩ := u_known (C := RX9) (T := TX9) (N := 2) (n := 2) htg iX9 (hts (.instantiable RX9 2) (List.mem_of_getElem? (i := 157) (by decide +kernel)))
  obtain ⟨c9, s9, K9⟩ := u_known (C := RX10) (T := TX10) (N := 3) (n := 3) htg iX10 (hts (.instantiable RX10 3) (List.mem_of_getElem? (i := 258) (by decide +kernel)))
  obtain ⟨c10, s10, K10⟩ := u_known (C := RX11) (T := TX11) (N := 14) (n := 14) htg iX11 (hts (.instantiable RX11 14) (List.mem_of_getElem? (i := 112) (by decide +kernel)))
  obtain ⟨c11, s11, K11⟩ := u_known (C := RX12) (T := TX12) (N := 20) (n := 20) htg iX12 (hts (.instantiable RX12 20) (List.mem_of_getElem? (i := 1073) (by decide +kernel)))
  obtain ⟨a1, A1, B1⟩ := arr_of (ty := .int) (hts _ (List.mem_of_getElem? (i := 155) (by decide +kernel))) (fun C h => by cases h) (fun n z cA kA comp h2 h3 => ⟨fun k h => (by cases h), kA, h2, comp, h3⟩)
  obtain ⟨a2, A2, B2⟩ := arr_of (ty := .byte) (hts _ (List.mem_of_getElem? (i := 170) (by decide +kernel))) (fun C h => by cases h) (fun n z cA kA comp h2 h3 => ⟨fun k h => (by cases h), kA, h2, comp, h3⟩)
  obtain ⟨a3, A3, B3⟩ := arr_of (ty := .boolean) (hts _ (List.mem_of_getElem? (i := 256) (by decide +kernel))) (fun C h => by cases h) (fun n z cA kA comp h2 h3 => ⟨fun k h => (by cases h), kA, h2, comp, h3⟩)
  obtain ⟨a4, A4, B4⟩ := arr_ofO (C := RX0) (hts (.arrayOver (.object RX0)) (List.mem_of_getElem? (i := 359) (by decide +kernel)))
  obtain ⟨a5, A5, B5⟩ := arr_ofO (C := RX8) (hts (.arrayOver (.object RX8)) (List.mem_of_getElem? (i := 203) (by decide +kernel)))
  obtain ⟨a6, A6, B6⟩ := arr_ofO (C := RX4) (hts (.arrayOver (.object RX4)) (List.mem_of_getElem? (i := 216) (by decide +kernel)))
  refine ⟨(fun k => [c0, c1, c2, c3, c4, c5, c6, c7, c8, c9, c10, c11].getD k c0, fun k => [s0, s1, s2, s3, s4, s5, s6, s7, s8, s9, s10, s11].getD k s0), fun t => [a1, a2, a3, a4, a5, a6].getD (t - 20) a1, ?_, ?_⟩
  · intro k q hq
    match k, hq with
    | 0, hq => cases hq; exact K0
    | 1, hq => cases hq; exact K1
    | 2, hq => cases hq; exact K2
    | 3, hq => cases hq; exact K3
    | 4, hq => cases hq; exact K4
    | 5, hq => cases hq; exact K5
    | 6, hq => cases hq; exact K6
    | 7, hq => cases hq; exact K7
    | 8, hq => cases hq; exact K8
    | 9, hq => cases hq; exact K9
    | 10, hq => cases hq; exact K10
    | 11, hq => cases hq; exact K11
    | k + 12, hq => simp [vwCl] at hq
  · intro k q hq
    match k, hq with
    | 0, hq => cases hq; exact ⟨A1, B1⟩
    | 1, hq => cases hq; exact ⟨A2, B2⟩
    | 2, hq => cases hq; exact ⟨A3, B3⟩
    | 3, hq => cases hq; exact ⟨A4, B4⟩
    | 4, hq => cases hq; exact ⟨A5, B5⟩
    | 5, hq => cases hq; exact ⟨A6, B6⟩
    | k + 6, hq => simp [tyL] at hq
