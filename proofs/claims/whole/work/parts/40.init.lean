theorem dfX0 : ∀ k, k < 2 → defaultValue (tyX0 k) = dfV (fK 0 k) := by
  intro k hk
  rcases (show k = 0 ∨ k = 1 by omega) with rfl | rfl <;> rfl
theorem dfX1 : ∀ k, k < 3 → defaultValue (tyX1 k) = dfV (fK 1 k) := by
  intro k hk
  rcases (show k = 0 ∨ k = 1 ∨ k = 2 by omega) with rfl | rfl | rfl <;> rfl
theorem dfX3 : ∀ k, k < 6 → defaultValue (tyX3 k) = dfV (fK 2 k) := by
  intro k hk
  rcases (show k = 0 ∨ k = 1 ∨ k = 2 ∨ k = 3 ∨ k = 4 ∨ k = 5 by omega) with rfl | rfl | rfl | rfl | rfl | rfl <;> rfl
theorem dfX4 : ∀ k, k < 6 → defaultValue (tyX4 k) = dfV (fK 3 k) := by
  intro k hk
  rcases (show k = 0 ∨ k = 1 ∨ k = 2 ∨ k = 3 ∨ k = 4 ∨ k = 5 by omega) with rfl | rfl | rfl | rfl | rfl | rfl <;> rfl
theorem dfX5 : ∀ k, k < 3 → defaultValue (tyX5 k) = dfV (fK 4 k) := by
  intro k hk
  rcases (show k = 0 ∨ k = 1 ∨ k = 2 by omega) with rfl | rfl | rfl <;> rfl
theorem dfX6 : ∀ k, k < 5 → defaultValue (tyX6 k) = dfV (fK 5 k) := by
  intro k hk
  rcases (show k = 0 ∨ k = 1 ∨ k = 2 ∨ k = 3 ∨ k = 4 by omega) with rfl | rfl | rfl | rfl | rfl <;> rfl
theorem dfX7 : ∀ k, k < 9 → defaultValue (tyX7 k) = dfV (fK 6 k) := by
  intro k hk
  rcases (show k = 0 ∨ k = 1 ∨ k = 2 ∨ k = 3 ∨ k = 4 ∨ k = 5 ∨ k = 6 ∨ k = 7 ∨ k = 8 by omega) with rfl | rfl | rfl | rfl | rfl | rfl | rfl | rfl | rfl <;> rfl
theorem dfX8 : ∀ k, k < 4 → defaultValue (tyX8 k) = dfV (fK 7 k) := by
  intro k hk
  rcases (show k = 0 ∨ k = 1 ∨ k = 2 ∨ k = 3 by omega) with rfl | rfl | rfl | rfl <;> rfl
theorem dfX9 : ∀ k, k < 2 → defaultValue (tyX9 k) = dfV (fK 8 k) := by
  intro k hk
  rcases (show k = 0 ∨ k = 1 by omega) with rfl | rfl <;> rfl
theorem dfX10 : ∀ k, k < 3 → defaultValue (tyX10 k) = dfV (fK 9 k) := by
  intro k hk
  rcases (show k = 0 ∨ k = 1 ∨ k = 2 by omega) with rfl | rfl | rfl <;> rfl
theorem dfX11 : ∀ k, k < 14 → defaultValue (tyX11 k) = dfV (fK 10 k) := by
  intro k hk
  rcases (show k = 0 ∨ k = 1 ∨ k = 2 ∨ k = 3 ∨ k = 4 ∨ k = 5 ∨ k = 6 ∨ k = 7 ∨ k = 8 ∨ k = 9 ∨ k = 10 ∨ k = 11 ∨ k = 12 ∨ k = 13 by omega) with rfl | rfl | rfl | rfl | rfl | rfl | rfl | rfl | rfl | rfl | rfl | rfl | rfl | rfl <;> rfl
theorem dfX12 : ∀ k, k < 20 → defaultValue (tyX12 k) = dfV (fK 11 k) := by
  intro k hk
  rcases (show k = 0 ∨ k = 1 ∨ k = 2 ∨ k = 3 ∨ k = 4 ∨ k = 5 ∨ k = 6 ∨ k = 7 ∨ k = 8 ∨ k = 9 ∨ k = 10 ∨ k = 11 ∨ k = 12 ∨ k = 13 ∨ k = 14 ∨ k = 15 ∨ k = 16 ∨ k = 17 ∨ k = 18 ∨ k = 19 by omega) with rfl | rfl | rfl | rfl | rfl | rfl | rfl | rfl | rfl | rfl | rfl | rfl | rfl | rfl | rfl | rfl | rfl | rfl | rfl | rfl <;> rfl
def MX0_init (n : Nat) (σ : Sto) (ρ : Rho) (a0 : Nat) : Option (Sto × Rho) :=
  nw 2 n σ ρ fun σ1 ρ2 =>
  Option.bind (MX3_init n) fun c4 =>
  bn (ru ρ2 a0 0 (some n)) fun ρ5 =>
  bn (su σ1 a0 1 ((7 : Int32))) fun σ6 =>
  some (σ6, ρ5)
set_option maxHeartbeats 4000000 in
set_option maxRecDepth 100000 in
theorem c_X0_init (E : EX) {n : Nat} {σ : Sto} {ρ : Rho} (a0 : Nat) (h0 : Sh n a0 0) (res : Sto × Rho) (hM : MX0_init n σ ρ a0 = some res) : CTv E yX0_init cX0_init 1 2 1 6 [.ref (eb E + a0)] n σ ρ res.1 res.2 := by
  refine ct_v (by decide +kernel) (Nat.le_of_ble_eq_true rfl) (fun X hE hml hin hRm hC hR => ?_)
  subst hE
  show G X 0 0 n σ ρ 0 [(0, vr X a0)] []
  replace hC : Cx X cX0_init RX0 2 := hC
  unfold MX0_init at hM
  refine g_aload_n hC dX0_init_0 rfl 0 rfl ?_
  refine g_objInit hC k_318 k_117 k_118 (by decide) dX0_init_1 rfl (Nat.le_of_ble_eq_true rfl) ?_
  refine g_aload_n hC dX0_init_4 rfl 0 rfl ?_
  refine g_new (ci := 2) (N := 6) (T := TX3) (ty := tyX3) hC (by decide) rfl rfl iX3 tyX3_ok dfX3 k_319 k_226 k_98 ⟨by rw [hRm.1]; exact (Nat.le_of_ble_eq_true rfl), by rw [hRm.2]; exact (Nat.le_of_ble_eq_true rfl)⟩ dX0_init_5 rfl hM (fun σ1 ρ2 hq3 hM => ?_)
  have h0 := sh_up h0
  refine g_dup hC dX0_init_8 rfl rfl ?_
  refine g_callINv (As := []) (st' := [vr X n, vr X a0]) (k := n) (mc := 0) (ms := 0) (L' := 1) hC Y_X3_init ⟨rfl, k_228⟩ k_320 ⟨by decide, by decide⟩ dX0_init_9 rfl rfl rfl (Nat.le_of_ble_eq_true rfl) ⟨by rw [hRm.1]; exact (Nat.le_of_ble_eq_true rfl), by rw [hRm.2]; exact (Nat.le_of_ble_eq_true rfl)⟩ hM (fun c hc => c_X3_init (xE X) n hq3 c hc) (fun c4 hM => ?_)
  refine fp_0_0 (own := "") hC hin h0 hq3 k_321 dX0_init_12 rfl hM (fun ρ5 hM => ?_)
  refine g_aload_n hC dX0_init_15 rfl 0 rfl ?_
  refine g_bipush (v := 7) hC dX0_init_16 rfl ib_7 ?_
  refine fp_0_1 hC h0 k_325 dX0_init_18 rfl hM (fun σ6 hM => ?_)
  cases hM
  exact g_retv hR dX0_init_21 rfl
def MX1_init (n : Nat) (σ : Sto) (ρ : Rho) (a0 : Nat) : Option (Sto × Rho) :=
  nwa 23 n (6 : Int32) σ ρ fun σ1 ρ2 =>
  bn (ru ρ2 a0 0 (some n)) fun ρ4 =>
  nw 9 (n + 1) σ1 ρ4 fun σ5 ρ6 =>
  Option.bind (MX10_init ((n + 1))) fun c8 =>
  bn (ru ρ6 a0 1 (some ((n + 1)))) fun ρ9 =>
  bn (su σ5 a0 2 ((6 : Int32))) fun σ10 =>
  Option.bind (ρ9 a0 0) fun j11 =>
  nw 0 (n + 2) σ10 ρ9 fun σ12 ρ13 =>
  Option.bind (MX0_init (n + 3) σ12 ρ13 (n + 2)) fun c15 =>
  Option.bind (rp c15.2 j11 ((0 : Int32)) ((n + 2))) fun ρ16 =>
  Option.bind (ρ16 a0 0) fun j17 =>
  nw 0 (n + 4) c15.1 ρ16 fun σ18 ρ19 =>
  Option.bind (MX0_init (n + 5) σ18 ρ19 (n + 4)) fun c21 =>
  Option.bind (rp c21.2 j17 ((1 : Int32)) ((n + 4))) fun ρ22 =>
  Option.bind (ρ22 a0 0) fun j23 =>
  nw 0 (n + 6) c21.1 ρ22 fun σ24 ρ25 =>
  Option.bind (MX0_init (n + 7) σ24 ρ25 (n + 6)) fun c27 =>
  Option.bind (rp c27.2 j23 ((2 : Int32)) ((n + 6))) fun ρ28 =>
  Option.bind (ρ28 a0 0) fun j29 =>
  nw 0 (n + 8) c27.1 ρ28 fun σ30 ρ31 =>
  Option.bind (MX0_init (n + 9) σ30 ρ31 (n + 8)) fun c33 =>
  Option.bind (rp c33.2 j29 ((3 : Int32)) ((n + 8))) fun ρ34 =>
  Option.bind (ρ34 a0 0) fun j35 =>
  nw 0 (n + 10) c33.1 ρ34 fun σ36 ρ37 =>
  Option.bind (MX0_init (n + 11) σ36 ρ37 (n + 10)) fun c39 =>
  Option.bind (rp c39.2 j35 ((4 : Int32)) ((n + 10))) fun ρ40 =>
  Option.bind (ρ40 a0 0) fun j41 =>
  nw 0 (n + 12) c39.1 ρ40 fun σ42 ρ43 =>
  Option.bind (MX0_init (n + 13) σ42 ρ43 (n + 12)) fun c45 =>
  Option.bind (rp c45.2 j41 ((5 : Int32)) ((n + 12))) fun ρ46 =>
  some (c45.1, ρ46)
set_option maxHeartbeats 4000000 in
set_option maxRecDepth 100000 in
theorem c_X1_init (E : EX) {n : Nat} {σ : Sto} {ρ : Rho} (a0 : Nat) (h0 : Sh n a0 1) (res : Sto × Rho) (hM : MX1_init n σ ρ a0 = some res) : CTv E yX1_init cX1_init 2 3 14 57 [.ref (eb E + a0)] n σ ρ res.1 res.2 := by
  refine ct_v (by decide +kernel) (Nat.le_of_ble_eq_true rfl) (fun X hE hml hin hRm hC hR => ?_)
  subst hE
  show G X 0 0 n σ ρ 0 [(0, vr X a0)] []
  replace hC : Cx X cX1_init RX1 3 := hC
  unfold MX1_init at hM
  refine g_aload_n hC dX1_init_0 rfl 0 rfl ?_
  refine g_objInit hC k_357 k_117 k_118 (by decide) dX1_init_1 rfl (Nat.le_of_ble_eq_true rfl) ?_
  refine g_aload_n hC dX1_init_4 rfl 0 rfl ?_
  refine g_bipush (v := 6) hC dX1_init_5 rfl ib_6 ?_
  refine g_newq (t := 3) (N := 6) hC k_358 (by simp [RX0, RX8, RX4]) rfl (by decide) (by decide) (by decide) (Nat.le_of_ble_eq_true rfl) ⟨by rw [hRm.1]; exact (Nat.le_of_ble_eq_true rfl), by rw [hRm.2]; exact (Nat.le_of_ble_eq_true rfl)⟩ dX1_init_7 rfl hM (fun σ1 ρ2 hq3 hM => ?_)
  have h0 := sh_up h0
  refine fp_1_0 (own := "") hC hin h0 hq3 k_363 dX1_init_10 rfl hM (fun ρ4 hM => ?_)
  refine g_aload_n hC dX1_init_13 rfl 0 rfl ?_
  refine g_new (ci := 9) (N := 3) (T := TX10) (ty := tyX10) hC (by decide) rfl rfl iX10 tyX10_ok dfX10 k_360 k_258 k_99 ⟨by rw [hRm.1]; exact (Nat.le_of_ble_eq_true rfl), by rw [hRm.2]; exact (Nat.le_of_ble_eq_true rfl)⟩ dX1_init_14 rfl hM (fun σ5 ρ6 hq7 hM => ?_)
  have h0 := sh_up h0
  have hq3 := sh_up hq3
  refine g_dup hC dX1_init_17 rfl rfl ?_
  refine g_callINv (As := []) (st' := [vr X ((n + 1)), vr X a0]) (k := ((n + 1))) (mc := 0) (ms := 0) (L' := 1) hC Y_X10_init ⟨rfl, k_260⟩ k_361 ⟨by decide, by decide⟩ dX1_init_18 rfl rfl rfl (Nat.le_of_ble_eq_true rfl) ⟨by rw [hRm.1]; exact (Nat.le_of_ble_eq_true rfl), by rw [hRm.2]; exact (Nat.le_of_ble_eq_true rfl)⟩ hM (fun c hc => c_X10_init (xE X) ((n + 1)) hq7 c hc) (fun c8 hM => ?_)
  refine fp_1_1 (own := "") hC hin h0 hq7 k_364 dX1_init_21 rfl hM (fun ρ9 hM => ?_)
  refine g_aload_n hC dX1_init_24 rfl 0 rfl ?_
  refine g_bipush (v := 6) hC dX1_init_25 rfl ib_6 ?_
  refine fp_1_2 hC h0 k_365 dX1_init_27 rfl hM (fun σ10 hM => ?_)
  refine g_iconst (v := 0) hC dX1_init_30 rfl ic_0 ?_
  refine g_istore_n0 (lv' := [(1, .int ((0 : Int32))), (0, vr X a0)]) hC dX1_init_31 rfl hml (by decide) rfl ?_
  refine g_iload_n hC dX1_init_32 rfl 0 rfl ?_
  refine g_bipush (v := 6) hC dX1_init_33 rfl ib_6 ?_
  refine g_icmp_ge_f (tgt := 57) hC dX1_init_35 rfl (by decide) (by decide) ?_
  refine g_aload_n hC dX1_init_38 rfl 1 rfl ?_
  refine fg_1_0 hC h0 k_363 dX1_init_39 rfl hM (fun j11 hj11 hM => ?_)
  refine g_iload_n hC dX1_init_42 rfl 0 rfl ?_
  refine g_new (ci := 0) (N := 2) (T := TX0) (ty := tyX0) hC (by decide) rfl rfl iX0 tyX0_ok dfX0 k_358 k_314 k_101 ⟨by rw [hRm.1]; exact (Nat.le_of_ble_eq_true rfl), by rw [hRm.2]; exact (Nat.le_of_ble_eq_true rfl)⟩ dX1_init_43 rfl hM (fun σ12 ρ13 hq14 hM => ?_)
  have h0 := sh_up h0
  have hq3 := sh_up hq3
  have hq7 := sh_up hq7
  have hj11 := sh_up hj11
  refine g_dup hC dX1_init_46 rfl rfl ?_
  refine g_callINv (As := []) (st' := [vr X ((n + 2)), .int ((0 : Int32)), vr X j11]) (k := (n + 2)) (mc := 1) (ms := 6) (L' := 2) hC Y_X0_init ⟨rfl, k_316⟩ k_362 ⟨by decide, by decide⟩ dX1_init_47 rfl rfl rfl (Nat.le_of_ble_eq_true rfl) ⟨by rw [hRm.1]; exact (Nat.le_of_ble_eq_true rfl), by rw [hRm.2]; exact (Nat.le_of_ble_eq_true rfl)⟩ hM (fun c hc => c_X0_init (xE X) (n + 2) hq14 c hc) (fun c15 hM => ?_)
  have h0 := sh_upm (m := 1) h0
  have hq3 := sh_upm (m := 1) hq3
  have hq7 := sh_upm (m := 1) hq7
  have hj11 := sh_upm (m := 1) hj11
  have hq14 := sh_upm (m := 1) hq14
  refine g_aast (ci := 0) (te := 0) hC hj11 (by decide) rfl hq14 (by decide) rfl rfl dX1_init_50 rfl hM (fun ρ16 hM => ?_)
  refine g_iinc0 (v := (1 : Int32)) (lv' := [(1, .int ((1 : Int32))), (0, vr X a0)]) hC dX1_init_51 rfl (j := 0) rfl (by decide) hml (by decide) rfl ?_
  refine g_goto (tgt := 32) hC dX1_init_54 rfl (by decide) ?_
  refine g_iload_n hC dX1_init_32 rfl 0 rfl ?_
  refine g_bipush (v := 6) hC dX1_init_33 rfl ib_6 ?_
  refine g_icmp_ge_f (tgt := 57) hC dX1_init_35 rfl (by decide) (by decide) ?_
  refine g_aload_n hC dX1_init_38 rfl 1 rfl ?_
  refine fg_1_0 hC h0 k_363 dX1_init_39 rfl hM (fun j17 hj17 hM => ?_)
  refine g_iload_n hC dX1_init_42 rfl 0 rfl ?_
  refine g_new (ci := 0) (N := 2) (T := TX0) (ty := tyX0) hC (by decide) rfl rfl iX0 tyX0_ok dfX0 k_358 k_314 k_101 ⟨by rw [hRm.1]; exact (Nat.le_of_ble_eq_true rfl), by rw [hRm.2]; exact (Nat.le_of_ble_eq_true rfl)⟩ dX1_init_43 rfl hM (fun σ18 ρ19 hq20 hM => ?_)
  have h0 := sh_up h0
  have hq3 := sh_up hq3
  have hq7 := sh_up hq7
  have hj11 := sh_up hj11
  have hq14 := sh_up hq14
  have hj17 := sh_up hj17
  refine g_dup hC dX1_init_46 rfl rfl ?_
  refine g_callINv (As := []) (st' := [vr X ((n + 4)), .int ((1 : Int32)), vr X j17]) (k := (n + 4)) (mc := 1) (ms := 6) (L' := 2) hC Y_X0_init ⟨rfl, k_316⟩ k_362 ⟨by decide, by decide⟩ dX1_init_47 rfl rfl rfl (Nat.le_of_ble_eq_true rfl) ⟨by rw [hRm.1]; exact (Nat.le_of_ble_eq_true rfl), by rw [hRm.2]; exact (Nat.le_of_ble_eq_true rfl)⟩ hM (fun c hc => c_X0_init (xE X) (n + 4) hq20 c hc) (fun c21 hM => ?_)
  have h0 := sh_upm (m := 1) h0
  have hq3 := sh_upm (m := 1) hq3
  have hq7 := sh_upm (m := 1) hq7
  have hj11 := sh_upm (m := 1) hj11
  have hq14 := sh_upm (m := 1) hq14
  have hj17 := sh_upm (m := 1) hj17
  have hq20 := sh_upm (m := 1) hq20
  refine g_aast (ci := 0) (te := 0) hC hj17 (by decide) rfl hq20 (by decide) rfl rfl dX1_init_50 rfl hM (fun ρ22 hM => ?_)
  refine g_iinc0 (v := (2 : Int32)) (lv' := [(1, .int ((2 : Int32))), (0, vr X a0)]) hC dX1_init_51 rfl (j := 0) rfl (by decide) hml (by decide) rfl ?_
  refine g_goto (tgt := 32) hC dX1_init_54 rfl (by decide) ?_
  refine g_iload_n hC dX1_init_32 rfl 0 rfl ?_
  refine g_bipush (v := 6) hC dX1_init_33 rfl ib_6 ?_
  refine g_icmp_ge_f (tgt := 57) hC dX1_init_35 rfl (by decide) (by decide) ?_
  refine g_aload_n hC dX1_init_38 rfl 1 rfl ?_
  refine fg_1_0 hC h0 k_363 dX1_init_39 rfl hM (fun j23 hj23 hM => ?_)
  refine g_iload_n hC dX1_init_42 rfl 0 rfl ?_
  refine g_new (ci := 0) (N := 2) (T := TX0) (ty := tyX0) hC (by decide) rfl rfl iX0 tyX0_ok dfX0 k_358 k_314 k_101 ⟨by rw [hRm.1]; exact (Nat.le_of_ble_eq_true rfl), by rw [hRm.2]; exact (Nat.le_of_ble_eq_true rfl)⟩ dX1_init_43 rfl hM (fun σ24 ρ25 hq26 hM => ?_)
  have h0 := sh_up h0
  have hq3 := sh_up hq3
  have hq7 := sh_up hq7
  have hj11 := sh_up hj11
  have hq14 := sh_up hq14
  have hj17 := sh_up hj17
  have hq20 := sh_up hq20
  have hj23 := sh_up hj23
  refine g_dup hC dX1_init_46 rfl rfl ?_
  refine g_callINv (As := []) (st' := [vr X ((n + 6)), .int ((2 : Int32)), vr X j23]) (k := (n + 6)) (mc := 1) (ms := 6) (L' := 2) hC Y_X0_init ⟨rfl, k_316⟩ k_362 ⟨by decide, by decide⟩ dX1_init_47 rfl rfl rfl (Nat.le_of_ble_eq_true rfl) ⟨by rw [hRm.1]; exact (Nat.le_of_ble_eq_true rfl), by rw [hRm.2]; exact (Nat.le_of_ble_eq_true rfl)⟩ hM (fun c hc => c_X0_init (xE X) (n + 6) hq26 c hc) (fun c27 hM => ?_)
  have h0 := sh_upm (m := 1) h0
  have hq3 := sh_upm (m := 1) hq3
  have hq7 := sh_upm (m := 1) hq7
  have hj11 := sh_upm (m := 1) hj11
  have hq14 := sh_upm (m := 1) hq14
  have hj17 := sh_upm (m := 1) hj17
  have hq20 := sh_upm (m := 1) hq20
  have hj23 := sh_upm (m := 1) hj23
  have hq26 := sh_upm (m := 1) hq26
  refine g_aast (ci := 0) (te := 0) hC hj23 (by decide) rfl hq26 (by decide) rfl rfl dX1_init_50 rfl hM (fun ρ28 hM => ?_)
  refine g_iinc0 (v := (3 : Int32)) (lv' := [(1, .int ((3 : Int32))), (0, vr X a0)]) hC dX1_init_51 rfl (j := 0) rfl (by decide) hml (by decide) rfl ?_
  refine g_goto (tgt := 32) hC dX1_init_54 rfl (by decide) ?_
  refine g_iload_n hC dX1_init_32 rfl 0 rfl ?_
  refine g_bipush (v := 6) hC dX1_init_33 rfl ib_6 ?_
  refine g_icmp_ge_f (tgt := 57) hC dX1_init_35 rfl (by decide) (by decide) ?_
  refine g_aload_n hC dX1_init_38 rfl 1 rfl ?_
  refine fg_1_0 hC h0 k_363 dX1_init_39 rfl hM (fun j29 hj29 hM => ?_)
  refine g_iload_n hC dX1_init_42 rfl 0 rfl ?_
  refine g_new (ci := 0) (N := 2) (T := TX0) (ty := tyX0) hC (by decide) rfl rfl iX0 tyX0_ok dfX0 k_358 k_314 k_101 ⟨by rw [hRm.1]; exact (Nat.le_of_ble_eq_true rfl), by rw [hRm.2]; exact (Nat.le_of_ble_eq_true rfl)⟩ dX1_init_43 rfl hM (fun σ30 ρ31 hq32 hM => ?_)
  have h0 := sh_up h0
  have hq3 := sh_up hq3
  have hq7 := sh_up hq7
  have hj11 := sh_up hj11
  have hq14 := sh_up hq14
  have hj17 := sh_up hj17
  have hq20 := sh_up hq20
  have hj23 := sh_up hj23
  have hq26 := sh_up hq26
  have hj29 := sh_up hj29
  refine g_dup hC dX1_init_46 rfl rfl ?_
  refine g_callINv (As := []) (st' := [vr X ((n + 8)), .int ((3 : Int32)), vr X j29]) (k := (n + 8)) (mc := 1) (ms := 6) (L' := 2) hC Y_X0_init ⟨rfl, k_316⟩ k_362 ⟨by decide, by decide⟩ dX1_init_47 rfl rfl rfl (Nat.le_of_ble_eq_true rfl) ⟨by rw [hRm.1]; exact (Nat.le_of_ble_eq_true rfl), by rw [hRm.2]; exact (Nat.le_of_ble_eq_true rfl)⟩ hM (fun c hc => c_X0_init (xE X) (n + 8) hq32 c hc) (fun c33 hM => ?_)
  have h0 := sh_upm (m := 1) h0
  have hq3 := sh_upm (m := 1) hq3
  have hq7 := sh_upm (m := 1) hq7
  have hj11 := sh_upm (m := 1) hj11
  have hq14 := sh_upm (m := 1) hq14
  have hj17 := sh_upm (m := 1) hj17
  have hq20 := sh_upm (m := 1) hq20
  have hj23 := sh_upm (m := 1) hj23
  have hq26 := sh_upm (m := 1) hq26
  have hj29 := sh_upm (m := 1) hj29
  have hq32 := sh_upm (m := 1) hq32
  refine g_aast (ci := 0) (te := 0) hC hj29 (by decide) rfl hq32 (by decide) rfl rfl dX1_init_50 rfl hM (fun ρ34 hM => ?_)
  refine g_iinc0 (v := (4 : Int32)) (lv' := [(1, .int ((4 : Int32))), (0, vr X a0)]) hC dX1_init_51 rfl (j := 0) rfl (by decide) hml (by decide) rfl ?_
  refine g_goto (tgt := 32) hC dX1_init_54 rfl (by decide) ?_
  refine g_iload_n hC dX1_init_32 rfl 0 rfl ?_
  refine g_bipush (v := 6) hC dX1_init_33 rfl ib_6 ?_
  refine g_icmp_ge_f (tgt := 57) hC dX1_init_35 rfl (by decide) (by decide) ?_
  refine g_aload_n hC dX1_init_38 rfl 1 rfl ?_
  refine fg_1_0 hC h0 k_363 dX1_init_39 rfl hM (fun j35 hj35 hM => ?_)
  refine g_iload_n hC dX1_init_42 rfl 0 rfl ?_
  refine g_new (ci := 0) (N := 2) (T := TX0) (ty := tyX0) hC (by decide) rfl rfl iX0 tyX0_ok dfX0 k_358 k_314 k_101 ⟨by rw [hRm.1]; exact (Nat.le_of_ble_eq_true rfl), by rw [hRm.2]; exact (Nat.le_of_ble_eq_true rfl)⟩ dX1_init_43 rfl hM (fun σ36 ρ37 hq38 hM => ?_)
  have h0 := sh_up h0
  have hq3 := sh_up hq3
  have hq7 := sh_up hq7
  have hj11 := sh_up hj11
  have hq14 := sh_up hq14
  have hj17 := sh_up hj17
  have hq20 := sh_up hq20
  have hj23 := sh_up hj23
  have hq26 := sh_up hq26
  have hj29 := sh_up hj29
  have hq32 := sh_up hq32
  have hj35 := sh_up hj35
  refine g_dup hC dX1_init_46 rfl rfl ?_
  refine g_callINv (As := []) (st' := [vr X ((n + 10)), .int ((4 : Int32)), vr X j35]) (k := (n + 10)) (mc := 1) (ms := 6) (L' := 2) hC Y_X0_init ⟨rfl, k_316⟩ k_362 ⟨by decide, by decide⟩ dX1_init_47 rfl rfl rfl (Nat.le_of_ble_eq_true rfl) ⟨by rw [hRm.1]; exact (Nat.le_of_ble_eq_true rfl), by rw [hRm.2]; exact (Nat.le_of_ble_eq_true rfl)⟩ hM (fun c hc => c_X0_init (xE X) (n + 10) hq38 c hc) (fun c39 hM => ?_)
  have h0 := sh_upm (m := 1) h0
  have hq3 := sh_upm (m := 1) hq3
  have hq7 := sh_upm (m := 1) hq7
  have hj11 := sh_upm (m := 1) hj11
  have hq14 := sh_upm (m := 1) hq14
  have hj17 := sh_upm (m := 1) hj17
  have hq20 := sh_upm (m := 1) hq20
  have hj23 := sh_upm (m := 1) hj23
  have hq26 := sh_upm (m := 1) hq26
  have hj29 := sh_upm (m := 1) hj29
  have hq32 := sh_upm (m := 1) hq32
  have hj35 := sh_upm (m := 1) hj35
  have hq38 := sh_upm (m := 1) hq38
  refine g_aast (ci := 0) (te := 0) hC hj35 (by decide) rfl hq38 (by decide) rfl rfl dX1_init_50 rfl hM (fun ρ40 hM => ?_)
  refine g_iinc0 (v := (5 : Int32)) (lv' := [(1, .int ((5 : Int32))), (0, vr X a0)]) hC dX1_init_51 rfl (j := 0) rfl (by decide) hml (by decide) rfl ?_
  refine g_goto (tgt := 32) hC dX1_init_54 rfl (by decide) ?_
  refine g_iload_n hC dX1_init_32 rfl 0 rfl ?_
  refine g_bipush (v := 6) hC dX1_init_33 rfl ib_6 ?_
  refine g_icmp_ge_f (tgt := 57) hC dX1_init_35 rfl (by decide) (by decide) ?_
  refine g_aload_n hC dX1_init_38 rfl 1 rfl ?_
  refine fg_1_0 hC h0 k_363 dX1_init_39 rfl hM (fun j41 hj41 hM => ?_)
  refine g_iload_n hC dX1_init_42 rfl 0 rfl ?_
  refine g_new (ci := 0) (N := 2) (T := TX0) (ty := tyX0) hC (by decide) rfl rfl iX0 tyX0_ok dfX0 k_358 k_314 k_101 ⟨by rw [hRm.1]; exact (Nat.le_of_ble_eq_true rfl), by rw [hRm.2]; exact (Nat.le_of_ble_eq_true rfl)⟩ dX1_init_43 rfl hM (fun σ42 ρ43 hq44 hM => ?_)
  have h0 := sh_up h0
  have hq3 := sh_up hq3
  have hq7 := sh_up hq7
  have hj11 := sh_up hj11
  have hq14 := sh_up hq14
  have hj17 := sh_up hj17
  have hq20 := sh_up hq20
  have hj23 := sh_up hj23
  have hq26 := sh_up hq26
  have hj29 := sh_up hj29
  have hq32 := sh_up hq32
  have hj35 := sh_up hj35
  have hq38 := sh_up hq38
  have hj41 := sh_up hj41
  refine g_dup hC dX1_init_46 rfl rfl ?_
  refine g_callINv (As := []) (st' := [vr X ((n + 12)), .int ((5 : Int32)), vr X j41]) (k := (n + 12)) (mc := 1) (ms := 6) (L' := 2) hC Y_X0_init ⟨rfl, k_316⟩ k_362 ⟨by decide, by decide⟩ dX1_init_47 rfl rfl rfl (Nat.le_of_ble_eq_true rfl) ⟨by rw [hRm.1]; exact (Nat.le_of_ble_eq_true rfl), by rw [hRm.2]; exact (Nat.le_of_ble_eq_true rfl)⟩ hM (fun c hc => c_X0_init (xE X) (n + 12) hq44 c hc) (fun c45 hM => ?_)
  have h0 := sh_upm (m := 1) h0
  have hq3 := sh_upm (m := 1) hq3
  have hq7 := sh_upm (m := 1) hq7
  have hj11 := sh_upm (m := 1) hj11
  have hq14 := sh_upm (m := 1) hq14
  have hj17 := sh_upm (m := 1) hj17
  have hq20 := sh_upm (m := 1) hq20
  have hj23 := sh_upm (m := 1) hj23
  have hq26 := sh_upm (m := 1) hq26
  have hj29 := sh_upm (m := 1) hj29
  have hq32 := sh_upm (m := 1) hq32
  have hj35 := sh_upm (m := 1) hj35
  have hq38 := sh_upm (m := 1) hq38
  have hj41 := sh_upm (m := 1) hj41
  have hq44 := sh_upm (m := 1) hq44
  refine g_aast (ci := 0) (te := 0) hC hj41 (by decide) rfl hq44 (by decide) rfl rfl dX1_init_50 rfl hM (fun ρ46 hM => ?_)
  refine g_iinc0 (v := (6 : Int32)) (lv' := [(1, .int ((6 : Int32))), (0, vr X a0)]) hC dX1_init_51 rfl (j := 0) rfl (by decide) hml (by decide) rfl ?_
  refine g_goto (tgt := 32) hC dX1_init_54 rfl (by decide) ?_
  refine g_iload_n hC dX1_init_32 rfl 0 rfl ?_
  refine g_bipush (v := 6) hC dX1_init_33 rfl ib_6 ?_
  refine g_icmp_ge_t (tgt := 57) hC dX1_init_35 rfl (by decide) (by decide) ?_
  cases hM
  exact g_retv hR dX1_init_57 rfl
def MX8_init (n : Nat) (σ : Sto) (ρ : Rho) (a0 : Nat) : Option (Sto × Rho) :=
  nwa 20 n (8 : Int32) σ ρ fun σ1 ρ2 =>
  bn (ru ρ2 a0 2 (some n)) fun ρ4 =>
  nwa 20 (n + 1) (36 : Int32) σ1 ρ4 fun σ5 ρ6 =>
  bn (ru ρ6 a0 3 (some ((n + 1)))) fun ρ8 =>
  Option.bind (MX8_clear σ5 ρ8 a0) fun c9 =>
  some (c9, ρ8)
set_option maxHeartbeats 4000000 in
set_option maxRecDepth 100000 in
theorem c_X8_init (E : EX) {n : Nat} {σ : Sto} {ρ : Rho} (a0 : Nat) (h0 : Sh n a0 7) (res : Sto × Rho) (hM : MX8_init n σ ρ a0 = some res) : CTv E yX8_init cX8_init 1 1 2 44 [.ref (eb E + a0)] n σ ρ res.1 res.2 := by
  refine ct_v (by decide +kernel) (Nat.le_of_ble_eq_true rfl) (fun X hE hml hin hRm hC hR => ?_)
  subst hE
  show G X 0 0 n σ ρ 0 [(0, vr X a0)] []
  replace hC : Cx X cX8_init RX8 1 := hC
  unfold MX8_init at hM
  refine g_aload_n hC dX8_init_0 rfl 0 rfl ?_
  refine g_objInit hC k_130 k_117 k_118 (by decide) dX8_init_1 rfl (Nat.le_of_ble_eq_true rfl) ?_
  refine g_aload_n hC dX8_init_4 rfl 0 rfl ?_
  refine g_bipush (v := 8) hC dX8_init_5 rfl ib_8 ?_
  refine g_newa (t := 0) (N := 8) (atype := .int) (ty := .int) hC k_155 rfl rfl (by decide) (fun C h => by cases h) rfl (by decide) (by decide) (Nat.le_of_ble_eq_true rfl) ⟨by rw [hRm.1]; exact (Nat.le_of_ble_eq_true rfl), by rw [hRm.2]; exact (Nat.le_of_ble_eq_true rfl)⟩ dX8_init_7 rfl hM (fun σ1 ρ2 hq3 hM => ?_)
  have h0 := sh_up h0
  refine fp_7_2 (own := "") hC hin h0 hq3 k_144 dX8_init_9 rfl hM (fun ρ4 hM => ?_)
  refine g_aload_n hC dX8_init_12 rfl 0 rfl ?_
  refine g_bipush (v := 36) hC dX8_init_13 rfl ib_36 ?_
  refine g_newa (t := 0) (N := 36) (atype := .int) (ty := .int) hC k_155 rfl rfl (by decide) (fun C h => by cases h) rfl (by decide) (by decide) (Nat.le_of_ble_eq_true rfl) ⟨by rw [hRm.1]; exact (Nat.le_of_ble_eq_true rfl), by rw [hRm.2]; exact (Nat.le_of_ble_eq_true rfl)⟩ dX8_init_15 rfl hM (fun σ5 ρ6 hq7 hM => ?_)
  have h0 := sh_up h0
  have hq3 := sh_up hq3
  refine fp_7_3 (own := "") hC hin h0 hq7 k_145 dX8_init_17 rfl hM (fun ρ8 hM => ?_)
  refine g_aload_n hC dX8_init_20 rfl 0 rfl ?_
  refine g_callVv0 (As := []) (st' := []) (k := a0) (L' := 0) hC Y_X8_clear I_X8_clear k_131 ⟨by decide, by decide⟩ h0 (ci := 7) (by decide) rfl dX8_init_21 rfl rfl rfl (Nat.le_of_ble_eq_true rfl) ⟨by rw [hRm.1]; exact (Nat.le_of_ble_eq_true rfl), by rw [hRm.2]; exact (Nat.le_of_ble_eq_true rfl)⟩ hM (fun c hc => c_X8_clear (xE X) a0 h0 c hc) (fun c9 hM => ?_)
  cases hM
  exact g_retv hR dX8_init_24 rfl
def MX9_init (n : Nat) (σ : Sto) (ρ : Rho) (a0 : Nat) : Option (Sto × Rho) :=
  nwa 21 n (500 : Int32) σ ρ fun σ1 ρ2 =>
  bn (ru ρ2 a0 0 (some n)) fun ρ4 =>
  bn (su σ1 a0 1 ((0 : Int32))) fun σ5 =>
  some (σ5, ρ4)
set_option maxHeartbeats 4000000 in
set_option maxRecDepth 100000 in
theorem c_X9_init (E : EX) {n : Nat} {σ : Sto} {ρ : Rho} (a0 : Nat) (h0 : Sh n a0 8) (res : Sto × Rho) (hM : MX9_init n σ ρ a0 = some res) : CTv E yX9_init cX9_init 1 1 1 500 [.ref (eb E + a0)] n σ ρ res.1 res.2 := by
  refine ct_v (by decide +kernel) (Nat.le_of_ble_eq_true rfl) (fun X hE hml hin hRm hC hR => ?_)
  subst hE
  show G X 0 0 n σ ρ 0 [(0, vr X a0)] []
  replace hC : Cx X cX9_init RX9 1 := hC
  unfold MX9_init at hM
  refine g_aload_n hC dX9_init_0 rfl 0 rfl ?_
  refine g_objInit hC k_161 k_117 k_118 (by decide) dX9_init_1 rfl (Nat.le_of_ble_eq_true rfl) ?_
  refine g_aload_n hC dX9_init_4 rfl 0 rfl ?_
  refine g_sipush (v := 500) hC dX9_init_5 rfl is_500 ?_
  refine g_newa (t := 1) (N := 500) (atype := .byte) (ty := .byte) hC k_170 rfl rfl (by decide) (fun C h => by cases h) rfl (by decide) (by decide) (Nat.le_of_ble_eq_true rfl) ⟨by rw [hRm.1]; exact (Nat.le_of_ble_eq_true rfl), by rw [hRm.2]; exact (Nat.le_of_ble_eq_true rfl)⟩ dX9_init_8 rfl hM (fun σ1 ρ2 hq3 hM => ?_)
  have h0 := sh_up h0
  refine fp_8_0 (own := "") hC hin h0 hq3 k_162 dX9_init_10 rfl hM (fun ρ4 hM => ?_)
  refine g_aload_n hC dX9_init_13 rfl 0 rfl ?_
  refine g_iconst (v := 0) hC dX9_init_14 rfl ic_0 ?_
  refine fp_8_1 hC h0 k_163 dX9_init_15 rfl hM (fun σ5 hM => ?_)
  cases hM
  exact g_retv hR dX9_init_18 rfl
def MX4_init (n : Nat) (σ : Sto) (ρ : Rho) (a0 : Nat) : Option (Sto × Rho) :=
  nw 7 n σ ρ fun σ1 ρ2 =>
  Option.bind (MX8_init (n + 1) σ1 ρ2 n) fun c4 =>
  bn (ru c4.2 a0 0 (some n)) fun ρ5 =>
  nw 8 (n + 3) c4.1 ρ5 fun σ6 ρ7 =>
  Option.bind (MX9_init (n + 4) σ6 ρ7 (n + 3)) fun c9 =>
  bn (ru c9.2 a0 1 (some ((n + 3)))) fun ρ10 =>
  bn (su c9.1 a0 2 ((0 : Int32))) fun σ11 =>
  bn (su σ11 a0 3 ((-1 : Int32))) fun σ12 =>
  bn (su σ12 a0 4 ((0 : Int32))) fun σ13 =>
  bn (su σ13 a0 5 ((0 : Int32))) fun σ14 =>
  some (σ14, ρ10)
set_option maxHeartbeats 4000000 in
set_option maxRecDepth 100000 in
theorem c_X4_init (E : EX) {n : Nat} {σ : Sto} {ρ : Rho} (a0 : Nat) (h0 : Sh n a0 3) (res : Sto × Rho) (hM : MX4_init n σ ρ a0 = some res) : CTv E yX4_init cX4_init 1 2 5 550 [.ref (eb E + a0)] n σ ρ res.1 res.2 := by
  refine ct_v (by decide +kernel) (Nat.le_of_ble_eq_true rfl) (fun X hE hml hin hRm hC hR => ?_)
  subst hE
  show G X 0 0 n σ ρ 0 [(0, vr X a0)] []
  replace hC : Cx X cX4_init RX4 2 := hC
  unfold MX4_init at hM
  refine g_aload_n hC dX4_init_0 rfl 0 rfl ?_
  refine g_objInit hC k_124 k_117 k_118 (by decide) dX4_init_1 rfl (Nat.le_of_ble_eq_true rfl) ?_
  refine g_aload_n hC dX4_init_4 rfl 0 rfl ?_
  refine g_new (ci := 7) (N := 4) (T := TX8) (ty := tyX8) hC (by decide) rfl rfl iX8 tyX8_ok dfX8 k_125 k_126 k_94 ⟨by rw [hRm.1]; exact (Nat.le_of_ble_eq_true rfl), by rw [hRm.2]; exact (Nat.le_of_ble_eq_true rfl)⟩ dX4_init_5 rfl hM (fun σ1 ρ2 hq3 hM => ?_)
  have h0 := sh_up h0
  refine g_dup hC dX4_init_8 rfl rfl ?_
  refine g_callIv (As := []) (st' := [vr X n, vr X a0]) (k := n) (mc := 2) (ms := 44) (L' := 1) hC Y_X8_init ⟨rfl, k_128⟩ k_127 ⟨by decide, by decide⟩ dX4_init_9 rfl rfl rfl (Nat.le_of_ble_eq_true rfl) ⟨by rw [hRm.1]; exact (Nat.le_of_ble_eq_true rfl), by rw [hRm.2]; exact (Nat.le_of_ble_eq_true rfl)⟩ hM (fun c hc => c_X8_init (xE X) n hq3 c hc) (fun c4 hM => ?_)
  have h0 := sh_upm (m := 2) h0
  have hq3 := sh_upm (m := 2) hq3
  refine fp_3_0 (own := "") hC hin h0 hq3 k_171 dX4_init_12 rfl hM (fun ρ5 hM => ?_)
  refine g_aload_n hC dX4_init_15 rfl 0 rfl ?_
  refine g_new (ci := 8) (N := 2) (T := TX9) (ty := tyX9) hC (by decide) rfl rfl iX9 tyX9_ok dfX9 k_156 k_157 k_95 ⟨by rw [hRm.1]; exact (Nat.le_of_ble_eq_true rfl), by rw [hRm.2]; exact (Nat.le_of_ble_eq_true rfl)⟩ dX4_init_16 rfl hM (fun σ6 ρ7 hq8 hM => ?_)
  have h0 := sh_up h0
  have hq3 := sh_up hq3
  refine g_dup hC dX4_init_19 rfl rfl ?_
  refine g_callINv (As := []) (st' := [vr X ((n + 3)), vr X a0]) (k := (n + 3)) (mc := 1) (ms := 500) (L' := 1) hC Y_X9_init ⟨rfl, k_159⟩ k_158 ⟨by decide, by decide⟩ dX4_init_20 rfl rfl rfl (Nat.le_of_ble_eq_true rfl) ⟨by rw [hRm.1]; exact (Nat.le_of_ble_eq_true rfl), by rw [hRm.2]; exact (Nat.le_of_ble_eq_true rfl)⟩ hM (fun c hc => c_X9_init (xE X) (n + 3) hq8 c hc) (fun c9 hM => ?_)
  have h0 := sh_upm (m := 1) h0
  have hq3 := sh_upm (m := 1) hq3
  have hq8 := sh_upm (m := 1) hq8
  refine fp_3_1 (own := "") hC hin h0 hq8 k_173 dX4_init_23 rfl hM (fun ρ10 hM => ?_)
  refine g_aload_n hC dX4_init_26 rfl 0 rfl ?_
  refine g_iconst (v := 0) hC dX4_init_27 rfl ic_0 ?_
  refine fp_3_2 hC h0 k_175 dX4_init_28 rfl hM (fun σ11 hM => ?_)
  refine g_aload_n hC dX4_init_31 rfl 0 rfl ?_
  refine g_iconst (v := -1) hC dX4_init_32 rfl ic_m1 ?_
  refine fp_3_3 hC h0 k_177 dX4_init_33 rfl hM (fun σ12 hM => ?_)
  refine g_aload_n hC dX4_init_36 rfl 0 rfl ?_
  refine g_iconst (v := 0) hC dX4_init_37 rfl ic_0 ?_
  refine fp_3_4 hC h0 k_179 dX4_init_38 rfl hM (fun σ13 hM => ?_)
  refine g_aload_n hC dX4_init_41 rfl 0 rfl ?_
  refine g_iconst (v := 0) hC dX4_init_42 rfl ic_0 ?_
  refine fp_3_5 hC h0 k_181 dX4_init_43 rfl hM (fun σ14 hM => ?_)
  cases hM
  exact g_retv hR dX4_init_46 rfl
def MX5_init (n : Nat) (σ : Sto) (ρ : Rho) (a0 : Nat) : Option (Sto × Rho) :=
  nwa 24 n (8 : Int32) σ ρ fun σ1 ρ2 =>
  bn (ru ρ2 a0 0 (some n)) fun ρ4 =>
  bn (su σ1 a0 1 ((0 : Int32))) fun σ5 =>
  bn (su σ5 a0 2 ((0 : Int32))) fun σ6 =>
  Option.bind (ρ4 a0 0) fun j7 =>
  nw 7 (n + 1) σ6 ρ4 fun σ8 ρ9 =>
  Option.bind (MX8_init (n + 2) σ8 ρ9 (n + 1)) fun c11 =>
  Option.bind (rp c11.2 j7 ((0 : Int32)) ((n + 1))) fun ρ12 =>
  Option.bind (ρ12 a0 0) fun j13 =>
  nw 7 (n + 4) c11.1 ρ12 fun σ14 ρ15 =>
  Option.bind (MX8_init (n + 5) σ14 ρ15 (n + 4)) fun c17 =>
  Option.bind (rp c17.2 j13 ((1 : Int32)) ((n + 4))) fun ρ18 =>
  Option.bind (ρ18 a0 0) fun j19 =>
  nw 7 (n + 7) c17.1 ρ18 fun σ20 ρ21 =>
  Option.bind (MX8_init (n + 8) σ20 ρ21 (n + 7)) fun c23 =>
  Option.bind (rp c23.2 j19 ((2 : Int32)) ((n + 7))) fun ρ24 =>
  Option.bind (ρ24 a0 0) fun j25 =>
  nw 7 (n + 10) c23.1 ρ24 fun σ26 ρ27 =>
  Option.bind (MX8_init (n + 11) σ26 ρ27 (n + 10)) fun c29 =>
  Option.bind (rp c29.2 j25 ((3 : Int32)) ((n + 10))) fun ρ30 =>
  Option.bind (ρ30 a0 0) fun j31 =>
  nw 7 (n + 13) c29.1 ρ30 fun σ32 ρ33 =>
  Option.bind (MX8_init (n + 14) σ32 ρ33 (n + 13)) fun c35 =>
  Option.bind (rp c35.2 j31 ((4 : Int32)) ((n + 13))) fun ρ36 =>
  Option.bind (ρ36 a0 0) fun j37 =>
  nw 7 (n + 16) c35.1 ρ36 fun σ38 ρ39 =>
  Option.bind (MX8_init (n + 17) σ38 ρ39 (n + 16)) fun c41 =>
  Option.bind (rp c41.2 j37 ((5 : Int32)) ((n + 16))) fun ρ42 =>
  Option.bind (ρ42 a0 0) fun j43 =>
  nw 7 (n + 19) c41.1 ρ42 fun σ44 ρ45 =>
  Option.bind (MX8_init (n + 20) σ44 ρ45 (n + 19)) fun c47 =>
  Option.bind (rp c47.2 j43 ((6 : Int32)) ((n + 19))) fun ρ48 =>
  Option.bind (ρ48 a0 0) fun j49 =>
  nw 7 (n + 22) c47.1 ρ48 fun σ50 ρ51 =>
  Option.bind (MX8_init (n + 23) σ50 ρ51 (n + 22)) fun c53 =>
  Option.bind (rp c53.2 j49 ((7 : Int32)) ((n + 22))) fun ρ54 =>
  some (c53.1, ρ54)
set_option maxHeartbeats 4000000 in
set_option maxRecDepth 100000 in
theorem c_X5_init (E : EX) {n : Nat} {σ : Sto} {ρ : Rho} (a0 : Nat) (h0 : Sh n a0 4) (res : Sto × Rho) (hM : MX5_init n σ ρ a0 = some res) : CTv E yX5_init cX5_init 2 2 25 392 [.ref (eb E + a0)] n σ ρ res.1 res.2 := by
  refine ct_v (by decide +kernel) (Nat.le_of_ble_eq_true rfl) (fun X hE hml hin hRm hC hR => ?_)
  subst hE
  show G X 0 0 n σ ρ 0 [(0, vr X a0)] []
  replace hC : Cx X cX5_init RX5 2 := hC
  unfold MX5_init at hM
  refine g_aload_n hC dX5_init_0 rfl 0 rfl ?_
  refine g_objInit hC k_201 k_117 k_118 (by decide) dX5_init_1 rfl (Nat.le_of_ble_eq_true rfl) ?_
  refine g_aload_n hC dX5_init_4 rfl 0 rfl ?_
  refine g_bipush (v := 8) hC dX5_init_5 rfl ib_8 ?_
  refine g_newq (t := 4) (N := 8) hC k_202 (by simp [RX0, RX8, RX4]) rfl (by decide) (by decide) (by decide) (Nat.le_of_ble_eq_true rfl) ⟨by rw [hRm.1]; exact (Nat.le_of_ble_eq_true rfl), by rw [hRm.2]; exact (Nat.le_of_ble_eq_true rfl)⟩ dX5_init_7 rfl hM (fun σ1 ρ2 hq3 hM => ?_)
  have h0 := sh_up h0
  refine fp_4_0 (own := "") hC hin h0 hq3 k_205 dX5_init_10 rfl hM (fun ρ4 hM => ?_)
  refine g_aload_n hC dX5_init_13 rfl 0 rfl ?_
  refine g_iconst (v := 0) hC dX5_init_14 rfl ic_0 ?_
  refine fp_4_1 hC h0 k_206 dX5_init_15 rfl hM (fun σ5 hM => ?_)
  refine g_aload_n hC dX5_init_18 rfl 0 rfl ?_
  refine g_iconst (v := 0) hC dX5_init_19 rfl ic_0 ?_
  refine fp_4_2 hC h0 k_207 dX5_init_20 rfl hM (fun σ6 hM => ?_)
  refine g_iconst (v := 0) hC dX5_init_23 rfl ic_0 ?_
  refine g_istore_n0 (lv' := [(1, .int ((0 : Int32))), (0, vr X a0)]) hC dX5_init_24 rfl hml (by decide) rfl ?_
  refine g_iload_n hC dX5_init_25 rfl 0 rfl ?_
  refine g_bipush (v := 8) hC dX5_init_26 rfl ib_8 ?_
  refine g_icmp_ge_f (tgt := 50) hC dX5_init_28 rfl (by decide) (by decide) ?_
  refine g_aload_n hC dX5_init_31 rfl 1 rfl ?_
  refine fg_4_0 hC h0 k_205 dX5_init_32 rfl hM (fun j7 hj7 hM => ?_)
  refine g_iload_n hC dX5_init_35 rfl 0 rfl ?_
  refine g_new (ci := 7) (N := 4) (T := TX8) (ty := tyX8) hC (by decide) rfl rfl iX8 tyX8_ok dfX8 k_202 k_126 k_94 ⟨by rw [hRm.1]; exact (Nat.le_of_ble_eq_true rfl), by rw [hRm.2]; exact (Nat.le_of_ble_eq_true rfl)⟩ dX5_init_36 rfl hM (fun σ8 ρ9 hq10 hM => ?_)
  have h0 := sh_up h0
  have hq3 := sh_up hq3
  have hj7 := sh_up hj7
  refine g_dup hC dX5_init_39 rfl rfl ?_
  refine g_callIv (As := []) (st' := [vr X ((n + 1)), .int ((0 : Int32)), vr X j7]) (k := (n + 1)) (mc := 2) (ms := 44) (L' := 1) hC Y_X8_init ⟨rfl, k_128⟩ k_204 ⟨by decide, by decide⟩ dX5_init_40 rfl rfl rfl (Nat.le_of_ble_eq_true rfl) ⟨by rw [hRm.1]; exact (Nat.le_of_ble_eq_true rfl), by rw [hRm.2]; exact (Nat.le_of_ble_eq_true rfl)⟩ hM (fun c hc => c_X8_init (xE X) (n + 1) hq10 c hc) (fun c11 hM => ?_)
  have h0 := sh_upm (m := 2) h0
  have hq3 := sh_upm (m := 2) hq3
  have hj7 := sh_upm (m := 2) hj7
  have hq10 := sh_upm (m := 2) hq10
  refine g_aast (ci := 0) (te := 7) hC hj7 (by decide) rfl hq10 (by decide) rfl rfl dX5_init_43 rfl hM (fun ρ12 hM => ?_)
  refine g_iinc0 (v := (1 : Int32)) (lv' := [(1, .int ((1 : Int32))), (0, vr X a0)]) hC dX5_init_44 rfl (j := 0) rfl (by decide) hml (by decide) rfl ?_
  refine g_goto (tgt := 25) hC dX5_init_47 rfl (by decide) ?_
  refine g_iload_n hC dX5_init_25 rfl 0 rfl ?_
  refine g_bipush (v := 8) hC dX5_init_26 rfl ib_8 ?_
  refine g_icmp_ge_f (tgt := 50) hC dX5_init_28 rfl (by decide) (by decide) ?_
  refine g_aload_n hC dX5_init_31 rfl 1 rfl ?_
  refine fg_4_0 hC h0 k_205 dX5_init_32 rfl hM (fun j13 hj13 hM => ?_)
  refine g_iload_n hC dX5_init_35 rfl 0 rfl ?_
  refine g_new (ci := 7) (N := 4) (T := TX8) (ty := tyX8) hC (by decide) rfl rfl iX8 tyX8_ok dfX8 k_202 k_126 k_94 ⟨by rw [hRm.1]; exact (Nat.le_of_ble_eq_true rfl), by rw [hRm.2]; exact (Nat.le_of_ble_eq_true rfl)⟩ dX5_init_36 rfl hM (fun σ14 ρ15 hq16 hM => ?_)
  have h0 := sh_up h0
  have hq3 := sh_up hq3
  have hj7 := sh_up hj7
  have hq10 := sh_up hq10
  have hj13 := sh_up hj13
  refine g_dup hC dX5_init_39 rfl rfl ?_
  refine g_callIv (As := []) (st' := [vr X ((n + 4)), .int ((1 : Int32)), vr X j13]) (k := (n + 4)) (mc := 2) (ms := 44) (L' := 1) hC Y_X8_init ⟨rfl, k_128⟩ k_204 ⟨by decide, by decide⟩ dX5_init_40 rfl rfl rfl (Nat.le_of_ble_eq_true rfl) ⟨by rw [hRm.1]; exact (Nat.le_of_ble_eq_true rfl), by rw [hRm.2]; exact (Nat.le_of_ble_eq_true rfl)⟩ hM (fun c hc => c_X8_init (xE X) (n + 4) hq16 c hc) (fun c17 hM => ?_)
  have h0 := sh_upm (m := 2) h0
  have hq3 := sh_upm (m := 2) hq3
  have hj7 := sh_upm (m := 2) hj7
  have hq10 := sh_upm (m := 2) hq10
  have hj13 := sh_upm (m := 2) hj13
  have hq16 := sh_upm (m := 2) hq16
  refine g_aast (ci := 0) (te := 7) hC hj13 (by decide) rfl hq16 (by decide) rfl rfl dX5_init_43 rfl hM (fun ρ18 hM => ?_)
  refine g_iinc0 (v := (2 : Int32)) (lv' := [(1, .int ((2 : Int32))), (0, vr X a0)]) hC dX5_init_44 rfl (j := 0) rfl (by decide) hml (by decide) rfl ?_
  refine g_goto (tgt := 25) hC dX5_init_47 rfl (by decide) ?_
  refine g_iload_n hC dX5_init_25 rfl 0 rfl ?_
  refine g_bipush (v := 8) hC dX5_init_26 rfl ib_8 ?_
  refine g_icmp_ge_f (tgt := 50) hC dX5_init_28 rfl (by decide) (by decide) ?_
  refine g_aload_n hC dX5_init_31 rfl 1 rfl ?_
  refine fg_4_0 hC h0 k_205 dX5_init_32 rfl hM (fun j19 hj19 hM => ?_)
  refine g_iload_n hC dX5_init_35 rfl 0 rfl ?_
  refine g_new (ci := 7) (N := 4) (T := TX8) (ty := tyX8) hC (by decide) rfl rfl iX8 tyX8_ok dfX8 k_202 k_126 k_94 ⟨by rw [hRm.1]; exact (Nat.le_of_ble_eq_true rfl), by rw [hRm.2]; exact (Nat.le_of_ble_eq_true rfl)⟩ dX5_init_36 rfl hM (fun σ20 ρ21 hq22 hM => ?_)
  have h0 := sh_up h0
  have hq3 := sh_up hq3
  have hj7 := sh_up hj7
  have hq10 := sh_up hq10
  have hj13 := sh_up hj13
  have hq16 := sh_up hq16
  have hj19 := sh_up hj19
  refine g_dup hC dX5_init_39 rfl rfl ?_
  refine g_callIv (As := []) (st' := [vr X ((n + 7)), .int ((2 : Int32)), vr X j19]) (k := (n + 7)) (mc := 2) (ms := 44) (L' := 1) hC Y_X8_init ⟨rfl, k_128⟩ k_204 ⟨by decide, by decide⟩ dX5_init_40 rfl rfl rfl (Nat.le_of_ble_eq_true rfl) ⟨by rw [hRm.1]; exact (Nat.le_of_ble_eq_true rfl), by rw [hRm.2]; exact (Nat.le_of_ble_eq_true rfl)⟩ hM (fun c hc => c_X8_init (xE X) (n + 7) hq22 c hc) (fun c23 hM => ?_)
  have h0 := sh_upm (m := 2) h0
  have hq3 := sh_upm (m := 2) hq3
  have hj7 := sh_upm (m := 2) hj7
  have hq10 := sh_upm (m := 2) hq10
  have hj13 := sh_upm (m := 2) hj13
  have hq16 := sh_upm (m := 2) hq16
  have hj19 := sh_upm (m := 2) hj19
  have hq22 := sh_upm (m := 2) hq22
  refine g_aast (ci := 0) (te := 7) hC hj19 (by decide) rfl hq22 (by decide) rfl rfl dX5_init_43 rfl hM (fun ρ24 hM => ?_)
  refine g_iinc0 (v := (3 : Int32)) (lv' := [(1, .int ((3 : Int32))), (0, vr X a0)]) hC dX5_init_44 rfl (j := 0) rfl (by decide) hml (by decide) rfl ?_
  refine g_goto (tgt := 25) hC dX5_init_47 rfl (by decide) ?_
  refine g_iload_n hC dX5_init_25 rfl 0 rfl ?_
  refine g_bipush (v := 8) hC dX5_init_26 rfl ib_8 ?_
  refine g_icmp_ge_f (tgt := 50) hC dX5_init_28 rfl (by decide) (by decide) ?_
  refine g_aload_n hC dX5_init_31 rfl 1 rfl ?_
  refine fg_4_0 hC h0 k_205 dX5_init_32 rfl hM (fun j25 hj25 hM => ?_)
  refine g_iload_n hC dX5_init_35 rfl 0 rfl ?_
  refine g_new (ci := 7) (N := 4) (T := TX8) (ty := tyX8) hC (by decide) rfl rfl iX8 tyX8_ok dfX8 k_202 k_126 k_94 ⟨by rw [hRm.1]; exact (Nat.le_of_ble_eq_true rfl), by rw [hRm.2]; exact (Nat.le_of_ble_eq_true rfl)⟩ dX5_init_36 rfl hM (fun σ26 ρ27 hq28 hM => ?_)
  have h0 := sh_up h0
  have hq3 := sh_up hq3
  have hj7 := sh_up hj7
  have hq10 := sh_up hq10
  have hj13 := sh_up hj13
  have hq16 := sh_up hq16
  have hj19 := sh_up hj19
  have hq22 := sh_up hq22
  have hj25 := sh_up hj25
  refine g_dup hC dX5_init_39 rfl rfl ?_
  refine g_callIv (As := []) (st' := [vr X ((n + 10)), .int ((3 : Int32)), vr X j25]) (k := (n + 10)) (mc := 2) (ms := 44) (L' := 1) hC Y_X8_init ⟨rfl, k_128⟩ k_204 ⟨by decide, by decide⟩ dX5_init_40 rfl rfl rfl (Nat.le_of_ble_eq_true rfl) ⟨by rw [hRm.1]; exact (Nat.le_of_ble_eq_true rfl), by rw [hRm.2]; exact (Nat.le_of_ble_eq_true rfl)⟩ hM (fun c hc => c_X8_init (xE X) (n + 10) hq28 c hc) (fun c29 hM => ?_)
  have h0 := sh_upm (m := 2) h0
  have hq3 := sh_upm (m := 2) hq3
  have hj7 := sh_upm (m := 2) hj7
  have hq10 := sh_upm (m := 2) hq10
  have hj13 := sh_upm (m := 2) hj13
  have hq16 := sh_upm (m := 2) hq16
  have hj19 := sh_upm (m := 2) hj19
  have hq22 := sh_upm (m := 2) hq22
  have hj25 := sh_upm (m := 2) hj25
  have hq28 := sh_upm (m := 2) hq28
  refine g_aast (ci := 0) (te := 7) hC hj25 (by decide) rfl hq28 (by decide) rfl rfl dX5_init_43 rfl hM (fun ρ30 hM => ?_)
  refine g_iinc0 (v := (4 : Int32)) (lv' := [(1, .int ((4 : Int32))), (0, vr X a0)]) hC dX5_init_44 rfl (j := 0) rfl (by decide) hml (by decide) rfl ?_
  refine g_goto (tgt := 25) hC dX5_init_47 rfl (by decide) ?_
  refine g_iload_n hC dX5_init_25 rfl 0 rfl ?_
  refine g_bipush (v := 8) hC dX5_init_26 rfl ib_8 ?_
  refine g_icmp_ge_f (tgt := 50) hC dX5_init_28 rfl (by decide) (by decide) ?_
  refine g_aload_n hC dX5_init_31 rfl 1 rfl ?_
  refine fg_4_0 hC h0 k_205 dX5_init_32 rfl hM (fun j31 hj31 hM => ?_)
  refine g_iload_n hC dX5_init_35 rfl 0 rfl ?_
  refine g_new (ci := 7) (N := 4) (T := TX8) (ty := tyX8) hC (by decide) rfl rfl iX8 tyX8_ok dfX8 k_202 k_126 k_94 ⟨by rw [hRm.1]; exact (Nat.le_of_ble_eq_true rfl), by rw [hRm.2]; exact (Nat.le_of_ble_eq_true rfl)⟩ dX5_init_36 rfl hM (fun σ32 ρ33 hq34 hM => ?_)
  have h0 := sh_up h0
  have hq3 := sh_up hq3
  have hj7 := sh_up hj7
  have hq10 := sh_up hq10
  have hj13 := sh_up hj13
  have hq16 := sh_up hq16
  have hj19 := sh_up hj19
  have hq22 := sh_up hq22
  have hj25 := sh_up hj25
  have hq28 := sh_up hq28
  have hj31 := sh_up hj31
  refine g_dup hC dX5_init_39 rfl rfl ?_
  refine g_callIv (As := []) (st' := [vr X ((n + 13)), .int ((4 : Int32)), vr X j31]) (k := (n + 13)) (mc := 2) (ms := 44) (L' := 1) hC Y_X8_init ⟨rfl, k_128⟩ k_204 ⟨by decide, by decide⟩ dX5_init_40 rfl rfl rfl (Nat.le_of_ble_eq_true rfl) ⟨by rw [hRm.1]; exact (Nat.le_of_ble_eq_true rfl), by rw [hRm.2]; exact (Nat.le_of_ble_eq_true rfl)⟩ hM (fun c hc => c_X8_init (xE X) (n + 13) hq34 c hc) (fun c35 hM => ?_)
  have h0 := sh_upm (m := 2) h0
  have hq3 := sh_upm (m := 2) hq3
  have hj7 := sh_upm (m := 2) hj7
  have hq10 := sh_upm (m := 2) hq10
  have hj13 := sh_upm (m := 2) hj13
  have hq16 := sh_upm (m := 2) hq16
  have hj19 := sh_upm (m := 2) hj19
  have hq22 := sh_upm (m := 2) hq22
  have hj25 := sh_upm (m := 2) hj25
  have hq28 := sh_upm (m := 2) hq28
  have hj31 := sh_upm (m := 2) hj31
  have hq34 := sh_upm (m := 2) hq34
  refine g_aast (ci := 0) (te := 7) hC hj31 (by decide) rfl hq34 (by decide) rfl rfl dX5_init_43 rfl hM (fun ρ36 hM => ?_)
  refine g_iinc0 (v := (5 : Int32)) (lv' := [(1, .int ((5 : Int32))), (0, vr X a0)]) hC dX5_init_44 rfl (j := 0) rfl (by decide) hml (by decide) rfl ?_
  refine g_goto (tgt := 25) hC dX5_init_47 rfl (by decide) ?_
  refine g_iload_n hC dX5_init_25 rfl 0 rfl ?_
  refine g_bipush (v := 8) hC dX5_init_26 rfl ib_8 ?_
  refine g_icmp_ge_f (tgt := 50) hC dX5_init_28 rfl (by decide) (by decide) ?_
  refine g_aload_n hC dX5_init_31 rfl 1 rfl ?_
  refine fg_4_0 hC h0 k_205 dX5_init_32 rfl hM (fun j37 hj37 hM => ?_)
  refine g_iload_n hC dX5_init_35 rfl 0 rfl ?_
  refine g_new (ci := 7) (N := 4) (T := TX8) (ty := tyX8) hC (by decide) rfl rfl iX8 tyX8_ok dfX8 k_202 k_126 k_94 ⟨by rw [hRm.1]; exact (Nat.le_of_ble_eq_true rfl), by rw [hRm.2]; exact (Nat.le_of_ble_eq_true rfl)⟩ dX5_init_36 rfl hM (fun σ38 ρ39 hq40 hM => ?_)
  have h0 := sh_up h0
  have hq3 := sh_up hq3
  have hj7 := sh_up hj7
  have hq10 := sh_up hq10
  have hj13 := sh_up hj13
  have hq16 := sh_up hq16
  have hj19 := sh_up hj19
  have hq22 := sh_up hq22
  have hj25 := sh_up hj25
  have hq28 := sh_up hq28
  have hj31 := sh_up hj31
  have hq34 := sh_up hq34
  have hj37 := sh_up hj37
  refine g_dup hC dX5_init_39 rfl rfl ?_
  refine g_callIv (As := []) (st' := [vr X ((n + 16)), .int ((5 : Int32)), vr X j37]) (k := (n + 16)) (mc := 2) (ms := 44) (L' := 1) hC Y_X8_init ⟨rfl, k_128⟩ k_204 ⟨by decide, by decide⟩ dX5_init_40 rfl rfl rfl (Nat.le_of_ble_eq_true rfl) ⟨by rw [hRm.1]; exact (Nat.le_of_ble_eq_true rfl), by rw [hRm.2]; exact (Nat.le_of_ble_eq_true rfl)⟩ hM (fun c hc => c_X8_init (xE X) (n + 16) hq40 c hc) (fun c41 hM => ?_)
  have h0 := sh_upm (m := 2) h0
  have hq3 := sh_upm (m := 2) hq3
  have hj7 := sh_upm (m := 2) hj7
  have hq10 := sh_upm (m := 2) hq10
  have hj13 := sh_upm (m := 2) hj13
  have hq16 := sh_upm (m := 2) hq16
  have hj19 := sh_upm (m := 2) hj19
  have hq22 := sh_upm (m := 2) hq22
  have hj25 := sh_upm (m := 2) hj25
  have hq28 := sh_upm (m := 2) hq28
  have hj31 := sh_upm (m := 2) hj31
  have hq34 := sh_upm (m := 2) hq34
  have hj37 := sh_upm (m := 2) hj37
  have hq40 := sh_upm (m := 2) hq40
  refine g_aast (ci := 0) (te := 7) hC hj37 (by decide) rfl hq40 (by decide) rfl rfl dX5_init_43 rfl hM (fun ρ42 hM => ?_)
  refine g_iinc0 (v := (6 : Int32)) (lv' := [(1, .int ((6 : Int32))), (0, vr X a0)]) hC dX5_init_44 rfl (j := 0) rfl (by decide) hml (by decide) rfl ?_
  refine g_goto (tgt := 25) hC dX5_init_47 rfl (by decide) ?_
  refine g_iload_n hC dX5_init_25 rfl 0 rfl ?_
  refine g_bipush (v := 8) hC dX5_init_26 rfl ib_8 ?_
  refine g_icmp_ge_f (tgt := 50) hC dX5_init_28 rfl (by decide) (by decide) ?_
  refine g_aload_n hC dX5_init_31 rfl 1 rfl ?_
  refine fg_4_0 hC h0 k_205 dX5_init_32 rfl hM (fun j43 hj43 hM => ?_)
  refine g_iload_n hC dX5_init_35 rfl 0 rfl ?_
  refine g_new (ci := 7) (N := 4) (T := TX8) (ty := tyX8) hC (by decide) rfl rfl iX8 tyX8_ok dfX8 k_202 k_126 k_94 ⟨by rw [hRm.1]; exact (Nat.le_of_ble_eq_true rfl), by rw [hRm.2]; exact (Nat.le_of_ble_eq_true rfl)⟩ dX5_init_36 rfl hM (fun σ44 ρ45 hq46 hM => ?_)
  have h0 := sh_up h0
  have hq3 := sh_up hq3
  have hj7 := sh_up hj7
  have hq10 := sh_up hq10
  have hj13 := sh_up hj13
  have hq16 := sh_up hq16
  have hj19 := sh_up hj19
  have hq22 := sh_up hq22
  have hj25 := sh_up hj25
  have hq28 := sh_up hq28
  have hj31 := sh_up hj31
  have hq34 := sh_up hq34
  have hj37 := sh_up hj37
  have hq40 := sh_up hq40
  have hj43 := sh_up hj43
  refine g_dup hC dX5_init_39 rfl rfl ?_
  refine g_callIv (As := []) (st' := [vr X ((n + 19)), .int ((6 : Int32)), vr X j43]) (k := (n + 19)) (mc := 2) (ms := 44) (L' := 1) hC Y_X8_init ⟨rfl, k_128⟩ k_204 ⟨by decide, by decide⟩ dX5_init_40 rfl rfl rfl (Nat.le_of_ble_eq_true rfl) ⟨by rw [hRm.1]; exact (Nat.le_of_ble_eq_true rfl), by rw [hRm.2]; exact (Nat.le_of_ble_eq_true rfl)⟩ hM (fun c hc => c_X8_init (xE X) (n + 19) hq46 c hc) (fun c47 hM => ?_)
  have h0 := sh_upm (m := 2) h0
  have hq3 := sh_upm (m := 2) hq3
  have hj7 := sh_upm (m := 2) hj7
  have hq10 := sh_upm (m := 2) hq10
  have hj13 := sh_upm (m := 2) hj13
  have hq16 := sh_upm (m := 2) hq16
  have hj19 := sh_upm (m := 2) hj19
  have hq22 := sh_upm (m := 2) hq22
  have hj25 := sh_upm (m := 2) hj25
  have hq28 := sh_upm (m := 2) hq28
  have hj31 := sh_upm (m := 2) hj31
  have hq34 := sh_upm (m := 2) hq34
  have hj37 := sh_upm (m := 2) hj37
  have hq40 := sh_upm (m := 2) hq40
  have hj43 := sh_upm (m := 2) hj43
  have hq46 := sh_upm (m := 2) hq46
  refine g_aast (ci := 0) (te := 7) hC hj43 (by decide) rfl hq46 (by decide) rfl rfl dX5_init_43 rfl hM (fun ρ48 hM => ?_)
  refine g_iinc0 (v := (7 : Int32)) (lv' := [(1, .int ((7 : Int32))), (0, vr X a0)]) hC dX5_init_44 rfl (j := 0) rfl (by decide) hml (by decide) rfl ?_
  refine g_goto (tgt := 25) hC dX5_init_47 rfl (by decide) ?_
  refine g_iload_n hC dX5_init_25 rfl 0 rfl ?_
  refine g_bipush (v := 8) hC dX5_init_26 rfl ib_8 ?_
  refine g_icmp_ge_f (tgt := 50) hC dX5_init_28 rfl (by decide) (by decide) ?_
  refine g_aload_n hC dX5_init_31 rfl 1 rfl ?_
  refine fg_4_0 hC h0 k_205 dX5_init_32 rfl hM (fun j49 hj49 hM => ?_)
  refine g_iload_n hC dX5_init_35 rfl 0 rfl ?_
  refine g_new (ci := 7) (N := 4) (T := TX8) (ty := tyX8) hC (by decide) rfl rfl iX8 tyX8_ok dfX8 k_202 k_126 k_94 ⟨by rw [hRm.1]; exact (Nat.le_of_ble_eq_true rfl), by rw [hRm.2]; exact (Nat.le_of_ble_eq_true rfl)⟩ dX5_init_36 rfl hM (fun σ50 ρ51 hq52 hM => ?_)
  have h0 := sh_up h0
  have hq3 := sh_up hq3
  have hj7 := sh_up hj7
  have hq10 := sh_up hq10
  have hj13 := sh_up hj13
  have hq16 := sh_up hq16
  have hj19 := sh_up hj19
  have hq22 := sh_up hq22
  have hj25 := sh_up hj25
  have hq28 := sh_up hq28
  have hj31 := sh_up hj31
  have hq34 := sh_up hq34
  have hj37 := sh_up hj37
  have hq40 := sh_up hq40
  have hj43 := sh_up hj43
  have hq46 := sh_up hq46
  have hj49 := sh_up hj49
  refine g_dup hC dX5_init_39 rfl rfl ?_
  refine g_callIv (As := []) (st' := [vr X ((n + 22)), .int ((7 : Int32)), vr X j49]) (k := (n + 22)) (mc := 2) (ms := 44) (L' := 1) hC Y_X8_init ⟨rfl, k_128⟩ k_204 ⟨by decide, by decide⟩ dX5_init_40 rfl rfl rfl (Nat.le_of_ble_eq_true rfl) ⟨by rw [hRm.1]; exact (Nat.le_of_ble_eq_true rfl), by rw [hRm.2]; exact (Nat.le_of_ble_eq_true rfl)⟩ hM (fun c hc => c_X8_init (xE X) (n + 22) hq52 c hc) (fun c53 hM => ?_)
  have h0 := sh_upm (m := 2) h0
  have hq3 := sh_upm (m := 2) hq3
  have hj7 := sh_upm (m := 2) hj7
  have hq10 := sh_upm (m := 2) hq10
  have hj13 := sh_upm (m := 2) hj13
  have hq16 := sh_upm (m := 2) hq16
  have hj19 := sh_upm (m := 2) hj19
  have hq22 := sh_upm (m := 2) hq22
  have hj25 := sh_upm (m := 2) hj25
  have hq28 := sh_upm (m := 2) hq28
  have hj31 := sh_upm (m := 2) hj31
  have hq34 := sh_upm (m := 2) hq34
  have hj37 := sh_upm (m := 2) hj37
  have hq40 := sh_upm (m := 2) hq40
  have hj43 := sh_upm (m := 2) hj43
  have hq46 := sh_upm (m := 2) hq46
  have hj49 := sh_upm (m := 2) hj49
  have hq52 := sh_upm (m := 2) hq52
  refine g_aast (ci := 0) (te := 7) hC hj49 (by decide) rfl hq52 (by decide) rfl rfl dX5_init_43 rfl hM (fun ρ54 hM => ?_)
  refine g_iinc0 (v := (8 : Int32)) (lv' := [(1, .int ((8 : Int32))), (0, vr X a0)]) hC dX5_init_44 rfl (j := 0) rfl (by decide) hml (by decide) rfl ?_
  refine g_goto (tgt := 25) hC dX5_init_47 rfl (by decide) ?_
  refine g_iload_n hC dX5_init_25 rfl 0 rfl ?_
  refine g_bipush (v := 8) hC dX5_init_26 rfl ib_8 ?_
  refine g_icmp_ge_t (tgt := 50) hC dX5_init_28 rfl (by decide) (by decide) ?_
  cases hM
  exact g_retv hR dX5_init_50 rfl
def MX6_init (n : Nat) (σ : Sto) (ρ : Rho) (a0 : Nat) : Option (Sto × Rho) :=
  nw 0 n σ ρ fun σ1 ρ2 =>
  Option.bind (MX0_init (n + 1) σ1 ρ2 n) fun c4 =>
  bn (ru c4.2 a0 0 (some n)) fun ρ5 =>
  nw 0 (n + 2) c4.1 ρ5 fun σ6 ρ7 =>
  Option.bind (MX0_init (n + 3) σ6 ρ7 (n + 2)) fun c9 =>
  bn (ru c9.2 a0 1 (some ((n + 2)))) fun ρ10 =>
  nw 0 (n + 4) c9.1 ρ10 fun σ11 ρ12 =>
  Option.bind (MX0_init (n + 5) σ11 ρ12 (n + 4)) fun c14 =>
  bn (ru c14.2 a0 2 (some ((n + 4)))) fun ρ15 =>
  nw 9 (n + 6) c14.1 ρ15 fun σ16 ρ17 =>
  Option.bind (MX10_init ((n + 6))) fun c19 =>
  bn (ru ρ17 a0 3 (some ((n + 6)))) fun ρ20 =>
  nw 9 (n + 7) σ16 ρ20 fun σ21 ρ22 =>
  Option.bind (MX10_init ((n + 7))) fun c24 =>
  bn (ru ρ22 a0 4 (some ((n + 7)))) fun ρ25 =>
  some (σ21, ρ25)
set_option maxHeartbeats 4000000 in
set_option maxRecDepth 100000 in
theorem c_X6_init (E : EX) {n : Nat} {σ : Sto} {ρ : Rho} (a0 : Nat) (h0 : Sh n a0 5) (res : Sto × Rho) (hM : MX6_init n σ ρ a0 = some res) : CTv E yX6_init cX6_init 1 3 8 30 [.ref (eb E + a0)] n σ ρ res.1 res.2 := by
  refine ct_v (by decide +kernel) (Nat.le_of_ble_eq_true rfl) (fun X hE hml hin hRm hC hR => ?_)
  subst hE
  show G X 0 0 n σ ρ 0 [(0, vr X a0)] []
  replace hC : Cx X cX6_init RX6 3 := hC
  unfold MX6_init at hM
  refine g_aload_n hC dX6_init_0 rfl 0 rfl ?_
  refine g_objInit hC k_312 k_117 k_118 (by decide) dX6_init_1 rfl (Nat.le_of_ble_eq_true rfl) ?_
  refine g_aload_n hC dX6_init_4 rfl 0 rfl ?_
  refine g_new (ci := 0) (N := 2) (T := TX0) (ty := tyX0) hC (by decide) rfl rfl iX0 tyX0_ok dfX0 k_313 k_314 k_101 ⟨by rw [hRm.1]; exact (Nat.le_of_ble_eq_true rfl), by rw [hRm.2]; exact (Nat.le_of_ble_eq_true rfl)⟩ dX6_init_5 rfl hM (fun σ1 ρ2 hq3 hM => ?_)
  have h0 := sh_up h0
  refine g_dup hC dX6_init_8 rfl rfl ?_
  refine g_callINv (As := []) (st' := [vr X n, vr X a0]) (k := n) (mc := 1) (ms := 6) (L' := 2) hC Y_X0_init ⟨rfl, k_316⟩ k_315 ⟨by decide, by decide⟩ dX6_init_9 rfl rfl rfl (Nat.le_of_ble_eq_true rfl) ⟨by rw [hRm.1]; exact (Nat.le_of_ble_eq_true rfl), by rw [hRm.2]; exact (Nat.le_of_ble_eq_true rfl)⟩ hM (fun c hc => c_X0_init (xE X) n hq3 c hc) (fun c4 hM => ?_)
  have h0 := sh_upm (m := 1) h0
  have hq3 := sh_upm (m := 1) hq3
  refine fp_5_0 (own := "") hC hin h0 hq3 k_335 dX6_init_12 rfl hM (fun ρ5 hM => ?_)
  refine g_aload_n hC dX6_init_15 rfl 0 rfl ?_
  refine g_new (ci := 0) (N := 2) (T := TX0) (ty := tyX0) hC (by decide) rfl rfl iX0 tyX0_ok dfX0 k_313 k_314 k_101 ⟨by rw [hRm.1]; exact (Nat.le_of_ble_eq_true rfl), by rw [hRm.2]; exact (Nat.le_of_ble_eq_true rfl)⟩ dX6_init_16 rfl hM (fun σ6 ρ7 hq8 hM => ?_)
  have h0 := sh_up h0
  have hq3 := sh_up hq3
  refine g_dup hC dX6_init_19 rfl rfl ?_
  refine g_callINv (As := []) (st' := [vr X ((n + 2)), vr X a0]) (k := (n + 2)) (mc := 1) (ms := 6) (L' := 2) hC Y_X0_init ⟨rfl, k_316⟩ k_315 ⟨by decide, by decide⟩ dX6_init_20 rfl rfl rfl (Nat.le_of_ble_eq_true rfl) ⟨by rw [hRm.1]; exact (Nat.le_of_ble_eq_true rfl), by rw [hRm.2]; exact (Nat.le_of_ble_eq_true rfl)⟩ hM (fun c hc => c_X0_init (xE X) (n + 2) hq8 c hc) (fun c9 hM => ?_)
  have h0 := sh_upm (m := 1) h0
  have hq3 := sh_upm (m := 1) hq3
  have hq8 := sh_upm (m := 1) hq8
  refine fp_5_1 (own := "") hC hin h0 hq8 k_336 dX6_init_23 rfl hM (fun ρ10 hM => ?_)
  refine g_aload_n hC dX6_init_26 rfl 0 rfl ?_
  refine g_new (ci := 0) (N := 2) (T := TX0) (ty := tyX0) hC (by decide) rfl rfl iX0 tyX0_ok dfX0 k_313 k_314 k_101 ⟨by rw [hRm.1]; exact (Nat.le_of_ble_eq_true rfl), by rw [hRm.2]; exact (Nat.le_of_ble_eq_true rfl)⟩ dX6_init_27 rfl hM (fun σ11 ρ12 hq13 hM => ?_)
  have h0 := sh_up h0
  have hq3 := sh_up hq3
  have hq8 := sh_up hq8
  refine g_dup hC dX6_init_30 rfl rfl ?_
  refine g_callINv (As := []) (st' := [vr X ((n + 4)), vr X a0]) (k := (n + 4)) (mc := 1) (ms := 6) (L' := 2) hC Y_X0_init ⟨rfl, k_316⟩ k_315 ⟨by decide, by decide⟩ dX6_init_31 rfl rfl rfl (Nat.le_of_ble_eq_true rfl) ⟨by rw [hRm.1]; exact (Nat.le_of_ble_eq_true rfl), by rw [hRm.2]; exact (Nat.le_of_ble_eq_true rfl)⟩ hM (fun c hc => c_X0_init (xE X) (n + 4) hq13 c hc) (fun c14 hM => ?_)
  have h0 := sh_upm (m := 1) h0
  have hq3 := sh_upm (m := 1) hq3
  have hq8 := sh_upm (m := 1) hq8
  have hq13 := sh_upm (m := 1) hq13
  refine fp_5_2 (own := "") hC hin h0 hq13 k_337 dX6_init_34 rfl hM (fun ρ15 hM => ?_)
  refine g_aload_n hC dX6_init_37 rfl 0 rfl ?_
  refine g_new (ci := 9) (N := 3) (T := TX10) (ty := tyX10) hC (by decide) rfl rfl iX10 tyX10_ok dfX10 k_333 k_258 k_99 ⟨by rw [hRm.1]; exact (Nat.le_of_ble_eq_true rfl), by rw [hRm.2]; exact (Nat.le_of_ble_eq_true rfl)⟩ dX6_init_38 rfl hM (fun σ16 ρ17 hq18 hM => ?_)
  have h0 := sh_up h0
  have hq3 := sh_up hq3
  have hq8 := sh_up hq8
  have hq13 := sh_up hq13
  refine g_dup hC dX6_init_41 rfl rfl ?_
  refine g_callINv (As := []) (st' := [vr X ((n + 6)), vr X a0]) (k := ((n + 6))) (mc := 0) (ms := 0) (L' := 1) hC Y_X10_init ⟨rfl, k_260⟩ k_334 ⟨by decide, by decide⟩ dX6_init_42 rfl rfl rfl (Nat.le_of_ble_eq_true rfl) ⟨by rw [hRm.1]; exact (Nat.le_of_ble_eq_true rfl), by rw [hRm.2]; exact (Nat.le_of_ble_eq_true rfl)⟩ hM (fun c hc => c_X10_init (xE X) ((n + 6)) hq18 c hc) (fun c19 hM => ?_)
  refine fp_5_3 (own := "") hC hin h0 hq18 k_339 dX6_init_45 rfl hM (fun ρ20 hM => ?_)
  refine g_aload_n hC dX6_init_48 rfl 0 rfl ?_
  refine g_new (ci := 9) (N := 3) (T := TX10) (ty := tyX10) hC (by decide) rfl rfl iX10 tyX10_ok dfX10 k_333 k_258 k_99 ⟨by rw [hRm.1]; exact (Nat.le_of_ble_eq_true rfl), by rw [hRm.2]; exact (Nat.le_of_ble_eq_true rfl)⟩ dX6_init_49 rfl hM (fun σ21 ρ22 hq23 hM => ?_)
  have h0 := sh_up h0
  have hq3 := sh_up hq3
  have hq8 := sh_up hq8
  have hq13 := sh_up hq13
  have hq18 := sh_up hq18
  refine g_dup hC dX6_init_52 rfl rfl ?_
  refine g_callINv (As := []) (st' := [vr X ((n + 7)), vr X a0]) (k := ((n + 7))) (mc := 0) (ms := 0) (L' := 1) hC Y_X10_init ⟨rfl, k_260⟩ k_334 ⟨by decide, by decide⟩ dX6_init_53 rfl rfl rfl (Nat.le_of_ble_eq_true rfl) ⟨by rw [hRm.1]; exact (Nat.le_of_ble_eq_true rfl), by rw [hRm.2]; exact (Nat.le_of_ble_eq_true rfl)⟩ hM (fun c hc => c_X10_init (xE X) ((n + 7)) hq23 c hc) (fun c24 hM => ?_)
  refine fp_5_4 (own := "") hC hin h0 hq23 k_340 dX6_init_56 rfl hM (fun ρ25 hM => ?_)
  cases hM
  exact g_retv hR dX6_init_59 rfl
def MX7_init (n : Nat) (σ : Sto) (ρ : Rho) (a0 : Nat) : Option (Sto × Rho) :=
  nw 7 n σ ρ fun σ1 ρ2 =>
  Option.bind (MX8_init (n + 1) σ1 ρ2 n) fun c4 =>
  bn (ru c4.2 a0 0 (some n)) fun ρ5 =>
  bn (su c4.1 a0 1 ((0 : Int32))) fun σ6 =>
  bn (su σ6 a0 2 ((-1 : Int32))) fun σ7 =>
  nw 2 (n + 3) σ7 ρ5 fun σ8 ρ9 =>
  Option.bind (MX3_init ((n + 3))) fun c11 =>
  bn (ru ρ9 a0 3 (some ((n + 3)))) fun ρ12 =>
  nw 9 (n + 4) σ8 ρ12 fun σ13 ρ14 =>
  Option.bind (MX10_init ((n + 4))) fun c16 =>
  bn (ru ρ14 a0 4 (some ((n + 4)))) fun ρ17 =>
  bn (su σ13 a0 5 ((0 : Int32))) fun σ18 =>
  bn (su σ18 a0 6 ((0 : Int32))) fun σ19 =>
  bn (su σ19 a0 7 ((0 : Int32))) fun σ20 =>
  bn (su σ20 a0 8 ((0 : Int32))) fun σ21 =>
  some (σ21, ρ17)
set_option maxHeartbeats 4000000 in
set_option maxRecDepth 100000 in
theorem c_X7_init (E : EX) {n : Nat} {σ : Sto} {ρ : Rho} (a0 : Nat) (h0 : Sh n a0 6) (res : Sto × Rho) (hM : MX7_init n σ ρ a0 = some res) : CTv E yX7_init cX7_init 1 2 5 57 [.ref (eb E + a0)] n σ ρ res.1 res.2 := by
  refine ct_v (by decide +kernel) (Nat.le_of_ble_eq_true rfl) (fun X hE hml hin hRm hC hR => ?_)
  subst hE
  show G X 0 0 n σ ρ 0 [(0, vr X a0)] []
  replace hC : Cx X cX7_init RX7 2 := hC
  unfold MX7_init at hM
  refine g_aload_n hC dX7_init_0 rfl 0 rfl ?_
  refine g_objInit hC k_222 k_117 k_118 (by decide) dX7_init_1 rfl (Nat.le_of_ble_eq_true rfl) ?_
  refine g_aload_n hC dX7_init_4 rfl 0 rfl ?_
  refine g_new (ci := 7) (N := 4) (T := TX8) (ty := tyX8) hC (by decide) rfl rfl iX8 tyX8_ok dfX8 k_223 k_126 k_94 ⟨by rw [hRm.1]; exact (Nat.le_of_ble_eq_true rfl), by rw [hRm.2]; exact (Nat.le_of_ble_eq_true rfl)⟩ dX7_init_5 rfl hM (fun σ1 ρ2 hq3 hM => ?_)
  have h0 := sh_up h0
  refine g_dup hC dX7_init_8 rfl rfl ?_
  refine g_callIv (As := []) (st' := [vr X n, vr X a0]) (k := n) (mc := 2) (ms := 44) (L' := 1) hC Y_X8_init ⟨rfl, k_128⟩ k_224 ⟨by decide, by decide⟩ dX7_init_9 rfl rfl rfl (Nat.le_of_ble_eq_true rfl) ⟨by rw [hRm.1]; exact (Nat.le_of_ble_eq_true rfl), by rw [hRm.2]; exact (Nat.le_of_ble_eq_true rfl)⟩ hM (fun c hc => c_X8_init (xE X) n hq3 c hc) (fun c4 hM => ?_)
  have h0 := sh_upm (m := 2) h0
  have hq3 := sh_upm (m := 2) hq3
  refine fp_6_0 (own := "") hC hin h0 hq3 k_276 dX7_init_12 rfl hM (fun ρ5 hM => ?_)
  refine g_aload_n hC dX7_init_15 rfl 0 rfl ?_
  refine g_iconst (v := 0) hC dX7_init_16 rfl ic_0 ?_
  refine fp_6_1 hC h0 k_278 dX7_init_17 rfl hM (fun σ6 hM => ?_)
  refine g_aload_n hC dX7_init_20 rfl 0 rfl ?_
  refine g_iconst (v := -1) hC dX7_init_21 rfl ic_m1 ?_
  refine fp_6_2 hC h0 k_280 dX7_init_22 rfl hM (fun σ7 hM => ?_)
  refine g_aload_n hC dX7_init_25 rfl 0 rfl ?_
  refine g_new (ci := 2) (N := 6) (T := TX3) (ty := tyX3) hC (by decide) rfl rfl iX3 tyX3_ok dfX3 k_225 k_226 k_98 ⟨by rw [hRm.1]; exact (Nat.le_of_ble_eq_true rfl), by rw [hRm.2]; exact (Nat.le_of_ble_eq_true rfl)⟩ dX7_init_26 rfl hM (fun σ8 ρ9 hq10 hM => ?_)
  have h0 := sh_up h0
  have hq3 := sh_up hq3
  refine g_dup hC dX7_init_29 rfl rfl ?_
  refine g_callINv (As := []) (st' := [vr X ((n + 3)), vr X a0]) (k := ((n + 3))) (mc := 0) (ms := 0) (L' := 1) hC Y_X3_init ⟨rfl, k_228⟩ k_227 ⟨by decide, by decide⟩ dX7_init_30 rfl rfl rfl (Nat.le_of_ble_eq_true rfl) ⟨by rw [hRm.1]; exact (Nat.le_of_ble_eq_true rfl), by rw [hRm.2]; exact (Nat.le_of_ble_eq_true rfl)⟩ hM (fun c hc => c_X3_init (xE X) ((n + 3)) hq10 c hc) (fun c11 hM => ?_)
  refine fp_6_3 (own := "") hC hin h0 hq10 k_282 dX7_init_33 rfl hM (fun ρ12 hM => ?_)
  refine g_aload_n hC dX7_init_36 rfl 0 rfl ?_
  refine g_new (ci := 9) (N := 3) (T := TX10) (ty := tyX10) hC (by decide) rfl rfl iX10 tyX10_ok dfX10 k_257 k_258 k_99 ⟨by rw [hRm.1]; exact (Nat.le_of_ble_eq_true rfl), by rw [hRm.2]; exact (Nat.le_of_ble_eq_true rfl)⟩ dX7_init_37 rfl hM (fun σ13 ρ14 hq15 hM => ?_)
  have h0 := sh_up h0
  have hq3 := sh_up hq3
  have hq10 := sh_up hq10
  refine g_dup hC dX7_init_40 rfl rfl ?_
  refine g_callINv (As := []) (st' := [vr X ((n + 4)), vr X a0]) (k := ((n + 4))) (mc := 0) (ms := 0) (L' := 1) hC Y_X10_init ⟨rfl, k_260⟩ k_259 ⟨by decide, by decide⟩ dX7_init_41 rfl rfl rfl (Nat.le_of_ble_eq_true rfl) ⟨by rw [hRm.1]; exact (Nat.le_of_ble_eq_true rfl), by rw [hRm.2]; exact (Nat.le_of_ble_eq_true rfl)⟩ hM (fun c hc => c_X10_init (xE X) ((n + 4)) hq15 c hc) (fun c16 hM => ?_)
  refine fp_6_4 (own := "") hC hin h0 hq15 k_283 dX7_init_44 rfl hM (fun ρ17 hM => ?_)
  refine g_aload_n hC dX7_init_47 rfl 0 rfl ?_
  refine g_iconst (v := 0) hC dX7_init_48 rfl ic_0 ?_
  refine fp_6_5 hC h0 k_284 dX7_init_49 rfl hM (fun σ18 hM => ?_)
  refine g_aload_n hC dX7_init_52 rfl 0 rfl ?_
  refine g_iconst (v := 0) hC dX7_init_53 rfl ic_0 ?_
  refine fp_6_6 hC h0 k_285 dX7_init_54 rfl hM (fun σ19 hM => ?_)
  refine g_aload_n hC dX7_init_57 rfl 0 rfl ?_
  refine g_iconst (v := 0) hC dX7_init_58 rfl ic_0 ?_
  refine fp_6_7 hC h0 k_286 dX7_init_59 rfl hM (fun σ20 hM => ?_)
  refine g_aload_n hC dX7_init_62 rfl 0 rfl ?_
  refine g_iconst (v := 0) hC dX7_init_63 rfl ic_0 ?_
  refine fp_6_8 hC h0 k_287 dX7_init_64 rfl hM (fun σ21 hM => ?_)
  cases hM
  exact g_retv hR dX7_init_67 rfl
def MX11_init (n : Nat) (σ : Sto) (ρ : Rho) (a0 : Nat) : Option (Sto × Rho) :=
  nw 3 n σ ρ fun σ1 ρ2 =>
  Option.bind (MX4_init (n + 1) σ1 ρ2 n) fun c4 =>
  bn (ru c4.2 a0 0 (some n)) fun ρ5 =>
  nw 4 (n + 6) c4.1 ρ5 fun σ6 ρ7 =>
  Option.bind (MX5_init (n + 7) σ6 ρ7 (n + 6)) fun c9 =>
  bn (ru c9.2 a0 1 (some ((n + 6)))) fun ρ10 =>
  nwa 25 (n + 32) (3 : Int32) c9.1 ρ10 fun σ11 ρ12 =>
  bn (ru ρ12 a0 2 (some ((n + 32)))) fun ρ14 =>
  Option.bind (ρ14 a0 2) fun j15 =>
  nw 3 (n + 33) σ11 ρ14 fun σ16 ρ17 =>
  Option.bind (MX4_init (n + 34) σ16 ρ17 (n + 33)) fun c19 =>
  Option.bind (rp c19.2 j15 ((0 : Int32)) ((n + 33))) fun ρ20 =>
  Option.bind (ρ20 a0 2) fun j21 =>
  nw 3 (n + 39) c19.1 ρ20 fun σ22 ρ23 =>
  Option.bind (MX4_init (n + 40) σ22 ρ23 (n + 39)) fun c25 =>
  Option.bind (rp c25.2 j21 ((1 : Int32)) ((n + 39))) fun ρ26 =>
  Option.bind (ρ26 a0 2) fun j27 =>
  nw 3 (n + 45) c25.1 ρ26 fun σ28 ρ29 =>
  Option.bind (MX4_init (n + 46) σ28 ρ29 (n + 45)) fun c31 =>
  Option.bind (rp c31.2 j27 ((2 : Int32)) ((n + 45))) fun ρ32 =>
  nwa 22 (n + 51) (3 : Int32) c31.1 ρ32 fun σ33 ρ34 =>
  bn (ru ρ34 a0 3 (some ((n + 51)))) fun ρ36 =>
  nw 6 (n + 52) σ33 ρ36 fun σ37 ρ38 =>
  Option.bind (MX7_init (n + 53) σ37 ρ38 (n + 52)) fun c40 =>
  bn (ru c40.2 a0 4 (some ((n + 52)))) fun ρ41 =>
  nw 5 (n + 58) c40.1 ρ41 fun σ42 ρ43 =>
  Option.bind (MX6_init (n + 59) σ42 ρ43 (n + 58)) fun c45 =>
  bn (ru c45.2 a0 5 (some ((n + 58)))) fun ρ46 =>
  nw 1 (n + 67) c45.1 ρ46 fun σ47 ρ48 =>
  Option.bind (MX1_init (n + 68) σ47 ρ48 (n + 67)) fun c50 =>
  bn (ru c50.2 a0 6 (some ((n + 67)))) fun ρ51 =>
  nw 0 (n + 82) c50.1 ρ51 fun σ52 ρ53 =>
  Option.bind (MX0_init (n + 83) σ52 ρ53 (n + 82)) fun c55 =>
  bn (ru c55.2 a0 7 (some ((n + 82)))) fun ρ56 =>
  nw 0 (n + 84) c55.1 ρ56 fun σ57 ρ58 =>
  Option.bind (MX0_init (n + 85) σ57 ρ58 (n + 84)) fun c60 =>
  bn (ru c60.2 a0 8 (some ((n + 84)))) fun ρ61 =>
  nw 2 (n + 86) c60.1 ρ61 fun σ62 ρ63 =>
  Option.bind (MX3_init ((n + 86))) fun c65 =>
  bn (ru ρ63 a0 9 (some ((n + 86)))) fun ρ66 =>
  nw 2 (n + 87) σ62 ρ66 fun σ67 ρ68 =>
  Option.bind (MX3_init ((n + 87))) fun c70 =>
  bn (ru ρ68 a0 10 (some ((n + 87)))) fun ρ71 =>
  nw 9 (n + 88) σ67 ρ71 fun σ72 ρ73 =>
  Option.bind (MX10_init ((n + 88))) fun c75 =>
  bn (ru ρ73 a0 11 (some ((n + 88)))) fun ρ76 =>
  nw 9 (n + 89) σ72 ρ76 fun σ77 ρ78 =>
  Option.bind (MX10_init ((n + 89))) fun c80 =>
  bn (ru ρ78 a0 12 (some ((n + 89)))) fun ρ81 =>
  nw 9 (n + 90) σ77 ρ81 fun σ82 ρ83 =>
  Option.bind (MX10_init ((n + 90))) fun c85 =>
  bn (ru ρ83 a0 13 (some ((n + 90)))) fun ρ86 =>
  some (σ82, ρ86)
set_option maxHeartbeats 4000000 in
set_option maxRecDepth 100000 in
theorem c_X11_init (E : EX) {n : Nat} {σ : Sto} {ρ : Rho} (a0 : Nat) (h0 : Sh n a0 10) (res : Sto × Rho) (hM : MX11_init n σ ρ a0 = some res) : CTv E yX11_init cX11_init 2 4 91 2823 [.ref (eb E + a0)] n σ ρ res.1 res.2 := by
  refine ct_v (by decide +kernel) (Nat.le_of_ble_eq_true rfl) (fun X hE hml hin hRm hC hR => ?_)
  subst hE
  show G X 0 0 n σ ρ 0 [(0, vr X a0)] []
  replace hC : Cx X cX11_init RX11 4 := hC
  unfold MX11_init at hM
  refine g_aload_n hC dX11_init_0 rfl 0 rfl ?_
  refine g_objInit hC k_116 k_117 k_118 (by decide) dX11_init_1 rfl (Nat.le_of_ble_eq_true rfl) ?_
  refine g_aload_n hC dX11_init_4 rfl 0 rfl ?_
  refine g_new (ci := 3) (N := 6) (T := TX4) (ty := tyX4) hC (by decide) rfl rfl iX4 tyX4_ok dfX4 k_119 k_120 k_93 ⟨by rw [hRm.1]; exact (Nat.le_of_ble_eq_true rfl), by rw [hRm.2]; exact (Nat.le_of_ble_eq_true rfl)⟩ dX11_init_5 rfl hM (fun σ1 ρ2 hq3 hM => ?_)
  have h0 := sh_up h0
  refine g_dup hC dX11_init_8 rfl rfl ?_
  refine g_callINv (As := []) (st' := [vr X n, vr X a0]) (k := n) (mc := 5) (ms := 550) (L' := 2) hC Y_X4_init ⟨rfl, k_122⟩ k_121 ⟨by decide, by decide⟩ dX11_init_9 rfl rfl rfl (Nat.le_of_ble_eq_true rfl) ⟨by rw [hRm.1]; exact (Nat.le_of_ble_eq_true rfl), by rw [hRm.2]; exact (Nat.le_of_ble_eq_true rfl)⟩ hM (fun c hc => c_X4_init (xE X) n hq3 c hc) (fun c4 hM => ?_)
  have h0 := sh_upm (m := 5) h0
  have hq3 := sh_upm (m := 5) hq3
  refine fp_10_0 (own := "") hC hin h0 hq3 k_380 dX11_init_12 rfl hM (fun ρ5 hM => ?_)
  refine g_aload_n hC dX11_init_15 rfl 0 rfl ?_
  refine g_new (ci := 4) (N := 3) (T := TX5) (ty := tyX5) hC (by decide) rfl rfl iX5 tyX5_ok dfX5 k_196 k_197 k_96 ⟨by rw [hRm.1]; exact (Nat.le_of_ble_eq_true rfl), by rw [hRm.2]; exact (Nat.le_of_ble_eq_true rfl)⟩ dX11_init_16 rfl hM (fun σ6 ρ7 hq8 hM => ?_)
  have h0 := sh_up h0
  have hq3 := sh_up hq3
  refine g_dup hC dX11_init_19 rfl rfl ?_
  refine g_callIv (As := []) (st' := [vr X ((n + 6)), vr X a0]) (k := (n + 6)) (mc := 25) (ms := 392) (L' := 2) hC Y_X5_init ⟨rfl, k_199⟩ k_198 ⟨by decide, by decide⟩ dX11_init_20 rfl rfl rfl (Nat.le_of_ble_eq_true rfl) ⟨by rw [hRm.1]; exact (Nat.le_of_ble_eq_true rfl), by rw [hRm.2]; exact (Nat.le_of_ble_eq_true rfl)⟩ hM (fun c hc => c_X5_init (xE X) (n + 6) hq8 c hc) (fun c9 hM => ?_)
  have h0 := sh_upm (m := 25) h0
  have hq3 := sh_upm (m := 25) hq3
  have hq8 := sh_upm (m := 25) hq8
  refine fp_10_1 (own := "") hC hin h0 hq8 k_381 dX11_init_23 rfl hM (fun ρ10 hM => ?_)
  refine g_aload_n hC dX11_init_26 rfl 0 rfl ?_
  refine g_iconst (v := 3) hC dX11_init_27 rfl ic_3 ?_
  refine g_newq (t := 5) (N := 3) hC k_119 (by simp [RX0, RX8, RX4]) rfl (by decide) (by decide) (by decide) (Nat.le_of_ble_eq_true rfl) ⟨by rw [hRm.1]; exact (Nat.le_of_ble_eq_true rfl), by rw [hRm.2]; exact (Nat.le_of_ble_eq_true rfl)⟩ dX11_init_28 rfl hM (fun σ11 ρ12 hq13 hM => ?_)
  have h0 := sh_up h0
  have hq3 := sh_up hq3
  have hq8 := sh_up hq8
  refine fp_10_2 (own := "") hC hin h0 hq13 k_382 dX11_init_31 rfl hM (fun ρ14 hM => ?_)
  refine g_iconst (v := 0) hC dX11_init_34 rfl ic_0 ?_
  refine g_istore_n0 (lv' := [(1, .int ((0 : Int32))), (0, vr X a0)]) hC dX11_init_35 rfl hml (by decide) rfl ?_
  refine g_iload_n hC dX11_init_36 rfl 0 rfl ?_
  refine g_iconst (v := 3) hC dX11_init_37 rfl ic_3 ?_
  refine g_icmp_ge_f (tgt := 60) hC dX11_init_38 rfl (by decide) (by decide) ?_
  refine g_aload_n hC dX11_init_41 rfl 1 rfl ?_
  refine fg_10_2 hC h0 k_382 dX11_init_42 rfl hM (fun j15 hj15 hM => ?_)
  refine g_iload_n hC dX11_init_45 rfl 0 rfl ?_
  refine g_new (ci := 3) (N := 6) (T := TX4) (ty := tyX4) hC (by decide) rfl rfl iX4 tyX4_ok dfX4 k_119 k_120 k_93 ⟨by rw [hRm.1]; exact (Nat.le_of_ble_eq_true rfl), by rw [hRm.2]; exact (Nat.le_of_ble_eq_true rfl)⟩ dX11_init_46 rfl hM (fun σ16 ρ17 hq18 hM => ?_)
  have h0 := sh_up h0
  have hq3 := sh_up hq3
  have hq8 := sh_up hq8
  have hq13 := sh_up hq13
  have hj15 := sh_up hj15
  refine g_dup hC dX11_init_49 rfl rfl ?_
  refine g_callINv (As := []) (st' := [vr X ((n + 33)), .int ((0 : Int32)), vr X j15]) (k := (n + 33)) (mc := 5) (ms := 550) (L' := 2) hC Y_X4_init ⟨rfl, k_122⟩ k_121 ⟨by decide, by decide⟩ dX11_init_50 rfl rfl rfl (Nat.le_of_ble_eq_true rfl) ⟨by rw [hRm.1]; exact (Nat.le_of_ble_eq_true rfl), by rw [hRm.2]; exact (Nat.le_of_ble_eq_true rfl)⟩ hM (fun c hc => c_X4_init (xE X) (n + 33) hq18 c hc) (fun c19 hM => ?_)
  have h0 := sh_upm (m := 5) h0
  have hq3 := sh_upm (m := 5) hq3
  have hq8 := sh_upm (m := 5) hq8
  have hq13 := sh_upm (m := 5) hq13
  have hj15 := sh_upm (m := 5) hj15
  have hq18 := sh_upm (m := 5) hq18
  refine g_aast (ci := 0) (te := 3) hC hj15 (by decide) rfl hq18 (by decide) rfl rfl dX11_init_53 rfl hM (fun ρ20 hM => ?_)
  refine g_iinc0 (v := (1 : Int32)) (lv' := [(1, .int ((1 : Int32))), (0, vr X a0)]) hC dX11_init_54 rfl (j := 0) rfl (by decide) hml (by decide) rfl ?_
  refine g_goto (tgt := 36) hC dX11_init_57 rfl (by decide) ?_
  refine g_iload_n hC dX11_init_36 rfl 0 rfl ?_
  refine g_iconst (v := 3) hC dX11_init_37 rfl ic_3 ?_
  refine g_icmp_ge_f (tgt := 60) hC dX11_init_38 rfl (by decide) (by decide) ?_
  refine g_aload_n hC dX11_init_41 rfl 1 rfl ?_
  refine fg_10_2 hC h0 k_382 dX11_init_42 rfl hM (fun j21 hj21 hM => ?_)
  refine g_iload_n hC dX11_init_45 rfl 0 rfl ?_
  refine g_new (ci := 3) (N := 6) (T := TX4) (ty := tyX4) hC (by decide) rfl rfl iX4 tyX4_ok dfX4 k_119 k_120 k_93 ⟨by rw [hRm.1]; exact (Nat.le_of_ble_eq_true rfl), by rw [hRm.2]; exact (Nat.le_of_ble_eq_true rfl)⟩ dX11_init_46 rfl hM (fun σ22 ρ23 hq24 hM => ?_)
  have h0 := sh_up h0
  have hq3 := sh_up hq3
  have hq8 := sh_up hq8
  have hq13 := sh_up hq13
  have hj15 := sh_up hj15
  have hq18 := sh_up hq18
  have hj21 := sh_up hj21
  refine g_dup hC dX11_init_49 rfl rfl ?_
  refine g_callINv (As := []) (st' := [vr X ((n + 39)), .int ((1 : Int32)), vr X j21]) (k := (n + 39)) (mc := 5) (ms := 550) (L' := 2) hC Y_X4_init ⟨rfl, k_122⟩ k_121 ⟨by decide, by decide⟩ dX11_init_50 rfl rfl rfl (Nat.le_of_ble_eq_true rfl) ⟨by rw [hRm.1]; exact (Nat.le_of_ble_eq_true rfl), by rw [hRm.2]; exact (Nat.le_of_ble_eq_true rfl)⟩ hM (fun c hc => c_X4_init (xE X) (n + 39) hq24 c hc) (fun c25 hM => ?_)
  have h0 := sh_upm (m := 5) h0
  have hq3 := sh_upm (m := 5) hq3
  have hq8 := sh_upm (m := 5) hq8
  have hq13 := sh_upm (m := 5) hq13
  have hj15 := sh_upm (m := 5) hj15
  have hq18 := sh_upm (m := 5) hq18
  have hj21 := sh_upm (m := 5) hj21
  have hq24 := sh_upm (m := 5) hq24
  refine g_aast (ci := 0) (te := 3) hC hj21 (by decide) rfl hq24 (by decide) rfl rfl dX11_init_53 rfl hM (fun ρ26 hM => ?_)
  refine g_iinc0 (v := (2 : Int32)) (lv' := [(1, .int ((2 : Int32))), (0, vr X a0)]) hC dX11_init_54 rfl (j := 0) rfl (by decide) hml (by decide) rfl ?_
  refine g_goto (tgt := 36) hC dX11_init_57 rfl (by decide) ?_
  refine g_iload_n hC dX11_init_36 rfl 0 rfl ?_
  refine g_iconst (v := 3) hC dX11_init_37 rfl ic_3 ?_
  refine g_icmp_ge_f (tgt := 60) hC dX11_init_38 rfl (by decide) (by decide) ?_
  refine g_aload_n hC dX11_init_41 rfl 1 rfl ?_
  refine fg_10_2 hC h0 k_382 dX11_init_42 rfl hM (fun j27 hj27 hM => ?_)
  refine g_iload_n hC dX11_init_45 rfl 0 rfl ?_
  refine g_new (ci := 3) (N := 6) (T := TX4) (ty := tyX4) hC (by decide) rfl rfl iX4 tyX4_ok dfX4 k_119 k_120 k_93 ⟨by rw [hRm.1]; exact (Nat.le_of_ble_eq_true rfl), by rw [hRm.2]; exact (Nat.le_of_ble_eq_true rfl)⟩ dX11_init_46 rfl hM (fun σ28 ρ29 hq30 hM => ?_)
  have h0 := sh_up h0
  have hq3 := sh_up hq3
  have hq8 := sh_up hq8
  have hq13 := sh_up hq13
  have hj15 := sh_up hj15
  have hq18 := sh_up hq18
  have hj21 := sh_up hj21
  have hq24 := sh_up hq24
  have hj27 := sh_up hj27
  refine g_dup hC dX11_init_49 rfl rfl ?_
  refine g_callINv (As := []) (st' := [vr X ((n + 45)), .int ((2 : Int32)), vr X j27]) (k := (n + 45)) (mc := 5) (ms := 550) (L' := 2) hC Y_X4_init ⟨rfl, k_122⟩ k_121 ⟨by decide, by decide⟩ dX11_init_50 rfl rfl rfl (Nat.le_of_ble_eq_true rfl) ⟨by rw [hRm.1]; exact (Nat.le_of_ble_eq_true rfl), by rw [hRm.2]; exact (Nat.le_of_ble_eq_true rfl)⟩ hM (fun c hc => c_X4_init (xE X) (n + 45) hq30 c hc) (fun c31 hM => ?_)
  have h0 := sh_upm (m := 5) h0
  have hq3 := sh_upm (m := 5) hq3
  have hq8 := sh_upm (m := 5) hq8
  have hq13 := sh_upm (m := 5) hq13
  have hj15 := sh_upm (m := 5) hj15
  have hq18 := sh_upm (m := 5) hq18
  have hj21 := sh_upm (m := 5) hj21
  have hq24 := sh_upm (m := 5) hq24
  have hj27 := sh_upm (m := 5) hj27
  have hq30 := sh_upm (m := 5) hq30
  refine g_aast (ci := 0) (te := 3) hC hj27 (by decide) rfl hq30 (by decide) rfl rfl dX11_init_53 rfl hM (fun ρ32 hM => ?_)
  refine g_iinc0 (v := (3 : Int32)) (lv' := [(1, .int ((3 : Int32))), (0, vr X a0)]) hC dX11_init_54 rfl (j := 0) rfl (by decide) hml (by decide) rfl ?_
  refine g_goto (tgt := 36) hC dX11_init_57 rfl (by decide) ?_
  refine g_iload_n hC dX11_init_36 rfl 0 rfl ?_
  refine g_iconst (v := 3) hC dX11_init_37 rfl ic_3 ?_
  refine g_icmp_ge_t (tgt := 60) hC dX11_init_38 rfl (by decide) (by decide) ?_
  refine g_aload_n hC dX11_init_60 rfl 1 rfl ?_
  refine g_iconst (v := 3) hC dX11_init_61 rfl ic_3 ?_
  refine g_newa (t := 2) (N := 3) (atype := .boolean) (ty := .boolean) hC k_256 rfl rfl (by decide) (fun C h => by cases h) rfl (by decide) (by decide) (Nat.le_of_ble_eq_true rfl) ⟨by rw [hRm.1]; exact (Nat.le_of_ble_eq_true rfl), by rw [hRm.2]; exact (Nat.le_of_ble_eq_true rfl)⟩ dX11_init_62 rfl hM (fun σ33 ρ34 hq35 hM => ?_)
  have h0 := sh_up h0
  have hq3 := sh_up hq3
  have hq8 := sh_up hq8
  have hq13 := sh_up hq13
  have hj15 := sh_up hj15
  have hq18 := sh_up hq18
  have hj21 := sh_up hj21
  have hq24 := sh_up hq24
  have hj27 := sh_up hj27
  have hq30 := sh_up hq30
  refine fp_10_3 (own := "") hC hin h0 hq35 k_383 dX11_init_64 rfl hM (fun ρ36 hM => ?_)
  refine g_aload_n hC dX11_init_67 rfl 1 rfl ?_
  refine g_new (ci := 6) (N := 9) (T := TX7) (ty := tyX7) hC (by decide) rfl rfl iX7 tyX7_ok dfX7 k_217 k_218 k_97 ⟨by rw [hRm.1]; exact (Nat.le_of_ble_eq_true rfl), by rw [hRm.2]; exact (Nat.le_of_ble_eq_true rfl)⟩ dX11_init_68 rfl hM (fun σ37 ρ38 hq39 hM => ?_)
  have h0 := sh_up h0
  have hq3 := sh_up hq3
  have hq8 := sh_up hq8
  have hq13 := sh_up hq13
  have hj15 := sh_up hj15
  have hq18 := sh_up hq18
  have hj21 := sh_up hj21
  have hq24 := sh_up hq24
  have hj27 := sh_up hj27
  have hq30 := sh_up hq30
  have hq35 := sh_up hq35
  refine g_dup hC dX11_init_71 rfl rfl ?_
  refine g_callINv (As := []) (st' := [vr X ((n + 52)), vr X a0]) (k := (n + 52)) (mc := 5) (ms := 57) (L' := 2) hC Y_X7_init ⟨rfl, k_220⟩ k_219 ⟨by decide, by decide⟩ dX11_init_72 rfl rfl rfl (Nat.le_of_ble_eq_true rfl) ⟨by rw [hRm.1]; exact (Nat.le_of_ble_eq_true rfl), by rw [hRm.2]; exact (Nat.le_of_ble_eq_true rfl)⟩ hM (fun c hc => c_X7_init (xE X) (n + 52) hq39 c hc) (fun c40 hM => ?_)
  have h0 := sh_upm (m := 5) h0
  have hq3 := sh_upm (m := 5) hq3
  have hq8 := sh_upm (m := 5) hq8
  have hq13 := sh_upm (m := 5) hq13
  have hj15 := sh_upm (m := 5) hj15
  have hq18 := sh_upm (m := 5) hq18
  have hj21 := sh_upm (m := 5) hj21
  have hq24 := sh_upm (m := 5) hq24
  have hj27 := sh_upm (m := 5) hj27
  have hq30 := sh_upm (m := 5) hq30
  have hq35 := sh_upm (m := 5) hq35
  have hq39 := sh_upm (m := 5) hq39
  refine fp_10_4 (own := "") hC hin h0 hq39 k_384 dX11_init_75 rfl hM (fun ρ41 hM => ?_)
  refine g_aload_n hC dX11_init_78 rfl 1 rfl ?_
  refine g_new (ci := 5) (N := 5) (T := TX6) (ty := tyX6) hC (by decide) rfl rfl iX6 tyX6_ok dfX6 k_307 k_308 k_100 ⟨by rw [hRm.1]; exact (Nat.le_of_ble_eq_true rfl), by rw [hRm.2]; exact (Nat.le_of_ble_eq_true rfl)⟩ dX11_init_79 rfl hM (fun σ42 ρ43 hq44 hM => ?_)
  have h0 := sh_up h0
  have hq3 := sh_up hq3
  have hq8 := sh_up hq8
  have hq13 := sh_up hq13
  have hj15 := sh_up hj15
  have hq18 := sh_up hq18
  have hj21 := sh_up hj21
  have hq24 := sh_up hq24
  have hj27 := sh_up hj27
  have hq30 := sh_up hq30
  have hq35 := sh_up hq35
  have hq39 := sh_up hq39
  refine g_dup hC dX11_init_82 rfl rfl ?_
  refine g_callINv (As := []) (st' := [vr X ((n + 58)), vr X a0]) (k := (n + 58)) (mc := 8) (ms := 30) (L' := 3) hC Y_X6_init ⟨rfl, k_310⟩ k_309 ⟨by decide, by decide⟩ dX11_init_83 rfl rfl rfl (Nat.le_of_ble_eq_true rfl) ⟨by rw [hRm.1]; exact (Nat.le_of_ble_eq_true rfl), by rw [hRm.2]; exact (Nat.le_of_ble_eq_true rfl)⟩ hM (fun c hc => c_X6_init (xE X) (n + 58) hq44 c hc) (fun c45 hM => ?_)
  have h0 := sh_upm (m := 8) h0
  have hq3 := sh_upm (m := 8) hq3
  have hq8 := sh_upm (m := 8) hq8
  have hq13 := sh_upm (m := 8) hq13
  have hj15 := sh_upm (m := 8) hj15
  have hq18 := sh_upm (m := 8) hq18
  have hj21 := sh_upm (m := 8) hj21
  have hq24 := sh_upm (m := 8) hq24
  have hj27 := sh_upm (m := 8) hj27
  have hq30 := sh_upm (m := 8) hq30
  have hq35 := sh_upm (m := 8) hq35
  have hq39 := sh_upm (m := 8) hq39
  have hq44 := sh_upm (m := 8) hq44
  refine fp_10_5 (own := "") hC hin h0 hq44 k_385 dX11_init_86 rfl hM (fun ρ46 hM => ?_)
  refine g_aload_n hC dX11_init_89 rfl 1 rfl ?_
  refine g_new (ci := 1) (N := 3) (T := TX1) (ty := tyX1) hC (by decide) rfl rfl iX1 tyX1_ok dfX1 k_352 k_353 k_102 ⟨by rw [hRm.1]; exact (Nat.le_of_ble_eq_true rfl), by rw [hRm.2]; exact (Nat.le_of_ble_eq_true rfl)⟩ dX11_init_90 rfl hM (fun σ47 ρ48 hq49 hM => ?_)
  have h0 := sh_up h0
  have hq3 := sh_up hq3
  have hq8 := sh_up hq8
  have hq13 := sh_up hq13
  have hj15 := sh_up hj15
  have hq18 := sh_up hq18
  have hj21 := sh_up hj21
  have hq24 := sh_up hq24
  have hj27 := sh_up hj27
  have hq30 := sh_up hq30
  have hq35 := sh_up hq35
  have hq39 := sh_up hq39
  have hq44 := sh_up hq44
  refine g_dup hC dX11_init_93 rfl rfl ?_
  refine g_callIv (As := []) (st' := [vr X ((n + 67)), vr X a0]) (k := (n + 67)) (mc := 14) (ms := 57) (L' := 3) hC Y_X1_init ⟨rfl, k_355⟩ k_354 ⟨by decide, by decide⟩ dX11_init_94 rfl rfl rfl (Nat.le_of_ble_eq_true rfl) ⟨by rw [hRm.1]; exact (Nat.le_of_ble_eq_true rfl), by rw [hRm.2]; exact (Nat.le_of_ble_eq_true rfl)⟩ hM (fun c hc => c_X1_init (xE X) (n + 67) hq49 c hc) (fun c50 hM => ?_)
  have h0 := sh_upm (m := 14) h0
  have hq3 := sh_upm (m := 14) hq3
  have hq8 := sh_upm (m := 14) hq8
  have hq13 := sh_upm (m := 14) hq13
  have hj15 := sh_upm (m := 14) hj15
  have hq18 := sh_upm (m := 14) hq18
  have hj21 := sh_upm (m := 14) hj21
  have hq24 := sh_upm (m := 14) hq24
  have hj27 := sh_upm (m := 14) hj27
  have hq30 := sh_upm (m := 14) hq30
  have hq35 := sh_upm (m := 14) hq35
  have hq39 := sh_upm (m := 14) hq39
  have hq44 := sh_upm (m := 14) hq44
  have hq49 := sh_upm (m := 14) hq49
  refine fp_10_6 (own := "") hC hin h0 hq49 k_386 dX11_init_97 rfl hM (fun ρ51 hM => ?_)
  refine g_aload_n hC dX11_init_100 rfl 1 rfl ?_
  refine g_new (ci := 0) (N := 2) (T := TX0) (ty := tyX0) hC (by decide) rfl rfl iX0 tyX0_ok dfX0 k_374 k_314 k_101 ⟨by rw [hRm.1]; exact (Nat.le_of_ble_eq_true rfl), by rw [hRm.2]; exact (Nat.le_of_ble_eq_true rfl)⟩ dX11_init_101 rfl hM (fun σ52 ρ53 hq54 hM => ?_)
  have h0 := sh_up h0
  have hq3 := sh_up hq3
  have hq8 := sh_up hq8
  have hq13 := sh_up hq13
  have hj15 := sh_up hj15
  have hq18 := sh_up hq18
  have hj21 := sh_up hj21
  have hq24 := sh_up hq24
  have hj27 := sh_up hj27
  have hq30 := sh_up hq30
  have hq35 := sh_up hq35
  have hq39 := sh_up hq39
  have hq44 := sh_up hq44
  have hq49 := sh_up hq49
  refine g_dup hC dX11_init_104 rfl rfl ?_
  refine g_callINv (As := []) (st' := [vr X ((n + 82)), vr X a0]) (k := (n + 82)) (mc := 1) (ms := 6) (L' := 2) hC Y_X0_init ⟨rfl, k_316⟩ k_375 ⟨by decide, by decide⟩ dX11_init_105 rfl rfl rfl (Nat.le_of_ble_eq_true rfl) ⟨by rw [hRm.1]; exact (Nat.le_of_ble_eq_true rfl), by rw [hRm.2]; exact (Nat.le_of_ble_eq_true rfl)⟩ hM (fun c hc => c_X0_init (xE X) (n + 82) hq54 c hc) (fun c55 hM => ?_)
  have h0 := sh_upm (m := 1) h0
  have hq3 := sh_upm (m := 1) hq3
  have hq8 := sh_upm (m := 1) hq8
  have hq13 := sh_upm (m := 1) hq13
  have hj15 := sh_upm (m := 1) hj15
  have hq18 := sh_upm (m := 1) hq18
  have hj21 := sh_upm (m := 1) hj21
  have hq24 := sh_upm (m := 1) hq24
  have hj27 := sh_upm (m := 1) hj27
  have hq30 := sh_upm (m := 1) hq30
  have hq35 := sh_upm (m := 1) hq35
  have hq39 := sh_upm (m := 1) hq39
  have hq44 := sh_upm (m := 1) hq44
  have hq49 := sh_upm (m := 1) hq49
  have hq54 := sh_upm (m := 1) hq54
  refine fp_10_7 (own := "") hC hin h0 hq54 k_387 dX11_init_108 rfl hM (fun ρ56 hM => ?_)
  refine g_aload_n hC dX11_init_111 rfl 1 rfl ?_
  refine g_new (ci := 0) (N := 2) (T := TX0) (ty := tyX0) hC (by decide) rfl rfl iX0 tyX0_ok dfX0 k_374 k_314 k_101 ⟨by rw [hRm.1]; exact (Nat.le_of_ble_eq_true rfl), by rw [hRm.2]; exact (Nat.le_of_ble_eq_true rfl)⟩ dX11_init_112 rfl hM (fun σ57 ρ58 hq59 hM => ?_)
  have h0 := sh_up h0
  have hq3 := sh_up hq3
  have hq8 := sh_up hq8
  have hq13 := sh_up hq13
  have hj15 := sh_up hj15
  have hq18 := sh_up hq18
  have hj21 := sh_up hj21
  have hq24 := sh_up hq24
  have hj27 := sh_up hj27
  have hq30 := sh_up hq30
  have hq35 := sh_up hq35
  have hq39 := sh_up hq39
  have hq44 := sh_up hq44
  have hq49 := sh_up hq49
  have hq54 := sh_up hq54
  refine g_dup hC dX11_init_115 rfl rfl ?_
  refine g_callINv (As := []) (st' := [vr X ((n + 84)), vr X a0]) (k := (n + 84)) (mc := 1) (ms := 6) (L' := 2) hC Y_X0_init ⟨rfl, k_316⟩ k_375 ⟨by decide, by decide⟩ dX11_init_116 rfl rfl rfl (Nat.le_of_ble_eq_true rfl) ⟨by rw [hRm.1]; exact (Nat.le_of_ble_eq_true rfl), by rw [hRm.2]; exact (Nat.le_of_ble_eq_true rfl)⟩ hM (fun c hc => c_X0_init (xE X) (n + 84) hq59 c hc) (fun c60 hM => ?_)
  have h0 := sh_upm (m := 1) h0
  have hq3 := sh_upm (m := 1) hq3
  have hq8 := sh_upm (m := 1) hq8
  have hq13 := sh_upm (m := 1) hq13
  have hj15 := sh_upm (m := 1) hj15
  have hq18 := sh_upm (m := 1) hq18
  have hj21 := sh_upm (m := 1) hj21
  have hq24 := sh_upm (m := 1) hq24
  have hj27 := sh_upm (m := 1) hj27
  have hq30 := sh_upm (m := 1) hq30
  have hq35 := sh_upm (m := 1) hq35
  have hq39 := sh_upm (m := 1) hq39
  have hq44 := sh_upm (m := 1) hq44
  have hq49 := sh_upm (m := 1) hq49
  have hq54 := sh_upm (m := 1) hq54
  have hq59 := sh_upm (m := 1) hq59
  refine fp_10_8 (own := "") hC hin h0 hq59 k_388 dX11_init_119 rfl hM (fun ρ61 hM => ?_)
  refine g_aload_n hC dX11_init_122 rfl 1 rfl ?_
  refine g_new (ci := 2) (N := 6) (T := TX3) (ty := tyX3) hC (by decide) rfl rfl iX3 tyX3_ok dfX3 k_376 k_226 k_98 ⟨by rw [hRm.1]; exact (Nat.le_of_ble_eq_true rfl), by rw [hRm.2]; exact (Nat.le_of_ble_eq_true rfl)⟩ dX11_init_123 rfl hM (fun σ62 ρ63 hq64 hM => ?_)
  have h0 := sh_up h0
  have hq3 := sh_up hq3
  have hq8 := sh_up hq8
  have hq13 := sh_up hq13
  have hj15 := sh_up hj15
  have hq18 := sh_up hq18
  have hj21 := sh_up hj21
  have hq24 := sh_up hq24
  have hj27 := sh_up hj27
  have hq30 := sh_up hq30
  have hq35 := sh_up hq35
  have hq39 := sh_up hq39
  have hq44 := sh_up hq44
  have hq49 := sh_up hq49
  have hq54 := sh_up hq54
  have hq59 := sh_up hq59
  refine g_dup hC dX11_init_126 rfl rfl ?_
  refine g_callINv (As := []) (st' := [vr X ((n + 86)), vr X a0]) (k := ((n + 86))) (mc := 0) (ms := 0) (L' := 1) hC Y_X3_init ⟨rfl, k_228⟩ k_377 ⟨by decide, by decide⟩ dX11_init_127 rfl rfl rfl (Nat.le_of_ble_eq_true rfl) ⟨by rw [hRm.1]; exact (Nat.le_of_ble_eq_true rfl), by rw [hRm.2]; exact (Nat.le_of_ble_eq_true rfl)⟩ hM (fun c hc => c_X3_init (xE X) ((n + 86)) hq64 c hc) (fun c65 hM => ?_)
  refine fp_10_9 (own := "") hC hin h0 hq64 k_389 dX11_init_130 rfl hM (fun ρ66 hM => ?_)
  refine g_aload_n hC dX11_init_133 rfl 1 rfl ?_
  refine g_new (ci := 2) (N := 6) (T := TX3) (ty := tyX3) hC (by decide) rfl rfl iX3 tyX3_ok dfX3 k_376 k_226 k_98 ⟨by rw [hRm.1]; exact (Nat.le_of_ble_eq_true rfl), by rw [hRm.2]; exact (Nat.le_of_ble_eq_true rfl)⟩ dX11_init_134 rfl hM (fun σ67 ρ68 hq69 hM => ?_)
  have h0 := sh_up h0
  have hq3 := sh_up hq3
  have hq8 := sh_up hq8
  have hq13 := sh_up hq13
  have hj15 := sh_up hj15
  have hq18 := sh_up hq18
  have hj21 := sh_up hj21
  have hq24 := sh_up hq24
  have hj27 := sh_up hj27
  have hq30 := sh_up hq30
  have hq35 := sh_up hq35
  have hq39 := sh_up hq39
  have hq44 := sh_up hq44
  have hq49 := sh_up hq49
  have hq54 := sh_up hq54
  have hq59 := sh_up hq59
  have hq64 := sh_up hq64
  refine g_dup hC dX11_init_137 rfl rfl ?_
  refine g_callINv (As := []) (st' := [vr X ((n + 87)), vr X a0]) (k := ((n + 87))) (mc := 0) (ms := 0) (L' := 1) hC Y_X3_init ⟨rfl, k_228⟩ k_377 ⟨by decide, by decide⟩ dX11_init_138 rfl rfl rfl (Nat.le_of_ble_eq_true rfl) ⟨by rw [hRm.1]; exact (Nat.le_of_ble_eq_true rfl), by rw [hRm.2]; exact (Nat.le_of_ble_eq_true rfl)⟩ hM (fun c hc => c_X3_init (xE X) ((n + 87)) hq69 c hc) (fun c70 hM => ?_)
  refine fp_10_10 (own := "") hC hin h0 hq69 k_390 dX11_init_141 rfl hM (fun ρ71 hM => ?_)
  refine g_aload_n hC dX11_init_144 rfl 1 rfl ?_
  refine g_new (ci := 9) (N := 3) (T := TX10) (ty := tyX10) hC (by decide) rfl rfl iX10 tyX10_ok dfX10 k_378 k_258 k_99 ⟨by rw [hRm.1]; exact (Nat.le_of_ble_eq_true rfl), by rw [hRm.2]; exact (Nat.le_of_ble_eq_true rfl)⟩ dX11_init_145 rfl hM (fun σ72 ρ73 hq74 hM => ?_)
  have h0 := sh_up h0
  have hq3 := sh_up hq3
  have hq8 := sh_up hq8
  have hq13 := sh_up hq13
  have hj15 := sh_up hj15
  have hq18 := sh_up hq18
  have hj21 := sh_up hj21
  have hq24 := sh_up hq24
  have hj27 := sh_up hj27
  have hq30 := sh_up hq30
  have hq35 := sh_up hq35
  have hq39 := sh_up hq39
  have hq44 := sh_up hq44
  have hq49 := sh_up hq49
  have hq54 := sh_up hq54
  have hq59 := sh_up hq59
  have hq64 := sh_up hq64
  have hq69 := sh_up hq69
  refine g_dup hC dX11_init_148 rfl rfl ?_
  refine g_callINv (As := []) (st' := [vr X ((n + 88)), vr X a0]) (k := ((n + 88))) (mc := 0) (ms := 0) (L' := 1) hC Y_X10_init ⟨rfl, k_260⟩ k_379 ⟨by decide, by decide⟩ dX11_init_149 rfl rfl rfl (Nat.le_of_ble_eq_true rfl) ⟨by rw [hRm.1]; exact (Nat.le_of_ble_eq_true rfl), by rw [hRm.2]; exact (Nat.le_of_ble_eq_true rfl)⟩ hM (fun c hc => c_X10_init (xE X) ((n + 88)) hq74 c hc) (fun c75 hM => ?_)
  refine fp_10_11 (own := "") hC hin h0 hq74 k_391 dX11_init_152 rfl hM (fun ρ76 hM => ?_)
  refine g_aload_n hC dX11_init_155 rfl 1 rfl ?_
  refine g_new (ci := 9) (N := 3) (T := TX10) (ty := tyX10) hC (by decide) rfl rfl iX10 tyX10_ok dfX10 k_378 k_258 k_99 ⟨by rw [hRm.1]; exact (Nat.le_of_ble_eq_true rfl), by rw [hRm.2]; exact (Nat.le_of_ble_eq_true rfl)⟩ dX11_init_156 rfl hM (fun σ77 ρ78 hq79 hM => ?_)
  have h0 := sh_up h0
  have hq3 := sh_up hq3
  have hq8 := sh_up hq8
  have hq13 := sh_up hq13
  have hj15 := sh_up hj15
  have hq18 := sh_up hq18
  have hj21 := sh_up hj21
  have hq24 := sh_up hq24
  have hj27 := sh_up hj27
  have hq30 := sh_up hq30
  have hq35 := sh_up hq35
  have hq39 := sh_up hq39
  have hq44 := sh_up hq44
  have hq49 := sh_up hq49
  have hq54 := sh_up hq54
  have hq59 := sh_up hq59
  have hq64 := sh_up hq64
  have hq69 := sh_up hq69
  have hq74 := sh_up hq74
  refine g_dup hC dX11_init_159 rfl rfl ?_
  refine g_callINv (As := []) (st' := [vr X ((n + 89)), vr X a0]) (k := ((n + 89))) (mc := 0) (ms := 0) (L' := 1) hC Y_X10_init ⟨rfl, k_260⟩ k_379 ⟨by decide, by decide⟩ dX11_init_160 rfl rfl rfl (Nat.le_of_ble_eq_true rfl) ⟨by rw [hRm.1]; exact (Nat.le_of_ble_eq_true rfl), by rw [hRm.2]; exact (Nat.le_of_ble_eq_true rfl)⟩ hM (fun c hc => c_X10_init (xE X) ((n + 89)) hq79 c hc) (fun c80 hM => ?_)
  refine fp_10_12 (own := "") hC hin h0 hq79 k_392 dX11_init_163 rfl hM (fun ρ81 hM => ?_)
  refine g_aload_n hC dX11_init_166 rfl 1 rfl ?_
  refine g_new (ci := 9) (N := 3) (T := TX10) (ty := tyX10) hC (by decide) rfl rfl iX10 tyX10_ok dfX10 k_378 k_258 k_99 ⟨by rw [hRm.1]; exact (Nat.le_of_ble_eq_true rfl), by rw [hRm.2]; exact (Nat.le_of_ble_eq_true rfl)⟩ dX11_init_167 rfl hM (fun σ82 ρ83 hq84 hM => ?_)
  have h0 := sh_up h0
  have hq3 := sh_up hq3
  have hq8 := sh_up hq8
  have hq13 := sh_up hq13
  have hj15 := sh_up hj15
  have hq18 := sh_up hq18
  have hj21 := sh_up hj21
  have hq24 := sh_up hq24
  have hj27 := sh_up hj27
  have hq30 := sh_up hq30
  have hq35 := sh_up hq35
  have hq39 := sh_up hq39
  have hq44 := sh_up hq44
  have hq49 := sh_up hq49
  have hq54 := sh_up hq54
  have hq59 := sh_up hq59
  have hq64 := sh_up hq64
  have hq69 := sh_up hq69
  have hq74 := sh_up hq74
  have hq79 := sh_up hq79
  refine g_dup hC dX11_init_170 rfl rfl ?_
  refine g_callINv (As := []) (st' := [vr X ((n + 90)), vr X a0]) (k := ((n + 90))) (mc := 0) (ms := 0) (L' := 1) hC Y_X10_init ⟨rfl, k_260⟩ k_379 ⟨by decide, by decide⟩ dX11_init_171 rfl rfl rfl (Nat.le_of_ble_eq_true rfl) ⟨by rw [hRm.1]; exact (Nat.le_of_ble_eq_true rfl), by rw [hRm.2]; exact (Nat.le_of_ble_eq_true rfl)⟩ hM (fun c hc => c_X10_init (xE X) ((n + 90)) hq84 c hc) (fun c85 hM => ?_)
  refine fp_10_13 (own := "") hC hin h0 hq84 k_393 dX11_init_174 rfl hM (fun ρ86 hM => ?_)
  cases hM
  exact g_retv hR dX11_init_177 rfl
def MX12_init (n : Nat) (σ : Sto) (ρ : Rho) (a0 : Nat) : Option (Sto × Rho) :=
  nwa 20 n (2115 : Int32) σ ρ fun σ1 ρ2 =>
  bn (ru ρ2 a0 0 (some n)) fun ρ4 =>
  nwa 20 (n + 1) (500 : Int32) σ1 ρ4 fun σ5 ρ6 =>
  bn (ru ρ6 a0 1 (some ((n + 1)))) fun ρ8 =>
  nwa 22 (n + 2) (3 : Int32) σ5 ρ8 fun σ9 ρ10 =>
  bn (ru ρ10 a0 2 (some ((n + 2)))) fun ρ12 =>
  bn (su σ9 a0 5 ((-1 : Int32))) fun σ13 =>
  nwa 20 (n + 3) (6 : Int32) σ13 ρ12 fun σ14 ρ15 =>
  bn (ru ρ15 a0 11 (some ((n + 3)))) fun ρ17 =>
  nwa 20 (n + 4) (48 : Int32) σ14 ρ17 fun σ18 ρ19 =>
  bn (ru ρ19 a0 12 (some ((n + 4)))) fun ρ21 =>
  nwa 20 (n + 5) (6 : Int32) σ18 ρ21 fun σ22 ρ23 =>
  bn (ru ρ23 a0 13 (some ((n + 5)))) fun ρ25 =>
  nwa 20 (n + 6) (6 : Int32) σ22 ρ25 fun σ26 ρ27 =>
  bn (ru ρ27 a0 19 (some ((n + 6)))) fun ρ29 =>
  Option.bind (MX12_firsts σ26 ρ29 a0 ((0 : Int32))) fun c30 =>
  some (c30, ρ29)
set_option maxHeartbeats 4000000 in
set_option maxRecDepth 100000 in
theorem c_X12_init (E : EX) {n : Nat} {σ : Sto} {ρ : Rho} (a0 : Nat) (h0 : Sh n a0 11) (res : Sto × Rho) (hM : MX12_init n σ ρ a0 = some res) : CTv E yX12_init cX12_init 1 1 7 2684 [.ref (eb E + a0)] n σ ρ res.1 res.2 := by
  refine ct_v (by decide +kernel) (Nat.le_of_ble_eq_true rfl) (fun X hE hml hin hRm hC hR => ?_)
  subst hE
  show G X 0 0 n σ ρ 0 [(0, vr X a0)] []
  replace hC : Cx X cX12_init RX12 1 := hC
  unfold MX12_init at hM
  refine g_aload_n hC dX12_init_0 rfl 0 rfl ?_
  refine g_objInit hC k_1077 k_117 k_118 (by decide) dX12_init_1 rfl (Nat.le_of_ble_eq_true rfl) ?_
  refine g_aload_n hC dX12_init_4 rfl 0 rfl ?_
  refine g_sipush (v := 2115) hC dX12_init_5 rfl is_2115 ?_
  refine g_newa (t := 0) (N := 2115) (atype := .int) (ty := .int) hC k_155 rfl rfl (by decide) (fun C h => by cases h) rfl (by decide) (by decide) (Nat.le_of_ble_eq_true rfl) ⟨by rw [hRm.1]; exact (Nat.le_of_ble_eq_true rfl), by rw [hRm.2]; exact (Nat.le_of_ble_eq_true rfl)⟩ dX12_init_8 rfl hM (fun σ1 ρ2 hq3 hM => ?_)
  have h0 := sh_up h0
  refine fp_11_0 (own := "") hC hin h0 hq3 k_1082 dX12_init_10 rfl hM (fun ρ4 hM => ?_)
  refine g_aload_n hC dX12_init_13 rfl 0 rfl ?_
  refine g_sipush (v := 500) hC dX12_init_14 rfl is_500 ?_
  refine g_newa (t := 0) (N := 500) (atype := .int) (ty := .int) hC k_155 rfl rfl (by decide) (fun C h => by cases h) rfl (by decide) (by decide) (Nat.le_of_ble_eq_true rfl) ⟨by rw [hRm.1]; exact (Nat.le_of_ble_eq_true rfl), by rw [hRm.2]; exact (Nat.le_of_ble_eq_true rfl)⟩ dX12_init_17 rfl hM (fun σ5 ρ6 hq7 hM => ?_)
  have h0 := sh_up h0
  have hq3 := sh_up hq3
  refine fp_11_1 (own := "") hC hin h0 hq7 k_1083 dX12_init_19 rfl hM (fun ρ8 hM => ?_)
  refine g_aload_n hC dX12_init_22 rfl 0 rfl ?_
  refine g_iconst (v := 3) hC dX12_init_23 rfl ic_3 ?_
  refine g_newa (t := 2) (N := 3) (atype := .boolean) (ty := .boolean) hC k_256 rfl rfl (by decide) (fun C h => by cases h) rfl (by decide) (by decide) (Nat.le_of_ble_eq_true rfl) ⟨by rw [hRm.1]; exact (Nat.le_of_ble_eq_true rfl), by rw [hRm.2]; exact (Nat.le_of_ble_eq_true rfl)⟩ dX12_init_24 rfl hM (fun σ9 ρ10 hq11 hM => ?_)
  have h0 := sh_up h0
  have hq3 := sh_up hq3
  have hq7 := sh_up hq7
  refine fp_11_2 (own := "") hC hin h0 hq11 k_1084 dX12_init_26 rfl hM (fun ρ12 hM => ?_)
  refine g_aload_n hC dX12_init_29 rfl 0 rfl ?_
  refine g_iconst (v := -1) hC dX12_init_30 rfl ic_m1 ?_
  refine fp_11_5 hC h0 k_1087 dX12_init_31 rfl hM (fun σ13 hM => ?_)
  refine g_aload_n hC dX12_init_34 rfl 0 rfl ?_
  refine g_bipush (v := 6) hC dX12_init_35 rfl ib_6 ?_
  refine g_newa (t := 0) (N := 6) (atype := .int) (ty := .int) hC k_155 rfl rfl (by decide) (fun C h => by cases h) rfl (by decide) (by decide) (Nat.le_of_ble_eq_true rfl) ⟨by rw [hRm.1]; exact (Nat.le_of_ble_eq_true rfl), by rw [hRm.2]; exact (Nat.le_of_ble_eq_true rfl)⟩ dX12_init_37 rfl hM (fun σ14 ρ15 hq16 hM => ?_)
  have h0 := sh_up h0
  have hq3 := sh_up hq3
  have hq7 := sh_up hq7
  have hq11 := sh_up hq11
  refine fp_11_11 (own := "") hC hin h0 hq16 k_1093 dX12_init_39 rfl hM (fun ρ17 hM => ?_)
  refine g_aload_n hC dX12_init_42 rfl 0 rfl ?_
  refine g_bipush (v := 48) hC dX12_init_43 rfl ib_48 ?_
  refine g_newa (t := 0) (N := 48) (atype := .int) (ty := .int) hC k_155 rfl rfl (by decide) (fun C h => by cases h) rfl (by decide) (by decide) (Nat.le_of_ble_eq_true rfl) ⟨by rw [hRm.1]; exact (Nat.le_of_ble_eq_true rfl), by rw [hRm.2]; exact (Nat.le_of_ble_eq_true rfl)⟩ dX12_init_45 rfl hM (fun σ18 ρ19 hq20 hM => ?_)
  have h0 := sh_up h0
  have hq3 := sh_up hq3
  have hq7 := sh_up hq7
  have hq11 := sh_up hq11
  have hq16 := sh_up hq16
  refine fp_11_12 (own := "") hC hin h0 hq20 k_1094 dX12_init_47 rfl hM (fun ρ21 hM => ?_)
  refine g_aload_n hC dX12_init_50 rfl 0 rfl ?_
  refine g_bipush (v := 6) hC dX12_init_51 rfl ib_6 ?_
  refine g_newa (t := 0) (N := 6) (atype := .int) (ty := .int) hC k_155 rfl rfl (by decide) (fun C h => by cases h) rfl (by decide) (by decide) (Nat.le_of_ble_eq_true rfl) ⟨by rw [hRm.1]; exact (Nat.le_of_ble_eq_true rfl), by rw [hRm.2]; exact (Nat.le_of_ble_eq_true rfl)⟩ dX12_init_53 rfl hM (fun σ22 ρ23 hq24 hM => ?_)
  have h0 := sh_up h0
  have hq3 := sh_up hq3
  have hq7 := sh_up hq7
  have hq11 := sh_up hq11
  have hq16 := sh_up hq16
  have hq20 := sh_up hq20
  refine fp_11_13 (own := "") hC hin h0 hq24 k_1095 dX12_init_55 rfl hM (fun ρ25 hM => ?_)
  refine g_aload_n hC dX12_init_58 rfl 0 rfl ?_
  refine g_bipush (v := 6) hC dX12_init_59 rfl ib_6 ?_
  refine g_newa (t := 0) (N := 6) (atype := .int) (ty := .int) hC k_155 rfl rfl (by decide) (fun C h => by cases h) rfl (by decide) (by decide) (Nat.le_of_ble_eq_true rfl) ⟨by rw [hRm.1]; exact (Nat.le_of_ble_eq_true rfl), by rw [hRm.2]; exact (Nat.le_of_ble_eq_true rfl)⟩ dX12_init_61 rfl hM (fun σ26 ρ27 hq28 hM => ?_)
  have h0 := sh_up h0
  have hq3 := sh_up hq3
  have hq7 := sh_up hq7
  have hq11 := sh_up hq11
  have hq16 := sh_up hq16
  have hq20 := sh_up hq20
  have hq24 := sh_up hq24
  refine fp_11_19 (own := "") hC hin h0 hq28 k_1101 dX12_init_63 rfl hM (fun ρ29 hM => ?_)
  refine g_aload_n hC dX12_init_66 rfl 0 rfl ?_
  refine g_iconst (v := 0) hC dX12_init_67 rfl ic_0 ?_
  refine g_callVv0 (As := [.int ((0 : Int32))]) (st' := []) (k := a0) (L' := 0) hC Y_X12_firsts I_X12_firsts k_1078 ⟨by decide, by decide⟩ h0 (ci := 11) (by decide) rfl dX12_init_68 rfl rfl rfl (Nat.le_of_ble_eq_true rfl) ⟨by rw [hRm.1]; exact (Nat.le_of_ble_eq_true rfl), by rw [hRm.2]; exact (Nat.le_of_ble_eq_true rfl)⟩ hM (fun c hc => c_X12_firsts (xE X) a0 h0 ((0 : Int32)) c hc) (fun c30 hM => ?_)
  cases hM
  exact g_retv hR dX12_init_71 rfl
