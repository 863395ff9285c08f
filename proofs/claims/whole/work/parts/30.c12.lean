def MX11_again (σ : Sto) (ρ : Rho) (a0 : Nat) (a1 : Int32) : Option (Int32 × Sto) :=
  if a1 < 0 then
    zr ((0 : Int32)) (some ((0 : Int32), σ))
  else
    if (3 : Int32) ≤ a1 then
      zr ((0 : Int32)) (some ((0 : Int32), σ))
    else
      Option.bind (ρ a0 3) fun j1 =>
      Option.bind (ag σ j1 a1) fun x2 =>
      if x2 = 0 then
        zr ((0 : Int32)) (some ((0 : Int32), σ))
      else
        Option.bind (ρ a0 0) fun j3 =>
        Option.bind (ρ a0 2) fun j4 =>
        Option.bind (rg ρ j4 a1) fun j5 =>
        Option.bind (MX4_copy σ ρ j3 j5) fun c6 =>
        Option.bind (ρ a0 1) fun j7 =>
        Option.bind (MX5_forget c6 j7) fun c8 =>
        zr ((1 : Int32)) (some ((1 : Int32), c8))
set_option maxHeartbeats 4000000 in
set_option maxRecDepth 100000 in
theorem c_X11_again (E : EX) {n : Nat} {σ : Sto} {ρ : Rho} (a0 : Nat) (h0 : Sh n a0 10) (a1 : Int32) (res : Int32 × Sto) (hM : MX11_again σ ρ a0 a1 = some res) : CTi E yX11_again cX11_again 2 (some .boolean) 3 [.ref (eb E + a0), .int a1] n σ ρ res.1 res.2 ρ := by
  refine ct_i (by decide +kernel) rfl (Nat.le_of_ble_eq_true rfl) (fun X hE hml hC hR => ?_)
  subst hE
  show G X 0 0 n σ ρ 0 [(0, vr X a0), (1, .int a1)] []
  replace hC : Cx X cX11_again RX11 3 := hC
  unfold MX11_again at hM
  refine g_iload_n hC dX11_again_0 rfl 1 rfl ?_
  refine g_if_lt (tgt := 18) hC dX11_again_1 rfl (by decide) hM (fun hM => ?_) (fun hM => ?_)
  · refine g_iconst (v := 0) hC dX11_again_18 rfl ic_0 ?_
    exact g_retz hM dX11_again_19 rfl (fun h => by cases h; exact hR)
  · refine g_iload_n hC dX11_again_4 rfl 1 rfl ?_
    refine g_iconst (v := 3) hC dX11_again_5 rfl ic_3 ?_
    refine g_icmp_ge (tgt := 18) hC dX11_again_6 rfl (by decide) hM (fun hM => ?_) (fun hM => ?_)
    · refine g_iconst (v := 0) hC dX11_again_18 rfl ic_0 ?_
      exact g_retz hM dX11_again_19 rfl (fun h => by cases h; exact hR)
    · refine g_aload_n hC dX11_again_9 rfl 0 rfl ?_
      refine fg_10_3 hC h0 k_383 dX11_again_10 rfl hM (fun j1 hj1 hM => ?_)
      refine g_iload_n hC dX11_again_13 rfl 1 rfl ?_
      refine g_zald hC hj1 dX11_again_14 rfl hM (fun x2 hM => ?_)
      refine g_if_ne (tgt := 20) hC dX11_again_15 rfl (by decide) hM (fun hM => ?_) (fun hM => ?_)
      · refine g_aload_n hC dX11_again_20 rfl 0 rfl ?_
        refine fg_10_0 hC h0 k_380 dX11_again_21 rfl hM (fun j3 hj3 hM => ?_)
        refine g_aload_n hC dX11_again_24 rfl 0 rfl ?_
        refine fg_10_2 hC h0 k_382 dX11_again_25 rfl hM (fun j4 hj4 hM => ?_)
        refine g_iload_n hC dX11_again_28 rfl 1 rfl ?_
        refine g_aald hC hj4 (by decide) rfl rfl dX11_again_29 rfl hM (fun j5 hj5 hM => ?_)
        refine g_callVv0 (As := [vr X j5]) (st' := []) (k := j3) (L' := 2) hC Y_X4_copy I_X4_copy k_1058 ⟨by decide, by decide⟩ hj3 (ci := 3) (by decide) rfl dX11_again_30 rfl rfl rfl (Nat.le_of_ble_eq_true rfl) ⟨Nat.zero_le _, Nat.zero_le _⟩ hM (fun c hc => c_X4_copy (xE X) j3 hj3 j5 hj5 c hc) (fun c6 hM => ?_)
        refine g_aload_n hC dX11_again_33 rfl 0 rfl ?_
        refine fg_10_1 hC h0 k_381 dX11_again_34 rfl hM (fun j7 hj7 hM => ?_)
        refine g_callVv0 (As := []) (st' := []) (k := j7) (L' := 0) hC Y_X5_forget I_X5_forget k_624 ⟨by decide, by decide⟩ hj7 (ci := 4) (by decide) rfl dX11_again_37 rfl rfl rfl (Nat.le_of_ble_eq_true rfl) ⟨Nat.zero_le _, Nat.zero_le _⟩ hM (fun c hc => c_X5_forget (xE X) j7 hj7 c hc) (fun c8 hM => ?_)
        refine g_iconst (v := 1) hC dX11_again_40 rfl ic_1 ?_
        exact g_retz hM dX11_again_41 rfl (fun h => by cases h; exact hR)
      · refine g_iconst (v := 0) hC dX11_again_18 rfl ic_0 ?_
        exact g_retz hM dX11_again_19 rfl (fun h => by cases h; exact hR)
