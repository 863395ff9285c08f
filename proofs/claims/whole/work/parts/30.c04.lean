def MX3_twisted (σ : Sto) (a0 : Nat) (a1 : Int32) : Option (Sto) :=
  if a1 = 0 then
    Option.bind (MX3_fill σ a0 ((σ a0 1)) ((σ a0 0)) ((σ a0 2)) ((σ a0 4)) ((σ a0 3)) ((σ a0 5))) fun c3 =>
    some c3
  else
    if a1 = (1 : Int32) then
      Option.bind (MX3_fill σ a0 ((σ a0 0)) ((σ a0 2)) ((σ a0 1)) ((σ a0 3)) ((σ a0 5)) ((σ a0 4))) fun c2 =>
      some c2
    else
      Option.bind (MX3_fill σ a0 ((σ a0 0)) ((((σ a0 0) + (σ a0 1)) + (σ a0 5))) ((σ a0 2)) (((σ a0 3) + (σ a0 4))) ((σ a0 4)) ((((2 : Int32) * (σ a0 0)) + (σ a0 5)))) fun c1 =>
      some c1
set_option maxHeartbeats 4000000 in
set_option maxRecDepth 100000 in
theorem c_X3_twisted (E : EX) {n : Nat} {ρ : Rho} {σ : Sto} (a0 : Nat) (h0 : Sh n a0 2) (a1 : Int32) (res : Sto) (hM : MX3_twisted σ a0 a1 = some res) : CTv E yX3_twisted cX3_twisted 2 1 0 0 [.ref (eb E + a0), .int a1] n σ ρ res ρ := by
  refine ct_v (by decide +kernel) (Nat.le_of_ble_eq_true rfl) (fun X hE hml hin hRm hC hR => ?_)
  subst hE
  show G X 0 0 n σ ρ 0 [(0, vr X a0), (1, .int a1)] []
  replace hC : Cx X cX3_twisted RX3 1 := hC
  unfold MX3_twisted at hM
  refine g_iload_n hC dX3_twisted_0 rfl 1 rfl ?_
  refine g_if_ne (tgt := 35) hC dX3_twisted_1 rfl (by decide) hM (fun hM => ?_) (fun hM => ?_)
  · refine g_iload_n hC dX3_twisted_35 rfl 1 rfl ?_
    refine g_iconst (v := 1) hC dX3_twisted_36 rfl ic_1 ?_
    refine g_icmp_ne (tgt := 71) hC dX3_twisted_37 rfl (by decide) hM (fun hM => ?_) (fun hM => ?_)
    · refine g_aload_n hC dX3_twisted_71 rfl 0 rfl ?_
      refine g_aload_n hC dX3_twisted_72 rfl 0 rfl ?_
      refine fg_2_0 hC h0 k_231 dX3_twisted_73 rfl ?_
      refine g_aload_n hC dX3_twisted_76 rfl 0 rfl ?_
      refine fg_2_0 hC h0 k_231 dX3_twisted_77 rfl ?_
      refine g_aload_n hC dX3_twisted_80 rfl 0 rfl ?_
      refine fg_2_1 hC h0 k_233 dX3_twisted_81 rfl ?_
      refine g_iadd hC dX3_twisted_84 rfl ?_
      refine g_aload_n hC dX3_twisted_85 rfl 0 rfl ?_
      refine fg_2_5 hC h0 k_241 dX3_twisted_86 rfl ?_
      refine g_iadd hC dX3_twisted_89 rfl ?_
      refine g_aload_n hC dX3_twisted_90 rfl 0 rfl ?_
      refine fg_2_2 hC h0 k_235 dX3_twisted_91 rfl ?_
      refine g_aload_n hC dX3_twisted_94 rfl 0 rfl ?_
      refine fg_2_3 hC h0 k_237 dX3_twisted_95 rfl ?_
      refine g_aload_n hC dX3_twisted_98 rfl 0 rfl ?_
      refine fg_2_4 hC h0 k_239 dX3_twisted_99 rfl ?_
      refine g_iadd hC dX3_twisted_102 rfl ?_
      refine g_aload_n hC dX3_twisted_103 rfl 0 rfl ?_
      refine fg_2_4 hC h0 k_239 dX3_twisted_104 rfl ?_
      refine g_iconst (v := 2) hC dX3_twisted_107 rfl ic_2 ?_
      refine g_aload_n hC dX3_twisted_108 rfl 0 rfl ?_
      refine fg_2_0 hC h0 k_231 dX3_twisted_109 rfl ?_
      refine g_imul hC dX3_twisted_112 rfl ?_
      refine g_aload_n hC dX3_twisted_113 rfl 0 rfl ?_
      refine fg_2_5 hC h0 k_241 dX3_twisted_114 rfl ?_
      refine g_iadd hC dX3_twisted_117 rfl ?_
      refine g_callVv0 (As := [.int ((σ a0 0)), .int ((((σ a0 0) + (σ a0 1)) + (σ a0 5))), .int ((σ a0 2)), .int (((σ a0 3) + (σ a0 4))), .int ((σ a0 4)), .int ((((2 : Int32) * (σ a0 0)) + (σ a0 5)))]) (st' := []) (k := a0) (L' := 0) hC Y_X3_fill I_X3_fill k_593 ⟨by decide, by decide⟩ h0 (ci := 2) (by decide) rfl dX3_twisted_118 rfl rfl rfl (Nat.le_of_ble_eq_true rfl) ⟨Nat.zero_le _, Nat.zero_le _⟩ hM (fun c hc => c_X3_fill (xE X) a0 h0 ((σ a0 0)) ((((σ a0 0) + (σ a0 1)) + (σ a0 5))) ((σ a0 2)) (((σ a0 3) + (σ a0 4))) ((σ a0 4)) ((((2 : Int32) * (σ a0 0)) + (σ a0 5))) c hc) (fun c1 hM => ?_)
      cases hM
      exact g_retv hR dX3_twisted_121 rfl
    · refine g_aload_n hC dX3_twisted_40 rfl 0 rfl ?_
      refine g_aload_n hC dX3_twisted_41 rfl 0 rfl ?_
      refine fg_2_0 hC h0 k_231 dX3_twisted_42 rfl ?_
      refine g_aload_n hC dX3_twisted_45 rfl 0 rfl ?_
      refine fg_2_2 hC h0 k_235 dX3_twisted_46 rfl ?_
      refine g_aload_n hC dX3_twisted_49 rfl 0 rfl ?_
      refine fg_2_1 hC h0 k_233 dX3_twisted_50 rfl ?_
      refine g_aload_n hC dX3_twisted_53 rfl 0 rfl ?_
      refine fg_2_3 hC h0 k_237 dX3_twisted_54 rfl ?_
      refine g_aload_n hC dX3_twisted_57 rfl 0 rfl ?_
      refine fg_2_5 hC h0 k_241 dX3_twisted_58 rfl ?_
      refine g_aload_n hC dX3_twisted_61 rfl 0 rfl ?_
      refine fg_2_4 hC h0 k_239 dX3_twisted_62 rfl ?_
      refine g_callVv0 (As := [.int ((σ a0 0)), .int ((σ a0 2)), .int ((σ a0 1)), .int ((σ a0 3)), .int ((σ a0 5)), .int ((σ a0 4))]) (st' := []) (k := a0) (L' := 0) hC Y_X3_fill I_X3_fill k_593 ⟨by decide, by decide⟩ h0 (ci := 2) (by decide) rfl dX3_twisted_65 rfl rfl rfl (Nat.le_of_ble_eq_true rfl) ⟨Nat.zero_le _, Nat.zero_le _⟩ hM (fun c hc => c_X3_fill (xE X) a0 h0 ((σ a0 0)) ((σ a0 2)) ((σ a0 1)) ((σ a0 3)) ((σ a0 5)) ((σ a0 4)) c hc) (fun c2 hM => ?_)
      refine g_goto (tgt := 121) hC dX3_twisted_68 rfl (by decide) ?_
      cases hM
      exact g_retv hR dX3_twisted_121 rfl
  · refine g_aload_n hC dX3_twisted_4 rfl 0 rfl ?_
    refine g_aload_n hC dX3_twisted_5 rfl 0 rfl ?_
    refine fg_2_1 hC h0 k_233 dX3_twisted_6 rfl ?_
    refine g_aload_n hC dX3_twisted_9 rfl 0 rfl ?_
    refine fg_2_0 hC h0 k_231 dX3_twisted_10 rfl ?_
    refine g_aload_n hC dX3_twisted_13 rfl 0 rfl ?_
    refine fg_2_2 hC h0 k_235 dX3_twisted_14 rfl ?_
    refine g_aload_n hC dX3_twisted_17 rfl 0 rfl ?_
    refine fg_2_4 hC h0 k_239 dX3_twisted_18 rfl ?_
    refine g_aload_n hC dX3_twisted_21 rfl 0 rfl ?_
    refine fg_2_3 hC h0 k_237 dX3_twisted_22 rfl ?_
    refine g_aload_n hC dX3_twisted_25 rfl 0 rfl ?_
    refine fg_2_5 hC h0 k_241 dX3_twisted_26 rfl ?_
    refine g_callVv0 (As := [.int ((σ a0 1)), .int ((σ a0 0)), .int ((σ a0 2)), .int ((σ a0 4)), .int ((σ a0 3)), .int ((σ a0 5))]) (st' := []) (k := a0) (L' := 0) hC Y_X3_fill I_X3_fill k_593 ⟨by decide, by decide⟩ h0 (ci := 2) (by decide) rfl dX3_twisted_29 rfl rfl rfl (Nat.le_of_ble_eq_true rfl) ⟨Nat.zero_le _, Nat.zero_le _⟩ hM (fun c hc => c_X3_fill (xE X) a0 h0 ((σ a0 1)) ((σ a0 0)) ((σ a0 2)) ((σ a0 4)) ((σ a0 3)) ((σ a0 5)) c hc) (fun c3 hM => ?_)
    refine g_goto (tgt := 121) hC dX3_twisted_32 rfl (by decide) ?_
    cases hM
    exact g_retv hR dX3_twisted_121 rfl
def MX3_multiply (σ : Sto) (a0 : Nat) : Option (Sto) :=
  Option.bind (MX3_fill σ a0 (((σ a0 0) * (σ a0 3))) (((σ a0 1) * (σ a0 4))) (((σ a0 2) * (σ a0 5))) ((((σ a0 1) * (σ a0 5)) + ((σ a0 2) * (σ a0 4)))) ((((σ a0 0) * (σ a0 5)) + ((σ a0 2) * (σ a0 3)))) ((((σ a0 0) * (σ a0 4)) + ((σ a0 1) * (σ a0 3))))) fun c1 =>
  some c1
set_option maxHeartbeats 4000000 in
set_option maxRecDepth 100000 in
theorem c_X3_multiply (E : EX) {n : Nat} {ρ : Rho} {σ : Sto} (a0 : Nat) (h0 : Sh n a0 2) (res : Sto) (hM : MX3_multiply σ a0 = some res) : CTv E yX3_multiply cX3_multiply 1 1 0 0 [.ref (eb E + a0)] n σ ρ res ρ := by
  refine ct_v (by decide +kernel) (Nat.le_of_ble_eq_true rfl) (fun X hE hml hin hRm hC hR => ?_)
  subst hE
  show G X 0 0 n σ ρ 0 [(0, vr X a0)] []
  replace hC : Cx X cX3_multiply RX3 1 := hC
  unfold MX3_multiply at hM
  refine g_aload_n hC dX3_multiply_0 rfl 0 rfl ?_
  refine g_aload_n hC dX3_multiply_1 rfl 0 rfl ?_
  refine fg_2_0 hC h0 k_231 dX3_multiply_2 rfl ?_
  refine g_aload_n hC dX3_multiply_5 rfl 0 rfl ?_
  refine fg_2_3 hC h0 k_237 dX3_multiply_6 rfl ?_
  refine g_imul hC dX3_multiply_9 rfl ?_
  refine g_aload_n hC dX3_multiply_10 rfl 0 rfl ?_
  refine fg_2_1 hC h0 k_233 dX3_multiply_11 rfl ?_
  refine g_aload_n hC dX3_multiply_14 rfl 0 rfl ?_
  refine fg_2_4 hC h0 k_239 dX3_multiply_15 rfl ?_
  refine g_imul hC dX3_multiply_18 rfl ?_
  refine g_aload_n hC dX3_multiply_19 rfl 0 rfl ?_
  refine fg_2_2 hC h0 k_235 dX3_multiply_20 rfl ?_
  refine g_aload_n hC dX3_multiply_23 rfl 0 rfl ?_
  refine fg_2_5 hC h0 k_241 dX3_multiply_24 rfl ?_
  refine g_imul hC dX3_multiply_27 rfl ?_
  refine g_aload_n hC dX3_multiply_28 rfl 0 rfl ?_
  refine fg_2_1 hC h0 k_233 dX3_multiply_29 rfl ?_
  refine g_aload_n hC dX3_multiply_32 rfl 0 rfl ?_
  refine fg_2_5 hC h0 k_241 dX3_multiply_33 rfl ?_
  refine g_imul hC dX3_multiply_36 rfl ?_
  refine g_aload_n hC dX3_multiply_37 rfl 0 rfl ?_
  refine fg_2_2 hC h0 k_235 dX3_multiply_38 rfl ?_
  refine g_aload_n hC dX3_multiply_41 rfl 0 rfl ?_
  refine fg_2_4 hC h0 k_239 dX3_multiply_42 rfl ?_
  refine g_imul hC dX3_multiply_45 rfl ?_
  refine g_iadd hC dX3_multiply_46 rfl ?_
  refine g_aload_n hC dX3_multiply_47 rfl 0 rfl ?_
  refine fg_2_0 hC h0 k_231 dX3_multiply_48 rfl ?_
  refine g_aload_n hC dX3_multiply_51 rfl 0 rfl ?_
  refine fg_2_5 hC h0 k_241 dX3_multiply_52 rfl ?_
  refine g_imul hC dX3_multiply_55 rfl ?_
  refine g_aload_n hC dX3_multiply_56 rfl 0 rfl ?_
  refine fg_2_2 hC h0 k_235 dX3_multiply_57 rfl ?_
  refine g_aload_n hC dX3_multiply_60 rfl 0 rfl ?_
  refine fg_2_3 hC h0 k_237 dX3_multiply_61 rfl ?_
  refine g_imul hC dX3_multiply_64 rfl ?_
  refine g_iadd hC dX3_multiply_65 rfl ?_
  refine g_aload_n hC dX3_multiply_66 rfl 0 rfl ?_
  refine fg_2_0 hC h0 k_231 dX3_multiply_67 rfl ?_
  refine g_aload_n hC dX3_multiply_70 rfl 0 rfl ?_
  refine fg_2_4 hC h0 k_239 dX3_multiply_71 rfl ?_
  refine g_imul hC dX3_multiply_74 rfl ?_
  refine g_aload_n hC dX3_multiply_75 rfl 0 rfl ?_
  refine fg_2_1 hC h0 k_233 dX3_multiply_76 rfl ?_
  refine g_aload_n hC dX3_multiply_79 rfl 0 rfl ?_
  refine fg_2_3 hC h0 k_237 dX3_multiply_80 rfl ?_
  refine g_imul hC dX3_multiply_83 rfl ?_
  refine g_iadd hC dX3_multiply_84 rfl ?_
  refine g_callVv0 (As := [.int (((σ a0 0) * (σ a0 3))), .int (((σ a0 1) * (σ a0 4))), .int (((σ a0 2) * (σ a0 5))), .int ((((σ a0 1) * (σ a0 5)) + ((σ a0 2) * (σ a0 4)))), .int ((((σ a0 0) * (σ a0 5)) + ((σ a0 2) * (σ a0 3)))), .int ((((σ a0 0) * (σ a0 4)) + ((σ a0 1) * (σ a0 3))))]) (st' := []) (k := a0) (L' := 0) hC Y_X3_fill I_X3_fill k_593 ⟨by decide, by decide⟩ h0 (ci := 2) (by decide) rfl dX3_multiply_85 rfl rfl rfl (Nat.le_of_ble_eq_true rfl) ⟨Nat.zero_le _, Nat.zero_le _⟩ hM (fun c hc => c_X3_fill (xE X) a0 h0 (((σ a0 0) * (σ a0 3))) (((σ a0 1) * (σ a0 4))) (((σ a0 2) * (σ a0 5))) ((((σ a0 1) * (σ a0 5)) + ((σ a0 2) * (σ a0 4)))) ((((σ a0 0) * (σ a0 5)) + ((σ a0 2) * (σ a0 3)))) ((((σ a0 0) * (σ a0 4)) + ((σ a0 1) * (σ a0 3)))) c hc) (fun c1 hM => ?_)
  cases hM
  exact g_retv hR dX3_multiply_88 rfl
def MX3_i (σ : Sto) (a0 : Nat) : Option (Int32) :=
  some ((((((4 : Int32) * (σ a0 1)) * (σ a0 2)) - ((σ a0 3) * (σ a0 3))) + (((4 : Int32) * (σ a0 0)) * (σ a0 2))) - ((σ a0 4) * (σ a0 4)))
set_option maxHeartbeats 4000000 in
set_option maxRecDepth 100000 in
theorem c_X3_i (E : EX) {n : Nat} {ρ : Rho} {σ : Sto} (a0 : Nat) (h0 : Sh n a0 2) (res : Int32) (hM : MX3_i σ a0 = some res) : CTi E yX3_i cX3_i 1 (some .int) 0 [.ref (eb E + a0)] n σ ρ res σ ρ := by
  refine ct_i (by decide +kernel) rfl (Nat.le_of_ble_eq_true rfl) (fun X hE hml hC hR => ?_)
  subst hE
  show G X 0 0 n σ ρ 0 [(0, vr X a0)] []
  replace hC : Cx X cX3_i RX3 0 := hC
  unfold MX3_i at hM
  refine g_iconst (v := 4) hC dX3_i_0 rfl ic_4 ?_
  refine g_aload_n hC dX3_i_1 rfl 0 rfl ?_
  refine fg_2_1 hC h0 k_233 dX3_i_2 rfl ?_
  refine g_imul hC dX3_i_5 rfl ?_
  refine g_aload_n hC dX3_i_6 rfl 0 rfl ?_
  refine fg_2_2 hC h0 k_235 dX3_i_7 rfl ?_
  refine g_imul hC dX3_i_10 rfl ?_
  refine g_aload_n hC dX3_i_11 rfl 0 rfl ?_
  refine fg_2_3 hC h0 k_237 dX3_i_12 rfl ?_
  refine g_aload_n hC dX3_i_15 rfl 0 rfl ?_
  refine fg_2_3 hC h0 k_237 dX3_i_16 rfl ?_
  refine g_imul hC dX3_i_19 rfl ?_
  refine g_isub hC dX3_i_20 rfl ?_
  refine g_iconst (v := 4) hC dX3_i_21 rfl ic_4 ?_
  refine g_aload_n hC dX3_i_22 rfl 0 rfl ?_
  refine fg_2_0 hC h0 k_231 dX3_i_23 rfl ?_
  refine g_imul hC dX3_i_26 rfl ?_
  refine g_aload_n hC dX3_i_27 rfl 0 rfl ?_
  refine fg_2_2 hC h0 k_235 dX3_i_28 rfl ?_
  refine g_imul hC dX3_i_31 rfl ?_
  refine g_iadd hC dX3_i_32 rfl ?_
  refine g_aload_n hC dX3_i_33 rfl 0 rfl ?_
  refine fg_2_4 hC h0 k_239 dX3_i_34 rfl ?_
  refine g_aload_n hC dX3_i_37 rfl 0 rfl ?_
  refine fg_2_4 hC h0 k_239 dX3_i_38 rfl ?_
  refine g_imul hC dX3_i_41 rfl ?_
  refine g_isub hC dX3_i_42 rfl ?_
  obtain rfl := Option.some.inj hM
  exact g_reti hR dX3_i_43 rfl
def MX3_sortOfWhole (σ : Sto) (a0 : Nat) : Option (Int32) :=
  Option.bind (MX3_d σ a0) fun c1 =>
  if c1 ≤ 0 then
    Option.bind (MX3_d σ a0) fun c2 =>
    if c2 = 0 then
      some (2 : Int32)
    else
      some (3 : Int32)
  else
    Option.bind (MX3_e σ a0) fun c3 =>
    if 0 ≤ (lg_cmp ((c3.toInt64 * (((σ a0 0) + (σ a0 1))).toInt64)) ((0 : Int64))) then
      some (1 : Int32)
    else
      some (0 : Int32)
set_option maxHeartbeats 4000000 in
set_option maxRecDepth 100000 in
theorem c_X3_sortOfWhole (E : EX) {n : Nat} {ρ : Rho} {σ : Sto} (a0 : Nat) (h0 : Sh n a0 2) (res : Int32) (hM : MX3_sortOfWhole σ a0 = some res) : CTi E yX3_sortOfWhole cX3_sortOfWhole 1 (some .int) 1 [.ref (eb E + a0)] n σ ρ res σ ρ := by
  refine ct_i (by decide +kernel) rfl (Nat.le_of_ble_eq_true rfl) (fun X hE hml hC hR => ?_)
  subst hE
  show G X 0 0 n σ ρ 0 [(0, vr X a0)] []
  replace hC : Cx X cX3_sortOfWhole RX3 1 := hC
  unfold MX3_sortOfWhole at hM
  refine g_aload_n hC dX3_sortOfWhole_0 rfl 0 rfl ?_
  refine g_callVi (As := []) (st' := []) (k := a0) (L' := 0) hC Y_X3_d I_X3_d k_854 ⟨by decide, by decide⟩ h0 (ci := 2) (by decide) rfl dX3_sortOfWhole_1 rfl rfl rfl (Nat.le_of_ble_eq_true rfl) ⟨Nat.zero_le _, Nat.zero_le _⟩ hM (fun c hc => c_X3_d (xE X) a0 h0 c hc) (fun c1 hM => ?_)
  refine g_if_le (tgt := 34) hC dX3_sortOfWhole_4 rfl (by decide) hM (fun hM => ?_) (fun hM => ?_)
  · refine g_aload_n hC dX3_sortOfWhole_34 rfl 0 rfl ?_
    refine g_callVi (As := []) (st' := []) (k := a0) (L' := 0) hC Y_X3_d I_X3_d k_854 ⟨by decide, by decide⟩ h0 (ci := 2) (by decide) rfl dX3_sortOfWhole_35 rfl rfl rfl (Nat.le_of_ble_eq_true rfl) ⟨Nat.zero_le _, Nat.zero_le _⟩ hM (fun c hc => c_X3_d (xE X) a0 h0 c hc) (fun c2 hM => ?_)
    refine g_if_ne (tgt := 45) hC dX3_sortOfWhole_38 rfl (by decide) hM (fun hM => ?_) (fun hM => ?_)
    · refine g_iconst (v := 3) hC dX3_sortOfWhole_45 rfl ic_3 ?_
      cases hM
      exact g_reti hR dX3_sortOfWhole_46 rfl
    · refine g_iconst (v := 2) hC dX3_sortOfWhole_41 rfl ic_2 ?_
      refine g_goto (tgt := 46) hC dX3_sortOfWhole_42 rfl (by decide) ?_
      cases hM
      exact g_reti hR dX3_sortOfWhole_46 rfl
  · refine g_aload_n hC dX3_sortOfWhole_7 rfl 0 rfl ?_
    refine g_callVi (As := []) (st' := []) (k := a0) (L' := 0) hC Y_X3_e I_X3_e k_849 ⟨by decide, by decide⟩ h0 (ci := 2) (by decide) rfl dX3_sortOfWhole_8 rfl rfl rfl (Nat.le_of_ble_eq_true rfl) ⟨Nat.zero_le _, Nat.zero_le _⟩ hM (fun c hc => c_X3_e (xE X) a0 h0 c hc) (fun c3 hM => ?_)
    refine g_i2l hC dX3_sortOfWhole_11 rfl ?_
    refine g_aload_n hC dX3_sortOfWhole_12 rfl 0 rfl ?_
    refine fg_2_0 hC h0 k_231 dX3_sortOfWhole_13 rfl ?_
    refine g_aload_n hC dX3_sortOfWhole_16 rfl 0 rfl ?_
    refine fg_2_1 hC h0 k_233 dX3_sortOfWhole_17 rfl ?_
    refine g_iadd hC dX3_sortOfWhole_20 rfl ?_
    refine g_i2l hC dX3_sortOfWhole_21 rfl ?_
    refine g_lmul hC dX3_sortOfWhole_22 rfl ?_
    refine g_lconst (v := 0) hC dX3_sortOfWhole_23 rfl rfl ?_
    refine g_lcmp hC dX3_sortOfWhole_24 rfl ?_
    refine g_if_ge (tgt := 32) hC dX3_sortOfWhole_25 rfl (by decide) hM (fun hM => ?_) (fun hM => ?_)
    · refine g_iconst (v := 1) hC dX3_sortOfWhole_32 rfl ic_1 ?_
      cases hM
      exact g_reti hR dX3_sortOfWhole_33 rfl
    · refine g_iconst (v := 0) hC dX3_sortOfWhole_28 rfl ic_0 ?_
      refine g_goto (tgt := 33) hC dX3_sortOfWhole_29 rfl (by decide) ?_
      cases hM
      exact g_reti hR dX3_sortOfWhole_33 rfl
def BX3_sortOfFallen_41 (σ : Sto) (a0 : Nat) : Option (Int32) :=
  Option.bind (MX3_i σ a0) fun c1 =>
  if 0 ≤ c1 then
    Option.bind (MX3_i σ a0) fun c2 =>
    if c2 ≤ 0 then
      some (8 : Int32)
    else
      some (7 : Int32)
  else
    some (6 : Int32)
set_option maxHeartbeats 4000000 in
set_option maxRecDepth 100000 in
theorem bX3_sortOfFallen_41 {X : CX} {n : Nat} {ρ : Rho} {σ : Sto} {res : Int32} (hC : Cx X cX3_sortOfFallen RX3 1) (hml : (xc X).maxLocals = 1) (hR : RtT (some .int) X cX3_sortOfFallen n res σ ρ) (a0 : Nat) (h0 : Sh n a0 2) : BX3_sortOfFallen_41 σ a0 = some res → G X 0 0 n σ ρ 41 [(0, vr X a0)] [] := by
  intro  hM
  unfold BX3_sortOfFallen_41 at hM
  refine g_aload_n hC dX3_sortOfFallen_41 rfl 0 rfl ?_
  refine g_callVi (As := []) (st' := []) (k := a0) (L' := 0) hC Y_X3_i I_X3_i k_859 ⟨by decide, by decide⟩ h0 (ci := 2) (by decide) rfl dX3_sortOfFallen_42 rfl rfl rfl (Nat.le_of_ble_eq_true rfl) ⟨Nat.zero_le _, Nat.zero_le _⟩ hM (fun c hc => c_X3_i (xE X) a0 h0 c hc) (fun c1 hM => ?_)
  refine g_if_ge (tgt := 53) hC dX3_sortOfFallen_45 rfl (by decide) hM (fun hM => ?_) (fun hM => ?_)
  · refine g_aload_n hC dX3_sortOfFallen_53 rfl 0 rfl ?_
    refine g_callVi (As := []) (st' := []) (k := a0) (L' := 0) hC Y_X3_i I_X3_i k_859 ⟨by decide, by decide⟩ h0 (ci := 2) (by decide) rfl dX3_sortOfFallen_54 rfl rfl rfl (Nat.le_of_ble_eq_true rfl) ⟨Nat.zero_le _, Nat.zero_le _⟩ hM (fun c hc => c_X3_i (xE X) a0 h0 c hc) (fun c2 hM => ?_)
    refine g_if_le (tgt := 65) hC dX3_sortOfFallen_57 rfl (by decide) hM (fun hM => ?_) (fun hM => ?_)
    · refine g_bipush (v := 8) hC dX3_sortOfFallen_65 rfl ib_8 ?_
      cases hM
      exact g_reti hR dX3_sortOfFallen_67 rfl
    · refine g_bipush (v := 7) hC dX3_sortOfFallen_60 rfl ib_7 ?_
      refine g_goto (tgt := 67) hC dX3_sortOfFallen_62 rfl (by decide) ?_
      cases hM
      exact g_reti hR dX3_sortOfFallen_67 rfl
  · refine g_bipush (v := 6) hC dX3_sortOfFallen_48 rfl ib_6 ?_
    refine g_goto (tgt := 67) hC dX3_sortOfFallen_50 rfl (by decide) ?_
    cases hM
    exact g_reti hR dX3_sortOfFallen_67 rfl
def MX3_sortOfFallen (σ : Sto) (a0 : Nat) : Option (Int32) :=
  Option.bind (MX3_d σ a0) fun c1 =>
  if c1 = 0 then
    if (σ a0 0) = 0 then
      if (σ a0 1) = 0 then
        if (σ a0 5) = 0 then
          if (σ a0 3) = 0 then
            if (σ a0 4) = 0 then
              some (10 : Int32)
            else
              some (9 : Int32)
          else
            some (9 : Int32)
        else
          BX3_sortOfFallen_41 σ a0
      else
        BX3_sortOfFallen_41 σ a0
    else
      BX3_sortOfFallen_41 σ a0
  else
    Option.bind (MX3_d σ a0) fun c2 =>
    if c2 ≤ 0 then
      some (5 : Int32)
    else
      some (4 : Int32)
set_option maxHeartbeats 4000000 in
set_option maxRecDepth 100000 in
theorem c_X3_sortOfFallen (E : EX) {n : Nat} {ρ : Rho} {σ : Sto} (a0 : Nat) (h0 : Sh n a0 2) (res : Int32) (hM : MX3_sortOfFallen σ a0 = some res) : CTi E yX3_sortOfFallen cX3_sortOfFallen 1 (some .int) 1 [.ref (eb E + a0)] n σ ρ res σ ρ := by
  refine ct_i (by decide +kernel) rfl (Nat.le_of_ble_eq_true rfl) (fun X hE hml hC hR => ?_)
  subst hE
  show G X 0 0 n σ ρ 0 [(0, vr X a0)] []
  replace hC : Cx X cX3_sortOfFallen RX3 1 := hC
  unfold MX3_sortOfFallen at hM
  refine g_aload_n hC dX3_sortOfFallen_0 rfl 0 rfl ?_
  refine g_callVi (As := []) (st' := []) (k := a0) (L' := 0) hC Y_X3_d I_X3_d k_854 ⟨by decide, by decide⟩ h0 (ci := 2) (by decide) rfl dX3_sortOfFallen_1 rfl rfl rfl (Nat.le_of_ble_eq_true rfl) ⟨Nat.zero_le _, Nat.zero_le _⟩ hM (fun c hc => c_X3_d (xE X) a0 h0 c hc) (fun c1 hM => ?_)
  refine g_if_eq (tgt := 20) hC dX3_sortOfFallen_4 rfl (by decide) hM (fun hM => ?_) (fun hM => ?_)
  · refine g_aload_n hC dX3_sortOfFallen_20 rfl 0 rfl ?_
    refine fg_2_0 hC h0 k_231 dX3_sortOfFallen_21 rfl ?_
    refine g_if_ne (tgt := 41) hC dX3_sortOfFallen_24 rfl (by decide) hM (fun hM => ?_) (fun hM => ?_)
    · exact g_sub [0] ((bX3_sortOfFallen_41 hC hml hR a0 h0 )  hM) rfl
    · refine g_aload_n hC dX3_sortOfFallen_27 rfl 0 rfl ?_
      refine fg_2_1 hC h0 k_233 dX3_sortOfFallen_28 rfl ?_
      refine g_if_ne (tgt := 41) hC dX3_sortOfFallen_31 rfl (by decide) hM (fun hM => ?_) (fun hM => ?_)
      · exact g_sub [0] ((bX3_sortOfFallen_41 hC hml hR a0 h0 )  hM) rfl
      · refine g_aload_n hC dX3_sortOfFallen_34 rfl 0 rfl ?_
        refine fg_2_5 hC h0 k_241 dX3_sortOfFallen_35 rfl ?_
        refine g_if_eq (tgt := 68) hC dX3_sortOfFallen_38 rfl (by decide) hM (fun hM => ?_) (fun hM => ?_)
        · refine g_aload_n hC dX3_sortOfFallen_68 rfl 0 rfl ?_
          refine fg_2_3 hC h0 k_237 dX3_sortOfFallen_69 rfl ?_
          refine g_if_ne (tgt := 82) hC dX3_sortOfFallen_72 rfl (by decide) hM (fun hM => ?_) (fun hM => ?_)
          · refine g_bipush (v := 9) hC dX3_sortOfFallen_82 rfl ib_9 ?_
            refine g_goto (tgt := 89) hC dX3_sortOfFallen_84 rfl (by decide) ?_
            cases hM
            exact g_reti hR dX3_sortOfFallen_89 rfl
          · refine g_aload_n hC dX3_sortOfFallen_75 rfl 0 rfl ?_
            refine fg_2_4 hC h0 k_239 dX3_sortOfFallen_76 rfl ?_
            refine g_if_eq (tgt := 87) hC dX3_sortOfFallen_79 rfl (by decide) hM (fun hM => ?_) (fun hM => ?_)
            · refine g_bipush (v := 10) hC dX3_sortOfFallen_87 rfl ib_10 ?_
              cases hM
              exact g_reti hR dX3_sortOfFallen_89 rfl
            · refine g_bipush (v := 9) hC dX3_sortOfFallen_82 rfl ib_9 ?_
              refine g_goto (tgt := 89) hC dX3_sortOfFallen_84 rfl (by decide) ?_
              cases hM
              exact g_reti hR dX3_sortOfFallen_89 rfl
        · exact g_sub [0] ((bX3_sortOfFallen_41 hC hml hR a0 h0 )  hM) rfl
  · refine g_aload_n hC dX3_sortOfFallen_7 rfl 0 rfl ?_
    refine g_callVi (As := []) (st' := []) (k := a0) (L' := 0) hC Y_X3_d I_X3_d k_854 ⟨by decide, by decide⟩ h0 (ci := 2) (by decide) rfl dX3_sortOfFallen_8 rfl rfl rfl (Nat.le_of_ble_eq_true rfl) ⟨Nat.zero_le _, Nat.zero_le _⟩ hM (fun c hc => c_X3_d (xE X) a0 h0 c hc) (fun c2 hM => ?_)
    refine g_if_le (tgt := 18) hC dX3_sortOfFallen_11 rfl (by decide) hM (fun hM => ?_) (fun hM => ?_)
    · refine g_iconst (v := 5) hC dX3_sortOfFallen_18 rfl ic_5 ?_
      cases hM
      exact g_reti hR dX3_sortOfFallen_19 rfl
    · refine g_iconst (v := 4) hC dX3_sortOfFallen_14 rfl ic_4 ?_
      refine g_goto (tgt := 19) hC dX3_sortOfFallen_15 rfl (by decide) ?_
      cases hM
      exact g_reti hR dX3_sortOfFallen_19 rfl
def MX3_sort (σ : Sto) (a0 : Nat) : Option (Int32) :=
  Option.bind (MX3_e σ a0) fun c1 =>
  if c1 = 0 then
    Option.bind (MX3_sortOfFallen σ a0) fun c2 =>
    some c2
  else
    Option.bind (MX3_sortOfWhole σ a0) fun c3 =>
    some c3
set_option maxHeartbeats 4000000 in
set_option maxRecDepth 100000 in
theorem c_X3_sort (E : EX) {n : Nat} {ρ : Rho} {σ : Sto} (a0 : Nat) (h0 : Sh n a0 2) (res : Int32) (hM : MX3_sort σ a0 = some res) : CTi E yX3_sort cX3_sort 1 (some .int) 2 [.ref (eb E + a0)] n σ ρ res σ ρ := by
  refine ct_i (by decide +kernel) rfl (Nat.le_of_ble_eq_true rfl) (fun X hE hml hC hR => ?_)
  subst hE
  show G X 0 0 n σ ρ 0 [(0, vr X a0)] []
  replace hC : Cx X cX3_sort RX3 2 := hC
  unfold MX3_sort at hM
  refine g_aload_n hC dX3_sort_0 rfl 0 rfl ?_
  refine g_callVi (As := []) (st' := []) (k := a0) (L' := 0) hC Y_X3_e I_X3_e k_849 ⟨by decide, by decide⟩ h0 (ci := 2) (by decide) rfl dX3_sort_1 rfl rfl rfl (Nat.le_of_ble_eq_true rfl) ⟨Nat.zero_le _, Nat.zero_le _⟩ hM (fun c hc => c_X3_e (xE X) a0 h0 c hc) (fun c1 hM => ?_)
  refine g_if_eq (tgt := 14) hC dX3_sort_4 rfl (by decide) hM (fun hM => ?_) (fun hM => ?_)
  · refine g_aload_n hC dX3_sort_14 rfl 0 rfl ?_
    refine g_callVi (As := []) (st' := []) (k := a0) (L' := 1) hC Y_X3_sortOfFallen I_X3_sortOfFallen k_855 ⟨by decide, by decide⟩ h0 (ci := 2) (by decide) rfl dX3_sort_15 rfl rfl rfl (Nat.le_of_ble_eq_true rfl) ⟨Nat.zero_le _, Nat.zero_le _⟩ hM (fun c hc => c_X3_sortOfFallen (xE X) a0 h0 c hc) (fun c2 hM => ?_)
    cases hM
    exact g_reti hR dX3_sort_18 rfl
  · refine g_aload_n hC dX3_sort_7 rfl 0 rfl ?_
    refine g_callVi (As := []) (st' := []) (k := a0) (L' := 1) hC Y_X3_sortOfWhole I_X3_sortOfWhole k_850 ⟨by decide, by decide⟩ h0 (ci := 2) (by decide) rfl dX3_sort_8 rfl rfl rfl (Nat.le_of_ble_eq_true rfl) ⟨Nat.zero_le _, Nat.zero_le _⟩ hM (fun c hc => c_X3_sortOfWhole (xE X) a0 h0 c hc) (fun c3 hM => ?_)
    refine g_goto (tgt := 18) hC dX3_sort_11 rfl (by decide) ?_
    cases hM
    exact g_reti hR dX3_sort_18 rfl
def BX8_clear_39 (ρ : Rho) (a0 : Nat) (rec : Sto → Int32 → Option (Sto)) (σ : Sto) (v1 : Int32) (t0 : Nat) (t1 : Int32) (t2 : Int32) : Option (Sto) :=
  Option.bind (ap σ t0 t1 t2) fun σ1 =>
  bn (v1 + (1 : Int32)) fun y2 =>
  rec σ1 y2
set_option maxHeartbeats 4000000 in
set_option maxRecDepth 100000 in
theorem bX8_clear_39 {X : CX} {n : Nat} {ρ : Rho} {res : Sto} (hC : Cx X cX8_clear RX8 0) (hml : (xc X).maxLocals = 2) (hR : RtV X cX8_clear 0 0 n res ρ) (a0 : Nat) (h0 : Sh n a0 7) (rec : Sto → Int32 → Option (Sto)) (ih : ∀ (σ : Sto) (v1 : Int32), rec σ v1 = some res → G X 0 0 n σ ρ 13 [(0, vr X a0), (1, .int v1)] []) : ∀ (σ : Sto) (v1 : Int32) (t0 : Nat) (t1 : Int32) (t2 : Int32) (ht0 : Sh n t0 20), BX8_clear_39 ρ a0 rec σ v1 t0 t1 t2 = some res → G X 0 0 n σ ρ 39 [(0, vr X a0), (1, .int v1)] [.int t2, .int t1, vr X t0] := by
  intro σ v1 t0 t1 t2 ht0 hM
  unfold BX8_clear_39 at hM
  refine g_iast hC ht0 dX8_clear_39 rfl hM (fun σ1 hM => ?_)
  refine g_iinc (v := 1) hC (fun y2 => [(1, .int y2), (0, vr X a0)]) dX8_clear_40 rfl hM (j := 1) rfl ic_1 hml (by decide) (fun _ => rfl) (fun y2 hM => ?_)
  refine g_goto (tgt := 13) hC dX8_clear_43 rfl (by decide) ?_
  exact g_sub [1, 0] (ih _ _ hM) rfl
def FX8_clear_13 (ρ : Rho) (a0 : Nat) (rec : Sto → Int32 → Option (Sto)) (σ : Sto) (v1 : Int32) : Option (Sto) :=
  Option.bind (ρ a0 3) fun j1 =>
  if (Int32.ofNat (ln j1)) ≤ v1 then
    some σ
  else
    Option.bind (ρ a0 3) fun j2 =>
    Option.bind (rmi v1 ((6 : Int32))) fun z3 =>
    if z3 = 0 then
      BX8_clear_39 ρ a0 rec σ v1 j2 v1 ((1 : Int32))
    else
      BX8_clear_39 ρ a0 rec σ v1 j2 v1 ((0 : Int32))
set_option maxHeartbeats 4000000 in
set_option maxRecDepth 100000 in
theorem bX8_clear_13 {X : CX} {n : Nat} {ρ : Rho} {res : Sto} (hC : Cx X cX8_clear RX8 0) (hml : (xc X).maxLocals = 2) (hR : RtV X cX8_clear 0 0 n res ρ) (a0 : Nat) (h0 : Sh n a0 7) (fu : Nat) : ∀ (σ : Sto) (v1 : Int32), fixN (fun _ _ => none) (FX8_clear_13 ρ a0) fu σ v1 = some res → G X 0 0 n σ ρ 13 [(0, vr X a0), (1, .int v1)] [] := by
  refine fixN_ind (P := fun (f : Sto → Int32 → Option (Sto)) => ∀ (σ : Sto) (v1 : Int32), f σ v1 = some res → G X 0 0 n σ ρ 13 [(0, vr X a0), (1, .int v1)] []) ?_ ?_ fu
  · intro σ v1 hM; cases hM
  · intro rec ih σ v1 hM
    unfold FX8_clear_13 at hM
    refine g_iload_n hC dX8_clear_13 rfl 1 rfl ?_
    refine g_aload_n hC dX8_clear_14 rfl 0 rfl ?_
    refine fg_7_3 hC h0 k_145 dX8_clear_15 rfl hM (fun j1 hj1 hM => ?_)
    refine g_alen hC hj1 (by decide) rfl rfl dX8_clear_18 rfl ?_
    refine g_icmp_ge (tgt := 46) hC dX8_clear_19 rfl (by decide) hM (fun hM => ?_) (fun hM => ?_)
    · cases hM
      exact g_retv hR dX8_clear_46 rfl
    · refine g_aload_n hC dX8_clear_22 rfl 0 rfl ?_
      refine fg_7_3 hC h0 k_145 dX8_clear_23 rfl hM (fun j2 hj2 hM => ?_)
      refine g_iload_n hC dX8_clear_26 rfl 1 rfl ?_
      refine g_iload_n hC dX8_clear_27 rfl 1 rfl ?_
      refine g_bipush (v := 6) hC dX8_clear_28 rfl ib_6 ?_
      refine g_irem hC dX8_clear_30 rfl hM (fun z3 hM => ?_)
      refine g_if_ne (tgt := 38) hC dX8_clear_31 rfl (by decide) hM (fun hM => ?_) (fun hM => ?_)
      · refine g_iconst (v := 0) hC dX8_clear_38 rfl ic_0 ?_
        exact g_sub [0, 1] ((bX8_clear_39 hC hml hR a0 h0 rec ih ) _ _ _ _ _ hj2 hM) rfl
      · refine g_iconst (v := 1) hC dX8_clear_34 rfl ic_1 ?_
        refine g_goto (tgt := 39) hC dX8_clear_35 rfl (by decide) ?_
        exact g_sub [0, 1] ((bX8_clear_39 hC hml hR a0 h0 rec ih ) _ _ _ _ _ hj2 hM) rfl
def MX8_clear (σ : Sto) (ρ : Rho) (a0 : Nat) : Option (Sto) :=
  bn (su σ a0 0 ((7 : Int32))) fun σ1 =>
  bn (su σ1 a0 1 ((0 : Int32))) fun σ2 =>
  bn ((0 : Int32)) fun y3 =>
  fixN (fun _ _ => none) (FX8_clear_13 ρ a0) FU σ2 y3
set_option maxHeartbeats 4000000 in
set_option maxRecDepth 100000 in
theorem c_X8_clear (E : EX) {n : Nat} {σ : Sto} {ρ : Rho} (a0 : Nat) (h0 : Sh n a0 7) (res : Sto) (hM : MX8_clear σ ρ a0 = some res) : CTv E yX8_clear cX8_clear 2 0 0 0 [.ref (eb E + a0)] n σ ρ res ρ := by
  refine ct_v (by decide +kernel) (Nat.le_of_ble_eq_true rfl) (fun X hE hml hin hRm hC hR => ?_)
  subst hE
  show G X 0 0 n σ ρ 0 [(0, vr X a0)] []
  replace hC : Cx X cX8_clear RX8 0 := hC
  unfold MX8_clear at hM
  refine g_aload_n hC dX8_clear_0 rfl 0 rfl ?_
  refine g_bipush (v := 7) hC dX8_clear_1 rfl ib_7 ?_
  refine fp_7_0 hC h0 k_136 dX8_clear_3 rfl hM (fun σ1 hM => ?_)
  refine g_aload_n hC dX8_clear_6 rfl 0 rfl ?_
  refine g_iconst (v := 0) hC dX8_clear_7 rfl ic_0 ?_
  refine fp_7_1 hC h0 k_140 dX8_clear_8 rfl hM (fun σ2 hM => ?_)
  refine g_iconst (v := 0) hC dX8_clear_11 rfl ic_0 ?_
  refine g_istore_n hC (fun y3 => [(1, .int y3), (0, vr X a0)]) dX8_clear_12 rfl hM hml (by decide) (fun _ => rfl) (fun y3 hM => ?_)
  exact g_sub [1, 0] ((bX8_clear_13 hC hml hR a0 h0  FU) _ _ hM) rfl
def MX8_copy (σ : Sto) (ρ : Rho) (a0 : Nat) (a1 : Nat) : Option (Sto) :=
  bn (su σ a0 0 ((σ a1 0))) fun σ1 =>
  bn (su σ1 a0 1 ((σ1 a1 1))) fun σ2 =>
  Option.bind (ρ a1 2) fun j3 =>
  Option.bind (ρ a0 2) fun j4 =>
  Option.bind (cpa σ2 j3 ((0 : Int32)) j4 ((0 : Int32)) ((8 : Int32))) fun σ5 =>
  Option.bind (ρ a1 3) fun j6 =>
  Option.bind (ρ a0 3) fun j7 =>
  Option.bind (cpa σ5 j6 ((0 : Int32)) j7 ((0 : Int32)) ((36 : Int32))) fun σ8 =>
  some σ8
set_option maxHeartbeats 4000000 in
set_option maxRecDepth 100000 in
theorem c_X8_copy (E : EX) {n : Nat} {σ : Sto} {ρ : Rho} (a0 : Nat) (h0 : Sh n a0 7) (a1 : Nat) (h1 : Sh n a1 7) (res : Sto) (hM : MX8_copy σ ρ a0 a1 = some res) : CTv E yX8_copy cX8_copy 2 1 0 0 [.ref (eb E + a0), .ref (eb E + a1)] n σ ρ res ρ := by
  refine ct_v (by decide +kernel) (Nat.le_of_ble_eq_true rfl) (fun X hE hml hin hRm hC hR => ?_)
  subst hE
  show G X 0 0 n σ ρ 0 [(0, vr X a0), (1, vr X a1)] []
  replace hC : Cx X cX8_copy RX8 1 := hC
  unfold MX8_copy at hM
  refine g_aload_n hC dX8_copy_0 rfl 0 rfl ?_
  refine g_aload_n hC dX8_copy_1 rfl 1 rfl ?_
  refine fg_7_0 hC h1 k_136 dX8_copy_2 rfl ?_
  refine fp_7_0 hC h0 k_136 dX8_copy_5 rfl hM (fun σ1 hM => ?_)
  refine g_aload_n hC dX8_copy_8 rfl 0 rfl ?_
  refine g_aload_n hC dX8_copy_9 rfl 1 rfl ?_
  refine fg_7_1 hC h1 k_140 dX8_copy_10 rfl ?_
  refine fp_7_1 hC h0 k_140 dX8_copy_13 rfl hM (fun σ2 hM => ?_)
  refine g_aload_n hC dX8_copy_16 rfl 1 rfl ?_
  refine fg_7_2 hC h1 k_144 dX8_copy_17 rfl hM (fun j3 hj3 hM => ?_)
  refine g_iconst (v := 0) hC dX8_copy_20 rfl ic_0 ?_
  refine g_aload_n hC dX8_copy_21 rfl 0 rfl ?_
  refine fg_7_2 hC h0 k_144 dX8_copy_22 rfl hM (fun j4 hj4 hM => ?_)
  refine g_iconst (v := 0) hC dX8_copy_25 rfl ic_0 ?_
  refine g_bipush (v := 8) hC dX8_copy_26 rfl ib_8 ?_
  refine g_copy (t := 0) (ty := .int) hC hj3 hj4 (by decide) rfl rfl (by decide) k_621 k_623 k_622 k_109 (by decide) dX8_copy_28 rfl hM (fun σ5 hM => ?_)
  refine g_aload_n hC dX8_copy_31 rfl 1 rfl ?_
  refine fg_7_3 hC h1 k_145 dX8_copy_32 rfl hM (fun j6 hj6 hM => ?_)
  refine g_iconst (v := 0) hC dX8_copy_35 rfl ic_0 ?_
  refine g_aload_n hC dX8_copy_36 rfl 0 rfl ?_
  refine fg_7_3 hC h0 k_145 dX8_copy_37 rfl hM (fun j7 hj7 hM => ?_)
  refine g_iconst (v := 0) hC dX8_copy_40 rfl ic_0 ?_
  refine g_bipush (v := 36) hC dX8_copy_41 rfl ib_36 ?_
  refine g_copy (t := 0) (ty := .int) hC hj6 hj7 (by decide) rfl rfl (by decide) k_621 k_623 k_622 k_109 (by decide) dX8_copy_43 rfl hM (fun σ8 hM => ?_)
  cases hM
  exact g_retv hR dX8_copy_46 rfl
def MX9_copy (σ : Sto) (ρ : Rho) (a0 : Nat) (a1 : Nat) : Option (Sto) :=
  bn (su σ a0 1 ((σ a1 1))) fun σ1 =>
  Option.bind (ρ a1 0) fun j2 =>
  Option.bind (ρ a0 0) fun j3 =>
  Option.bind (cpa σ1 j2 ((0 : Int32)) j3 ((0 : Int32)) ((500 : Int32))) fun σ4 =>
  some σ4
set_option maxHeartbeats 4000000 in
set_option maxRecDepth 100000 in
theorem c_X9_copy (E : EX) {n : Nat} {σ : Sto} {ρ : Rho} (a0 : Nat) (h0 : Sh n a0 8) (a1 : Nat) (h1 : Sh n a1 8) (res : Sto) (hM : MX9_copy σ ρ a0 a1 = some res) : CTv E yX9_copy cX9_copy 2 1 0 0 [.ref (eb E + a0), .ref (eb E + a1)] n σ ρ res ρ := by
  refine ct_v (by decide +kernel) (Nat.le_of_ble_eq_true rfl) (fun X hE hml hin hRm hC hR => ?_)
  subst hE
  show G X 0 0 n σ ρ 0 [(0, vr X a0), (1, vr X a1)] []
  replace hC : Cx X cX9_copy RX9 1 := hC
  unfold MX9_copy at hM
  refine g_aload_n hC dX9_copy_0 rfl 0 rfl ?_
  refine g_aload_n hC dX9_copy_1 rfl 1 rfl ?_
  refine fg_8_1 hC h1 k_163 dX9_copy_2 rfl ?_
  refine fp_8_1 hC h0 k_163 dX9_copy_5 rfl hM (fun σ1 hM => ?_)
  refine g_aload_n hC dX9_copy_8 rfl 1 rfl ?_
  refine fg_8_0 hC h1 k_162 dX9_copy_9 rfl hM (fun j2 hj2 hM => ?_)
  refine g_iconst (v := 0) hC dX9_copy_12 rfl ic_0 ?_
  refine g_aload_n hC dX9_copy_13 rfl 0 rfl ?_
  refine fg_8_0 hC h0 k_162 dX9_copy_14 rfl hM (fun j3 hj3 hM => ?_)
  refine g_iconst (v := 0) hC dX9_copy_17 rfl ic_0 ?_
  refine g_sipush (v := 500) hC dX9_copy_18 rfl is_500 ?_
  refine g_copy (t := 1) (ty := .byte) hC hj2 hj3 (by decide) rfl rfl (by decide) k_1067 k_623 k_622 k_109 (by decide) dX9_copy_21 rfl hM (fun σ4 hM => ?_)
  cases hM
  exact g_retv hR dX9_copy_24 rfl
def MX4_copy (σ : Sto) (ρ : Rho) (a0 : Nat) (a1 : Nat) : Option (Sto) :=
  Option.bind (ρ a0 0) fun j1 =>
  Option.bind (ρ a1 0) fun j2 =>
  Option.bind (MX8_copy σ ρ j1 j2) fun c3 =>
  Option.bind (ρ a0 1) fun j4 =>
  Option.bind (ρ a1 1) fun j5 =>
  Option.bind (MX9_copy c3 ρ j4 j5) fun c6 =>
  bn (su c6 a0 2 ((c6 a1 2))) fun σ7 =>
  bn (su σ7 a0 3 ((σ7 a1 3))) fun σ8 =>
  bn (su σ8 a0 4 ((σ8 a1 4))) fun σ9 =>
  bn (su σ9 a0 5 ((σ9 a1 5))) fun σ10 =>
  some σ10
set_option maxHeartbeats 4000000 in
set_option maxRecDepth 100000 in
theorem c_X4_copy (E : EX) {n : Nat} {σ : Sto} {ρ : Rho} (a0 : Nat) (h0 : Sh n a0 3) (a1 : Nat) (h1 : Sh n a1 3) (res : Sto) (hM : MX4_copy σ ρ a0 a1 = some res) : CTv E yX4_copy cX4_copy 2 2 0 0 [.ref (eb E + a0), .ref (eb E + a1)] n σ ρ res ρ := by
  refine ct_v (by decide +kernel) (Nat.le_of_ble_eq_true rfl) (fun X hE hml hin hRm hC hR => ?_)
  subst hE
  show G X 0 0 n σ ρ 0 [(0, vr X a0), (1, vr X a1)] []
  replace hC : Cx X cX4_copy RX4 2 := hC
  unfold MX4_copy at hM
  refine g_aload_n hC dX4_copy_0 rfl 0 rfl ?_
  refine fg_3_0 hC h0 k_171 dX4_copy_1 rfl hM (fun j1 hj1 hM => ?_)
  refine g_aload_n hC dX4_copy_4 rfl 1 rfl ?_
  refine fg_3_0 hC h1 k_171 dX4_copy_5 rfl hM (fun j2 hj2 hM => ?_)
  refine g_callVv0 (As := [vr X j2]) (st' := []) (k := j1) (L' := 1) hC Y_X8_copy I_X8_copy k_1062 ⟨by decide, by decide⟩ hj1 (ci := 7) (by decide) rfl dX4_copy_8 rfl rfl rfl (Nat.le_of_ble_eq_true rfl) ⟨Nat.zero_le _, Nat.zero_le _⟩ hM (fun c hc => c_X8_copy (xE X) j1 hj1 j2 hj2 c hc) (fun c3 hM => ?_)
  refine g_aload_n hC dX4_copy_11 rfl 0 rfl ?_
  refine fg_3_1 hC h0 k_173 dX4_copy_12 rfl hM (fun j4 hj4 hM => ?_)
  refine g_aload_n hC dX4_copy_15 rfl 1 rfl ?_
  refine fg_3_1 hC h1 k_173 dX4_copy_16 rfl hM (fun j5 hj5 hM => ?_)
  refine g_callVv0 (As := [vr X j5]) (st' := []) (k := j4) (L' := 1) hC Y_X9_copy I_X9_copy k_1063 ⟨by decide, by decide⟩ hj4 (ci := 8) (by decide) rfl dX4_copy_19 rfl rfl rfl (Nat.le_of_ble_eq_true rfl) ⟨Nat.zero_le _, Nat.zero_le _⟩ hM (fun c hc => c_X9_copy (xE X) j4 hj4 j5 hj5 c hc) (fun c6 hM => ?_)
  refine g_aload_n hC dX4_copy_22 rfl 0 rfl ?_
  refine g_aload_n hC dX4_copy_23 rfl 1 rfl ?_
  refine fg_3_2 hC h1 k_175 dX4_copy_24 rfl ?_
  refine fp_3_2 hC h0 k_175 dX4_copy_27 rfl hM (fun σ7 hM => ?_)
  refine g_aload_n hC dX4_copy_30 rfl 0 rfl ?_
  refine g_aload_n hC dX4_copy_31 rfl 1 rfl ?_
  refine fg_3_3 hC h1 k_177 dX4_copy_32 rfl ?_
  refine fp_3_3 hC h0 k_177 dX4_copy_35 rfl hM (fun σ8 hM => ?_)
  refine g_aload_n hC dX4_copy_38 rfl 0 rfl ?_
  refine g_aload_n hC dX4_copy_39 rfl 1 rfl ?_
  refine fg_3_4 hC h1 k_179 dX4_copy_40 rfl ?_
  refine fp_3_4 hC h0 k_179 dX4_copy_43 rfl hM (fun σ9 hM => ?_)
  refine g_aload_n hC dX4_copy_46 rfl 0 rfl ?_
  refine g_aload_n hC dX4_copy_47 rfl 1 rfl ?_
  refine fg_3_5 hC h1 k_181 dX4_copy_48 rfl ?_
  refine fp_3_5 hC h0 k_181 dX4_copy_51 rfl hM (fun σ10 hM => ?_)
  cases hM
  exact g_retv hR dX4_copy_54 rfl
def MJ9_min_7cf53 (a0 : Int32) (a1 : Int32) : Option (Int32) :=
  if a1 < a0 then
    some a1
  else
    some a0
set_option maxHeartbeats 4000000 in
set_option maxRecDepth 100000 in
theorem c_J9_min_7cf53 (E : EX) {n : Nat} {σ : Sto} {ρ : Rho} (a0 : Int32) (a1 : Int32) (res : Int32) (hM : MJ9_min_7cf53 a0 a1 = some res) : CTi E yJ9_min_7cf53 cJ9_min_7cf53 2 (some .int) 0 [.int a0, .int a1] n σ ρ res σ ρ := by
  refine ct_i (by decide +kernel) rfl (Nat.le_of_ble_eq_true rfl) (fun X hE hml hC hR => ?_)
  subst hE
  show G X 0 0 n σ ρ 0 [(0, .int a0), (1, .int a1)] []
  replace hC : Cx X cJ9_min_7cf53 RJ9 0 := hC
  unfold MJ9_min_7cf53 at hM
  refine g_iload_n hC dJ9_min_7cf53_0 rfl 0 rfl ?_
  refine g_iload_n hC dJ9_min_7cf53_1 rfl 1 rfl ?_
  refine g_icmp_gt (tgt := 9) hC dJ9_min_7cf53_2 rfl (by decide) hM (fun hM => ?_) (fun hM => ?_)
  · refine g_iload_n hC dJ9_min_7cf53_9 rfl 1 rfl ?_
    cases hM
    exact g_reti hR dJ9_min_7cf53_10 rfl
  · refine g_iload_n hC dJ9_min_7cf53_5 rfl 0 rfl ?_
    refine g_goto (tgt := 10) hC dJ9_min_7cf53_6 rfl (by decide) ?_
    cases hM
    exact g_reti hR dJ9_min_7cf53_10 rfl
def BX5_keep_52 (ρ : Rho) (a0 : Nat) (a1 : Nat) (σ : Sto) (t0 : Nat) (t1 : Int32) : Option (Sto) :=
  bn (su σ t0 1 t1) fun σ1 =>
  Option.bind (MJ9_min_7cf53 (((σ1 a0 2) + (1 : Int32))) ((8 : Int32))) fun c2 =>
  bn (su σ1 a0 2 c2) fun σ3 =>
  some σ3
set_option maxHeartbeats 4000000 in
set_option maxRecDepth 100000 in
theorem bX5_keep_52 {X : CX} {n : Nat} {ρ : Rho} {res : Sto} (hC : Cx X cX5_keep RX5 2) (hml : (xc X).maxLocals = 2) (hR : RtV X cX5_keep 0 0 n res ρ) (a0 : Nat) (a1 : Nat) (h0 : Sh n a0 4) (h1 : Sh n a1 7) : ∀ (σ : Sto) (t0 : Nat) (t1 : Int32) (ht0 : Sh n t0 4), BX5_keep_52 ρ a0 a1 σ t0 t1 = some res → G X 0 0 n σ ρ 52 [(0, vr X a0), (1, vr X a1)] [.int t1, vr X t0] := by
  intro σ t0 t1 ht0 hM
  unfold BX5_keep_52 at hM
  refine fp_4_1 hC ht0 k_206 dX5_keep_52 rfl hM (fun σ1 hM => ?_)
  refine g_aload_n hC dX5_keep_55 rfl 0 rfl ?_
  refine g_aload_n hC dX5_keep_56 rfl 0 rfl ?_
  refine fg_4_2 hC h0 k_207 dX5_keep_57 rfl ?_
  refine g_iconst (v := 1) hC dX5_keep_60 rfl ic_1 ?_
  refine g_iadd hC dX5_keep_61 rfl ?_
  refine g_bipush (v := 8) hC dX5_keep_62 rfl ib_8 ?_
  refine g_callSi (As := [.int (((σ1 a0 2) + (1 : Int32))), .int ((8 : Int32))]) (st' := [vr X a0]) (L' := 0) hC Y_J9_min_7cf53 k_647 k_646 ⟨by decide, by decide⟩ dX5_keep_64 rfl rfl rfl (Nat.le_of_ble_eq_true rfl) ⟨Nat.zero_le _, Nat.zero_le _⟩ hM (fun c hc => c_J9_min_7cf53 (xE X) (((σ1 a0 2) + (1 : Int32))) ((8 : Int32)) c hc) (fun c2 hM => ?_)
  refine fp_4_2 hC h0 k_207 dX5_keep_67 rfl hM (fun σ3 hM => ?_)
  cases hM
  exact g_retv hR dX5_keep_70 rfl
def MX5_keep (σ : Sto) (ρ : Rho) (a0 : Nat) (a1 : Nat) : Option (Sto) :=
  if (σ a0 1) < 0 then
    some σ
  else
    if (σ a0 1) < (8 : Int32) then
      Option.bind (ρ a0 0) fun j1 =>
      Option.bind (rg ρ j1 ((σ a0 1))) fun j2 =>
      Option.bind (MX8_copy σ ρ j2 a1) fun c3 =>
      if (8 : Int32) ≤ ((c3 a0 1) + (1 : Int32)) then
        BX5_keep_52 ρ a0 a1 c3 a0 ((0 : Int32))
      else
        BX5_keep_52 ρ a0 a1 c3 a0 (((c3 a0 1) + (1 : Int32)))
    else
      some σ
set_option maxHeartbeats 4000000 in
set_option maxRecDepth 100000 in
theorem c_X5_keep (E : EX) {n : Nat} {σ : Sto} {ρ : Rho} (a0 : Nat) (h0 : Sh n a0 4) (a1 : Nat) (h1 : Sh n a1 7) (res : Sto) (hM : MX5_keep σ ρ a0 a1 = some res) : CTv E yX5_keep cX5_keep 2 2 0 0 [.ref (eb E + a0), .ref (eb E + a1)] n σ ρ res ρ := by
  refine ct_v (by decide +kernel) (Nat.le_of_ble_eq_true rfl) (fun X hE hml hin hRm hC hR => ?_)
  subst hE
  show G X 0 0 n σ ρ 0 [(0, vr X a0), (1, vr X a1)] []
  replace hC : Cx X cX5_keep RX5 2 := hC
  unfold MX5_keep at hM
  refine g_aload_n hC dX5_keep_0 rfl 0 rfl ?_
  refine fg_4_1 hC h0 k_206 dX5_keep_1 rfl ?_
  refine g_if_lt (tgt := 16) hC dX5_keep_4 rfl (by decide) hM (fun hM => ?_) (fun hM => ?_)
  · cases hM
    exact g_retv hR dX5_keep_16 rfl
  · refine g_aload_n hC dX5_keep_7 rfl 0 rfl ?_
    refine fg_4_1 hC h0 k_206 dX5_keep_8 rfl ?_
    refine g_bipush (v := 8) hC dX5_keep_11 rfl ib_8 ?_
    refine g_icmp_lt (tgt := 17) hC dX5_keep_13 rfl (by decide) hM (fun hM => ?_) (fun hM => ?_)
    · refine g_aload_n hC dX5_keep_17 rfl 0 rfl ?_
      refine fg_4_0 hC h0 k_205 dX5_keep_18 rfl hM (fun j1 hj1 hM => ?_)
      refine g_aload_n hC dX5_keep_21 rfl 0 rfl ?_
      refine fg_4_1 hC h0 k_206 dX5_keep_22 rfl ?_
      refine g_aald hC hj1 (by decide) rfl rfl dX5_keep_25 rfl hM (fun j2 hj2 hM => ?_)
      refine g_aload_n hC dX5_keep_26 rfl 1 rfl ?_
      refine g_callVv0 (As := [vr X a1]) (st' := []) (k := j2) (L' := 1) hC Y_X8_copy I_X8_copy k_645 ⟨by decide, by decide⟩ hj2 (ci := 7) (by decide) rfl dX5_keep_27 rfl rfl rfl (Nat.le_of_ble_eq_true rfl) ⟨Nat.zero_le _, Nat.zero_le _⟩ hM (fun c hc => c_X8_copy (xE X) j2 hj2 a1 h1 c hc) (fun c3 hM => ?_)
      refine g_aload_n hC dX5_keep_30 rfl 0 rfl ?_
      refine g_aload_n hC dX5_keep_31 rfl 0 rfl ?_
      refine fg_4_1 hC h0 k_206 dX5_keep_32 rfl ?_
      refine g_iconst (v := 1) hC dX5_keep_35 rfl ic_1 ?_
      refine g_iadd hC dX5_keep_36 rfl ?_
      refine g_bipush (v := 8) hC dX5_keep_37 rfl ib_8 ?_
      refine g_icmp_ge (tgt := 51) hC dX5_keep_39 rfl (by decide) hM (fun hM => ?_) (fun hM => ?_)
      · refine g_iconst (v := 0) hC dX5_keep_51 rfl ic_0 ?_
        exact g_sub [0, 1] ((bX5_keep_52 hC hml hR a0 a1 h0 h1 ) _ _ _ h0 hM) rfl
      · refine g_aload_n hC dX5_keep_42 rfl 0 rfl ?_
        refine fg_4_1 hC h0 k_206 dX5_keep_43 rfl ?_
        refine g_iconst (v := 1) hC dX5_keep_46 rfl ic_1 ?_
        refine g_iadd hC dX5_keep_47 rfl ?_
        refine g_goto (tgt := 52) hC dX5_keep_48 rfl (by decide) ?_
        exact g_sub [0, 1] ((bX5_keep_52 hC hml hR a0 a1 h0 h1 ) _ _ _ h0 hM) rfl
    · cases hM
      exact g_retv hR dX5_keep_16 rfl
def BX5_giveBack_18 (ρ : Rho) (a0 : Nat) (a1 : Nat) (σ : Sto) (t0 : Int32) : Option (Int32 × Sto) :=
  bn t0 fun y1 =>
  if (σ a0 2) = 0 then
    zr ((0 : Int32)) (some ((0 : Int32), σ))
  else
    if y1 < (8 : Int32) then
      Option.bind (ρ a0 0) fun j2 =>
      Option.bind (rg ρ j2 y1) fun j3 =>
      Option.bind (MX8_copy σ ρ a1 j3) fun c4 =>
      bn (su c4 a0 1 y1) fun σ5 =>
      bn (su σ5 a0 2 (((σ5 a0 2) - (1 : Int32)))) fun σ6 =>
      zr ((1 : Int32)) (some ((1 : Int32), σ6))
    else
      zr ((0 : Int32)) (some ((0 : Int32), σ))
set_option maxHeartbeats 4000000 in
set_option maxRecDepth 100000 in
theorem bX5_giveBack_18 {X : CX} {n : Nat} {ρ : Rho} {res : Int32 × Sto} (hC : Cx X cX5_giveBack RX5 2) (hml : (xc X).maxLocals = 3) (hR : RtT (some .boolean) X cX5_giveBack n res.1 res.2 ρ) (a0 : Nat) (a1 : Nat) (h0 : Sh n a0 4) (h1 : Sh n a1 7) : ∀ (σ : Sto) (t0 : Int32), BX5_giveBack_18 ρ a0 a1 σ t0 = some res → G X 0 0 n σ ρ 18 [(0, vr X a0), (1, vr X a1)] [.int t0] := by
  intro σ t0 hM
  unfold BX5_giveBack_18 at hM
  refine g_istore_n hC (fun y1 => [(2, .int y1), (0, vr X a0), (1, vr X a1)]) dX5_giveBack_18 rfl hM hml (by decide) (fun _ => rfl) (fun y1 hM => ?_)
  refine g_aload_n hC dX5_giveBack_19 rfl 1 rfl ?_
  refine fg_4_2 hC h0 k_207 dX5_giveBack_20 rfl ?_
  refine g_if_eq (tgt := 32) hC dX5_giveBack_23 rfl (by decide) hM (fun hM => ?_) (fun hM => ?_)
  · refine g_iconst (v := 0) hC dX5_giveBack_32 rfl ic_0 ?_
    exact g_retz hM dX5_giveBack_33 rfl (fun h => by cases h; exact hR)
  · refine g_iload_n hC dX5_giveBack_26 rfl 0 rfl ?_
    refine g_bipush (v := 8) hC dX5_giveBack_27 rfl ib_8 ?_
    refine g_icmp_lt (tgt := 34) hC dX5_giveBack_29 rfl (by decide) hM (fun hM => ?_) (fun hM => ?_)
    · refine g_aload_n hC dX5_giveBack_34 rfl 2 rfl ?_
      refine g_aload_n hC dX5_giveBack_35 rfl 1 rfl ?_
      refine fg_4_0 hC h0 k_205 dX5_giveBack_36 rfl hM (fun j2 hj2 hM => ?_)
      refine g_iload_n hC dX5_giveBack_39 rfl 0 rfl ?_
      refine g_aald hC hj2 (by decide) rfl rfl dX5_giveBack_40 rfl hM (fun j3 hj3 hM => ?_)
      refine g_callVv0 (As := [vr X j3]) (st' := []) (k := a1) (L' := 1) hC Y_X8_copy I_X8_copy k_645 ⟨by decide, by decide⟩ h1 (ci := 7) (by decide) rfl dX5_giveBack_41 rfl rfl rfl (Nat.le_of_ble_eq_true rfl) ⟨Nat.zero_le _, Nat.zero_le _⟩ hM (fun c hc => c_X8_copy (xE X) a1 h1 j3 hj3 c hc) (fun c4 hM => ?_)
      refine g_aload_n hC dX5_giveBack_44 rfl 1 rfl ?_
      refine g_iload_n hC dX5_giveBack_45 rfl 0 rfl ?_
      refine fp_4_1 hC h0 k_206 dX5_giveBack_46 rfl hM (fun σ5 hM => ?_)
      refine g_aload_n hC dX5_giveBack_49 rfl 1 rfl ?_
      refine g_dup hC dX5_giveBack_50 rfl rfl ?_
      refine fg_4_2 hC h0 k_207 dX5_giveBack_51 rfl ?_
      refine g_iconst (v := 1) hC dX5_giveBack_54 rfl ic_1 ?_
      refine g_isub hC dX5_giveBack_55 rfl ?_
      refine fp_4_2 hC h0 k_207 dX5_giveBack_56 rfl hM (fun σ6 hM => ?_)
      refine g_iconst (v := 1) hC dX5_giveBack_59 rfl ic_1 ?_
      exact g_retz hM dX5_giveBack_60 rfl (fun h => by cases h; exact hR)
    · refine g_iconst (v := 0) hC dX5_giveBack_32 rfl ic_0 ?_
      exact g_retz hM dX5_giveBack_33 rfl (fun h => by cases h; exact hR)
def MX5_giveBack (σ : Sto) (ρ : Rho) (a0 : Nat) (a1 : Nat) : Option (Int32 × Sto) :=
  if (σ a0 1) ≤ 0 then
    BX5_giveBack_18 ρ a0 a1 σ ((7 : Int32))
  else
    BX5_giveBack_18 ρ a0 a1 σ (((σ a0 1) - (1 : Int32)))
set_option maxHeartbeats 4000000 in
set_option maxRecDepth 100000 in
theorem c_X5_giveBack (E : EX) {n : Nat} {σ : Sto} {ρ : Rho} (a0 : Nat) (h0 : Sh n a0 4) (a1 : Nat) (h1 : Sh n a1 7) (res : Int32 × Sto) (hM : MX5_giveBack σ ρ a0 a1 = some res) : CTi E yX5_giveBack cX5_giveBack 3 (some .boolean) 2 [.ref (eb E + a0), .ref (eb E + a1)] n σ ρ res.1 res.2 ρ := by
  refine ct_i (by decide +kernel) rfl (Nat.le_of_ble_eq_true rfl) (fun X hE hml hC hR => ?_)
  subst hE
  show G X 0 0 n σ ρ 0 [(0, vr X a0), (1, vr X a1)] []
  replace hC : Cx X cX5_giveBack RX5 2 := hC
  unfold MX5_giveBack at hM
  refine g_aload_n hC dX5_giveBack_0 rfl 0 rfl ?_
  refine fg_4_1 hC h0 k_206 dX5_giveBack_1 rfl ?_
  refine g_if_le (tgt := 16) hC dX5_giveBack_4 rfl (by decide) hM (fun hM => ?_) (fun hM => ?_)
  · refine g_bipush (v := 7) hC dX5_giveBack_16 rfl ib_7 ?_
    exact g_sub [0, 1] ((bX5_giveBack_18 hC hml hR a0 a1 h0 h1 ) _ _ hM) rfl
  · refine g_aload_n hC dX5_giveBack_7 rfl 0 rfl ?_
    refine fg_4_1 hC h0 k_206 dX5_giveBack_8 rfl ?_
    refine g_iconst (v := 1) hC dX5_giveBack_11 rfl ic_1 ?_
    refine g_isub hC dX5_giveBack_12 rfl ?_
    refine g_goto (tgt := 18) hC dX5_giveBack_13 rfl (by decide) ?_
    exact g_sub [0, 1] ((bX5_giveBack_18 hC hml hR a0 a1 h0 h1 ) _ _ hM) rfl
def MX5_forget (σ : Sto) (a0 : Nat) : Option (Sto) :=
  bn (su σ a0 2 ((0 : Int32))) fun σ1 =>
  some σ1
set_option maxHeartbeats 4000000 in
set_option maxRecDepth 100000 in
theorem c_X5_forget (E : EX) {n : Nat} {ρ : Rho} {σ : Sto} (a0 : Nat) (h0 : Sh n a0 4) (res : Sto) (hM : MX5_forget σ a0 = some res) : CTv E yX5_forget cX5_forget 1 0 0 0 [.ref (eb E + a0)] n σ ρ res ρ := by
  refine ct_v (by decide +kernel) (Nat.le_of_ble_eq_true rfl) (fun X hE hml hin hRm hC hR => ?_)
  subst hE
  show G X 0 0 n σ ρ 0 [(0, vr X a0)] []
  replace hC : Cx X cX5_forget RX5 0 := hC
  unfold MX5_forget at hM
  refine g_aload_n hC dX5_forget_0 rfl 0 rfl ?_
  refine g_iconst (v := 0) hC dX5_forget_1 rfl ic_0 ?_
  refine fp_4_2 hC h0 k_207 dX5_forget_2 rfl hM (fun σ1 hM => ?_)
  cases hM
  exact g_retv hR dX5_forget_5 rfl
def MX6_take (σ : Sto) (ρ : Rho) (a0 : Nat) (a1 : Nat) (a2 : Int32) (a3 : Int32) : Option (Int32 × Sto) :=
  Option.bind (ρ a0 0) fun j1 =>
  Option.bind (MX0_take σ ρ j1 a1 a2) fun c2 =>
  Option.bind (ρ a0 1) fun j3 =>
  Option.bind (MX0_take c2 ρ j3 a1 a3) fun c4 =>
  Option.bind (ρ a0 0) fun j5 =>
  Option.bind (ρ j5 0) fun j6 =>
  Option.bind (MX3_isZero c4 j6) fun c7 =>
  if c7 = 0 then
    Option.bind (ρ a0 1) fun j8 =>
    Option.bind (ρ j8 0) fun j9 =>
    Option.bind (MX3_isZero c4 j9) fun c10 =>
    if c10 = 0 then
      Option.bind (ρ a0 0) fun j11 =>
      Option.bind (ρ a0 1) fun j12 =>
      Option.bind (MX0_isUnlike c4 ρ j11 j12) fun c13 =>
      if c13 = 0 then
        zr ((0 : Int32)) (some ((0 : Int32), c4))
      else
        zr ((1 : Int32)) (some ((1 : Int32), c4))
    else
      zr ((0 : Int32)) (some ((0 : Int32), c4))
  else
    zr ((0 : Int32)) (some ((0 : Int32), c4))
set_option maxHeartbeats 4000000 in
set_option maxRecDepth 100000 in
theorem c_X6_take (E : EX) {n : Nat} {σ : Sto} {ρ : Rho} (a0 : Nat) (h0 : Sh n a0 5) (a1 : Nat) (h1 : Sh n a1 7) (a2 : Int32) (a3 : Int32) (res : Int32 × Sto) (hM : MX6_take σ ρ a0 a1 a2 a3 = some res) : CTi E yX6_take cX6_take 4 (some .boolean) 4 [.ref (eb E + a0), .ref (eb E + a1), .int a2, .int a3] n σ ρ res.1 res.2 ρ := by
  refine ct_i (by decide +kernel) rfl (Nat.le_of_ble_eq_true rfl) (fun X hE hml hC hR => ?_)
  subst hE
  show G X 0 0 n σ ρ 0 [(0, vr X a0), (1, vr X a1), (2, .int a2), (3, .int a3)] []
  replace hC : Cx X cX6_take RX6 4 := hC
  unfold MX6_take at hM
  refine g_aload_n hC dX6_take_0 rfl 0 rfl ?_
  refine fg_5_0 hC h0 k_335 dX6_take_1 rfl hM (fun j1 hj1 hM => ?_)
  refine g_aload_n hC dX6_take_4 rfl 1 rfl ?_
  refine g_iload_n hC dX6_take_5 rfl 2 rfl ?_
  refine g_callVv0 (As := [vr X a1, .int a2]) (st' := []) (k := j1) (L' := 3) hC Y_X0_take I_X0_take k_977 ⟨by decide, by decide⟩ hj1 (ci := 0) (by decide) rfl dX6_take_6 rfl rfl rfl (Nat.le_of_ble_eq_true rfl) ⟨Nat.zero_le _, Nat.zero_le _⟩ hM (fun c hc => c_X0_take (xE X) j1 hj1 a1 h1 a2 c hc) (fun c2 hM => ?_)
  refine g_aload_n hC dX6_take_9 rfl 0 rfl ?_
  refine fg_5_1 hC h0 k_336 dX6_take_10 rfl hM (fun j3 hj3 hM => ?_)
  refine g_aload_n hC dX6_take_13 rfl 1 rfl ?_
  refine g_iload_n hC dX6_take_14 rfl 3 rfl ?_
  refine g_callVv0 (As := [vr X a1, .int a3]) (st' := []) (k := j3) (L' := 3) hC Y_X0_take I_X0_take k_977 ⟨by decide, by decide⟩ hj3 (ci := 0) (by decide) rfl dX6_take_15 rfl rfl rfl (Nat.le_of_ble_eq_true rfl) ⟨Nat.zero_le _, Nat.zero_le _⟩ hM (fun c hc => c_X0_take (xE X) j3 hj3 a1 h1 a3 c hc) (fun c4 hM => ?_)
  refine g_aload_n hC dX6_take_18 rfl 0 rfl ?_
  refine fg_5_0 hC h0 k_335 dX6_take_19 rfl hM (fun j5 hj5 hM => ?_)
  refine fg_0_0 hC hj5 k_322 dX6_take_22 rfl hM (fun j6 hj6 hM => ?_)
  refine g_callVi (As := []) (st' := []) (k := j6) (L' := 0) hC Y_X3_isZero I_X3_isZero k_978 ⟨by decide, by decide⟩ hj6 (ci := 2) (by decide) rfl dX6_take_25 rfl rfl rfl (Nat.le_of_ble_eq_true rfl) ⟨Nat.zero_le _, Nat.zero_le _⟩ hM (fun c hc => c_X3_isZero (xE X) j6 hj6 c hc) (fun c7 hM => ?_)
  refine g_if_ne (tgt := 62) hC dX6_take_28 rfl (by decide) hM (fun hM => ?_) (fun hM => ?_)
  · refine g_iconst (v := 0) hC dX6_take_62 rfl ic_0 ?_
    exact g_retz hM dX6_take_63 rfl (fun h => by cases h; exact hR)
  · refine g_aload_n hC dX6_take_31 rfl 0 rfl ?_
    refine fg_5_1 hC h0 k_336 dX6_take_32 rfl hM (fun j8 hj8 hM => ?_)
    refine fg_0_0 hC hj8 k_322 dX6_take_35 rfl hM (fun j9 hj9 hM => ?_)
    refine g_callVi (As := []) (st' := []) (k := j9) (L' := 0) hC Y_X3_isZero I_X3_isZero k_978 ⟨by decide, by decide⟩ hj9 (ci := 2) (by decide) rfl dX6_take_38 rfl rfl rfl (Nat.le_of_ble_eq_true rfl) ⟨Nat.zero_le _, Nat.zero_le _⟩ hM (fun c hc => c_X3_isZero (xE X) j9 hj9 c hc) (fun c10 hM => ?_)
    refine g_if_ne (tgt := 62) hC dX6_take_41 rfl (by decide) hM (fun hM => ?_) (fun hM => ?_)
    · refine g_iconst (v := 0) hC dX6_take_62 rfl ic_0 ?_
      exact g_retz hM dX6_take_63 rfl (fun h => by cases h; exact hR)
    · refine g_aload_n hC dX6_take_44 rfl 0 rfl ?_
      refine fg_5_0 hC h0 k_335 dX6_take_45 rfl hM (fun j11 hj11 hM => ?_)
      refine g_aload_n hC dX6_take_48 rfl 0 rfl ?_
      refine fg_5_1 hC h0 k_336 dX6_take_49 rfl hM (fun j12 hj12 hM => ?_)
      refine g_callVi (As := [vr X j12]) (st' := []) (k := j11) (L' := 2) hC Y_X0_isUnlike I_X0_isUnlike k_979 ⟨by decide, by decide⟩ hj11 (ci := 0) (by decide) rfl dX6_take_52 rfl rfl rfl (Nat.le_of_ble_eq_true rfl) ⟨Nat.zero_le _, Nat.zero_le _⟩ hM (fun c hc => c_X0_isUnlike (xE X) j11 hj11 j12 hj12 c hc) (fun c13 hM => ?_)
      refine g_if_eq (tgt := 62) hC dX6_take_55 rfl (by decide) hM (fun hM => ?_) (fun hM => ?_)
      · refine g_iconst (v := 0) hC dX6_take_62 rfl ic_0 ?_
        exact g_retz hM dX6_take_63 rfl (fun h => by cases h; exact hR)
      · refine g_iconst (v := 1) hC dX6_take_58 rfl ic_1 ?_
        refine g_goto (tgt := 63) hC dX6_take_59 rfl (by decide) ?_
        exact g_retz hM dX6_take_63 rfl (fun h => by cases h; exact hR)
def MX6_takeMember (σ : Sto) (ρ : Rho) (a0 : Nat) (a1 : Int32) : Option (Int32 × Sto) :=
  if a1 < 0 then
    zr ((0 : Int32)) (some ((0 : Int32), σ))
  else
    Option.bind (ρ a0 0) fun j1 =>
    if a1 ≤ (σ j1 1) then
      Option.bind (ρ a0 0) fun j2 =>
      if (σ j2 1) ≤ a1 then
        Option.bind (ρ a0 2) fun j3 =>
        Option.bind (ρ a0 0) fun j4 =>
        bn (su σ j3 1 ((σ j4 1))) fun σ5 =>
        Option.bind (ρ a0 2) fun j6 =>
        Option.bind (ρ j6 0) fun j7 =>
        Option.bind (ρ a0 0) fun j8 =>
        Option.bind (ρ j8 0) fun j9 =>
        Option.bind (MX3_copy σ5 j7 j9) fun c10 =>
        zr ((1 : Int32)) (some ((1 : Int32), c10))
      else
        Option.bind (ρ a0 2) fun j11 =>
        Option.bind (ρ a0 0) fun j12 =>
        Option.bind (ρ a0 1) fun j13 =>
        Option.bind (MX0_mix σ ρ j11 j12 a1 j13) fun c14 =>
        zr ((1 : Int32)) (some ((1 : Int32), c14))
    else
      zr ((0 : Int32)) (some ((0 : Int32), σ))
set_option maxHeartbeats 4000000 in
set_option maxRecDepth 100000 in
theorem c_X6_takeMember (E : EX) {n : Nat} {σ : Sto} {ρ : Rho} (a0 : Nat) (h0 : Sh n a0 5) (a1 : Int32) (res : Int32 × Sto) (hM : MX6_takeMember σ ρ a0 a1 = some res) : CTi E yX6_takeMember cX6_takeMember 2 (some .boolean) 4 [.ref (eb E + a0), .int a1] n σ ρ res.1 res.2 ρ := by
  refine ct_i (by decide +kernel) rfl (Nat.le_of_ble_eq_true rfl) (fun X hE hml hC hR => ?_)
  subst hE
  show G X 0 0 n σ ρ 0 [(0, vr X a0), (1, .int a1)] []
  replace hC : Cx X cX6_takeMember RX6 4 := hC
  unfold MX6_takeMember at hM
  refine g_iload_n hC dX6_takeMember_0 rfl 1 rfl ?_
  refine g_if_lt (tgt := 15) hC dX6_takeMember_1 rfl (by decide) hM (fun hM => ?_) (fun hM => ?_)
  · refine g_iconst (v := 0) hC dX6_takeMember_15 rfl ic_0 ?_
    exact g_retz hM dX6_takeMember_16 rfl (fun h => by cases h; exact hR)
  · refine g_iload_n hC dX6_takeMember_4 rfl 1 rfl ?_
    refine g_aload_n hC dX6_takeMember_5 rfl 0 rfl ?_
    refine fg_5_0 hC h0 k_335 dX6_takeMember_6 rfl hM (fun j1 hj1 hM => ?_)
    refine fg_0_1 hC hj1 k_327 dX6_takeMember_9 rfl ?_
    refine g_icmp_le (tgt := 17) hC dX6_takeMember_12 rfl (by decide) hM (fun hM => ?_) (fun hM => ?_)
    · refine g_iload_n hC dX6_takeMember_17 rfl 1 rfl ?_
      refine g_aload_n hC dX6_takeMember_18 rfl 0 rfl ?_
      refine fg_5_0 hC h0 k_335 dX6_takeMember_19 rfl hM (fun j2 hj2 hM => ?_)
      refine fg_0_1 hC hj2 k_327 dX6_takeMember_22 rfl ?_
      refine g_icmp_ge (tgt := 47) hC dX6_takeMember_25 rfl (by decide) hM (fun hM => ?_) (fun hM => ?_)
      · refine g_aload_n hC dX6_takeMember_47 rfl 0 rfl ?_
        refine fg_5_2 hC h0 k_337 dX6_takeMember_48 rfl hM (fun j3 hj3 hM => ?_)
        refine g_aload_n hC dX6_takeMember_51 rfl 0 rfl ?_
        refine fg_5_0 hC h0 k_335 dX6_takeMember_52 rfl hM (fun j4 hj4 hM => ?_)
        refine fg_0_1 hC hj4 k_327 dX6_takeMember_55 rfl ?_
        refine fp_0_1 hC hj3 k_327 dX6_takeMember_58 rfl hM (fun σ5 hM => ?_)
        refine g_aload_n hC dX6_takeMember_61 rfl 0 rfl ?_
        refine fg_5_2 hC h0 k_337 dX6_takeMember_62 rfl hM (fun j6 hj6 hM => ?_)
        refine fg_0_0 hC hj6 k_322 dX6_takeMember_65 rfl hM (fun j7 hj7 hM => ?_)
        refine g_aload_n hC dX6_takeMember_68 rfl 0 rfl ?_
        refine fg_5_0 hC h0 k_335 dX6_takeMember_69 rfl hM (fun j8 hj8 hM => ?_)
        refine fg_0_0 hC hj8 k_322 dX6_takeMember_72 rfl hM (fun j9 hj9 hM => ?_)
        refine g_callVv0 (As := [vr X j9]) (st' := []) (k := j7) (L' := 1) hC Y_X3_copy I_X3_copy k_994 ⟨by decide, by decide⟩ hj7 (ci := 2) (by decide) rfl dX6_takeMember_75 rfl rfl rfl (Nat.le_of_ble_eq_true rfl) ⟨Nat.zero_le _, Nat.zero_le _⟩ hM (fun c hc => c_X3_copy (xE X) j7 hj7 j9 hj9 c hc) (fun c10 hM => ?_)
        refine g_iconst (v := 1) hC dX6_takeMember_78 rfl ic_1 ?_
        exact g_retz hM dX6_takeMember_79 rfl (fun h => by cases h; exact hR)
      · refine g_aload_n hC dX6_takeMember_28 rfl 0 rfl ?_
        refine fg_5_2 hC h0 k_337 dX6_takeMember_29 rfl hM (fun j11 hj11 hM => ?_)
        refine g_aload_n hC dX6_takeMember_32 rfl 0 rfl ?_
        refine fg_5_0 hC h0 k_335 dX6_takeMember_33 rfl hM (fun j12 hj12 hM => ?_)
        refine g_iload_n hC dX6_takeMember_36 rfl 1 rfl ?_
        refine g_aload_n hC dX6_takeMember_37 rfl 0 rfl ?_
        refine fg_5_1 hC h0 k_336 dX6_takeMember_38 rfl hM (fun j13 hj13 hM => ?_)
        refine g_callVv0 (As := [vr X j12, .int a1, vr X j13]) (st' := []) (k := j11) (L' := 3) hC Y_X0_mix I_X0_mix k_988 ⟨by decide, by decide⟩ hj11 (ci := 0) (by decide) rfl dX6_takeMember_41 rfl rfl rfl (Nat.le_of_ble_eq_true rfl) ⟨Nat.zero_le _, Nat.zero_le _⟩ hM (fun c hc => c_X0_mix (xE X) j11 hj11 j12 hj12 a1 j13 hj13 c hc) (fun c14 hM => ?_)
        refine g_goto (tgt := 78) hC dX6_takeMember_44 rfl (by decide) ?_
        refine g_iconst (v := 1) hC dX6_takeMember_78 rfl ic_1 ?_
        exact g_retz hM dX6_takeMember_79 rfl (fun h => by cases h; exact hR)
    · refine g_iconst (v := 0) hC dX6_takeMember_15 rfl ic_0 ?_
      exact g_retz hM dX6_takeMember_16 rfl (fun h => by cases h; exact hR)
