def MX11_feed (σ : Sto) (ρ : Rho) (a0 : Nat) (a1 : Int32) (a2 : Int32) (a3 : Int32) (a4 : Int32) (a5 : Int32) : Option (Int32 × Sto) :=
  Option.bind (ρ a0 0) fun j1 =>
  Option.bind (ρ j1 1) fun j2 =>
  if (σ j2 1) ≤ (480 : Int32) then
    Option.bind (ρ a0 0) fun j3 =>
    Option.bind (ρ j3 1) fun j4 =>
    Option.bind (MX9_addFour σ ρ j4 a1) fun c5 =>
    Option.bind (ρ a0 0) fun j6 =>
    Option.bind (ρ j6 1) fun j7 =>
    Option.bind (MX9_addFour c5 ρ j7 a2) fun c8 =>
    Option.bind (ρ a0 0) fun j9 =>
    Option.bind (ρ j9 1) fun j10 =>
    Option.bind (MX9_addFour c8 ρ j10 a3) fun c11 =>
    Option.bind (ρ a0 0) fun j12 =>
    Option.bind (ρ j12 1) fun j13 =>
    Option.bind (MX9_addFour c11 ρ j13 a4) fun c14 =>
    Option.bind (ρ a0 0) fun j15 =>
    Option.bind (ρ j15 1) fun j16 =>
    Option.bind (MX9_addFour c14 ρ j16 a5) fun c17 =>
    Option.bind (ρ a0 0) fun j18 =>
    Option.bind (ρ j18 1) fun j19 =>
    some ((c17 j19 1), c17)
  else
    some ((-1 : Int32), σ)
set_option maxHeartbeats 4000000 in
set_option maxRecDepth 100000 in
theorem c_X11_feed (E : EX) {n : Nat} {σ : Sto} {ρ : Rho} (a0 : Nat) (h0 : Sh n a0 10) (a1 : Int32) (a2 : Int32) (a3 : Int32) (a4 : Int32) (a5 : Int32) (res : Int32 × Sto) (hM : MX11_feed σ ρ a0 a1 a2 a3 a4 a5 = some res) : CTi E yX11_feed cX11_feed 6 (some .int) 1 [.ref (eb E + a0), .int a1, .int a2, .int a3, .int a4, .int a5] n σ ρ res.1 res.2 ρ := by
  refine ct_i (by decide +kernel) rfl (Nat.le_of_ble_eq_true rfl) (fun X hE hml hC hR => ?_)
  subst hE
  show G X 0 0 n σ ρ 0 [(0, vr X a0), (1, .int a1), (2, .int a2), (3, .int a3), (4, .int a4), (5, .int a5)] []
  replace hC : Cx X cX11_feed RX11 1 := hC
  unfold MX11_feed at hM
  refine g_aload_n hC dX11_feed_0 rfl 0 rfl ?_
  refine fg_10_0 hC h0 k_380 dX11_feed_1 rfl hM (fun j1 hj1 hM => ?_)
  refine fg_3_1 hC hj1 k_174 dX11_feed_4 rfl hM (fun j2 hj2 hM => ?_)
  refine fg_8_1 hC hj2 k_164 dX11_feed_7 rfl ?_
  refine g_sipush (v := 480) hC dX11_feed_10 rfl is_480 ?_
  refine g_icmp_le (tgt := 18) hC dX11_feed_13 rfl (by decide) hM (fun hM => ?_) (fun hM => ?_)
  · refine g_aload_n hC dX11_feed_18 rfl 0 rfl ?_
    refine fg_10_0 hC h0 k_380 dX11_feed_19 rfl hM (fun j3 hj3 hM => ?_)
    refine fg_3_1 hC hj3 k_174 dX11_feed_22 rfl hM (fun j4 hj4 hM => ?_)
    refine g_iload_n hC dX11_feed_25 rfl 1 rfl ?_
    refine g_callVv0 (As := [.int a1]) (st' := []) (k := j4) (L' := 0) hC Y_X9_addFour I_X9_addFour k_427 ⟨by decide, by decide⟩ hj4 (ci := 8) (by decide) rfl dX11_feed_26 rfl rfl rfl (Nat.le_of_ble_eq_true rfl) ⟨Nat.zero_le _, Nat.zero_le _⟩ hM (fun c hc => c_X9_addFour (xE X) j4 hj4 a1 c hc) (fun c5 hM => ?_)
    refine g_aload_n hC dX11_feed_29 rfl 0 rfl ?_
    refine fg_10_0 hC h0 k_380 dX11_feed_30 rfl hM (fun j6 hj6 hM => ?_)
    refine fg_3_1 hC hj6 k_174 dX11_feed_33 rfl hM (fun j7 hj7 hM => ?_)
    refine g_iload_n hC dX11_feed_36 rfl 2 rfl ?_
    refine g_callVv0 (As := [.int a2]) (st' := []) (k := j7) (L' := 0) hC Y_X9_addFour I_X9_addFour k_427 ⟨by decide, by decide⟩ hj7 (ci := 8) (by decide) rfl dX11_feed_37 rfl rfl rfl (Nat.le_of_ble_eq_true rfl) ⟨Nat.zero_le _, Nat.zero_le _⟩ hM (fun c hc => c_X9_addFour (xE X) j7 hj7 a2 c hc) (fun c8 hM => ?_)
    refine g_aload_n hC dX11_feed_40 rfl 0 rfl ?_
    refine fg_10_0 hC h0 k_380 dX11_feed_41 rfl hM (fun j9 hj9 hM => ?_)
    refine fg_3_1 hC hj9 k_174 dX11_feed_44 rfl hM (fun j10 hj10 hM => ?_)
    refine g_iload_n hC dX11_feed_47 rfl 3 rfl ?_
    refine g_callVv0 (As := [.int a3]) (st' := []) (k := j10) (L' := 0) hC Y_X9_addFour I_X9_addFour k_427 ⟨by decide, by decide⟩ hj10 (ci := 8) (by decide) rfl dX11_feed_48 rfl rfl rfl (Nat.le_of_ble_eq_true rfl) ⟨Nat.zero_le _, Nat.zero_le _⟩ hM (fun c hc => c_X9_addFour (xE X) j10 hj10 a3 c hc) (fun c11 hM => ?_)
    refine g_aload_n hC dX11_feed_51 rfl 0 rfl ?_
    refine fg_10_0 hC h0 k_380 dX11_feed_52 rfl hM (fun j12 hj12 hM => ?_)
    refine fg_3_1 hC hj12 k_174 dX11_feed_55 rfl hM (fun j13 hj13 hM => ?_)
    refine g_iload hC dX11_feed_58 rfl 4 rfl ?_
    refine g_callVv0 (As := [.int a4]) (st' := []) (k := j13) (L' := 0) hC Y_X9_addFour I_X9_addFour k_427 ⟨by decide, by decide⟩ hj13 (ci := 8) (by decide) rfl dX11_feed_60 rfl rfl rfl (Nat.le_of_ble_eq_true rfl) ⟨Nat.zero_le _, Nat.zero_le _⟩ hM (fun c hc => c_X9_addFour (xE X) j13 hj13 a4 c hc) (fun c14 hM => ?_)
    refine g_aload_n hC dX11_feed_63 rfl 0 rfl ?_
    refine fg_10_0 hC h0 k_380 dX11_feed_64 rfl hM (fun j15 hj15 hM => ?_)
    refine fg_3_1 hC hj15 k_174 dX11_feed_67 rfl hM (fun j16 hj16 hM => ?_)
    refine g_iload hC dX11_feed_70 rfl 5 rfl ?_
    refine g_callVv0 (As := [.int a5]) (st' := []) (k := j16) (L' := 0) hC Y_X9_addFour I_X9_addFour k_427 ⟨by decide, by decide⟩ hj16 (ci := 8) (by decide) rfl dX11_feed_72 rfl rfl rfl (Nat.le_of_ble_eq_true rfl) ⟨Nat.zero_le _, Nat.zero_le _⟩ hM (fun c hc => c_X9_addFour (xE X) j16 hj16 a5 c hc) (fun c17 hM => ?_)
    refine g_aload_n hC dX11_feed_75 rfl 0 rfl ?_
    refine fg_10_0 hC h0 k_380 dX11_feed_76 rfl hM (fun j18 hj18 hM => ?_)
    refine fg_3_1 hC hj18 k_174 dX11_feed_79 rfl hM (fun j19 hj19 hM => ?_)
    refine fg_8_1 hC hj19 k_164 dX11_feed_82 rfl ?_
    cases hM
    exact g_reti hR dX11_feed_85 rfl
  · refine g_iconst (v := -1) hC dX11_feed_16 rfl ic_m1 ?_
    obtain rfl := Option.some.inj hM
    exact g_reti hR dX11_feed_17 rfl
def MX11_end (σ : Sto) (ρ : Rho) (a0 : Nat) (a1 : Int32) : Option (Int32 × Sto) :=
  if a1 < 0 then
    some ((-1 : Int32), σ)
  else
    Option.bind (ρ a0 0) fun j1 =>
    Option.bind (ρ j1 1) fun j2 =>
    if a1 ≤ (σ j2 1) then
      Option.bind (ρ a0 0) fun j3 =>
      Option.bind (ρ j3 1) fun j4 =>
      bn (su σ j4 1 a1) fun σ5 =>
      some (a1, σ5)
    else
      some ((-1 : Int32), σ)
set_option maxHeartbeats 4000000 in
set_option maxRecDepth 100000 in
theorem c_X11_end (E : EX) {n : Nat} {σ : Sto} {ρ : Rho} (a0 : Nat) (h0 : Sh n a0 10) (a1 : Int32) (res : Int32 × Sto) (hM : MX11_end σ ρ a0 a1 = some res) : CTi E yX11_end cX11_end 2 (some .int) 0 [.ref (eb E + a0), .int a1] n σ ρ res.1 res.2 ρ := by
  refine ct_i (by decide +kernel) rfl (Nat.le_of_ble_eq_true rfl) (fun X hE hml hC hR => ?_)
  subst hE
  show G X 0 0 n σ ρ 0 [(0, vr X a0), (1, .int a1)] []
  replace hC : Cx X cX11_end RX11 0 := hC
  unfold MX11_end at hM
  refine g_iload_n hC dX11_end_0 rfl 1 rfl ?_
  refine g_if_lt (tgt := 18) hC dX11_end_1 rfl (by decide) hM (fun hM => ?_) (fun hM => ?_)
  · refine g_iconst (v := -1) hC dX11_end_18 rfl ic_m1 ?_
    obtain rfl := Option.some.inj hM
    exact g_reti hR dX11_end_19 rfl
  · refine g_iload_n hC dX11_end_4 rfl 1 rfl ?_
    refine g_aload_n hC dX11_end_5 rfl 0 rfl ?_
    refine fg_10_0 hC h0 k_380 dX11_end_6 rfl hM (fun j1 hj1 hM => ?_)
    refine fg_3_1 hC hj1 k_174 dX11_end_9 rfl hM (fun j2 hj2 hM => ?_)
    refine fg_8_1 hC hj2 k_164 dX11_end_12 rfl ?_
    refine g_icmp_le (tgt := 20) hC dX11_end_15 rfl (by decide) hM (fun hM => ?_) (fun hM => ?_)
    · refine g_aload_n hC dX11_end_20 rfl 0 rfl ?_
      refine fg_10_0 hC h0 k_380 dX11_end_21 rfl hM (fun j3 hj3 hM => ?_)
      refine fg_3_1 hC hj3 k_174 dX11_end_24 rfl hM (fun j4 hj4 hM => ?_)
      refine g_iload_n hC dX11_end_27 rfl 1 rfl ?_
      refine fp_8_1 hC hj4 k_164 dX11_end_28 rfl hM (fun σ5 hM => ?_)
      refine g_iload_n hC dX11_end_31 rfl 1 rfl ?_
      cases hM
      exact g_reti hR dX11_end_32 rfl
    · refine g_iconst (v := -1) hC dX11_end_18 rfl ic_m1 ?_
      obtain rfl := Option.some.inj hM
      exact g_reti hR dX11_end_19 rfl
def MX11_text (σ : Sto) (ρ : Rho) (a0 : Nat) : Option (Int32 × Sto) :=
  Option.bind (ρ a0 4) fun j1 =>
  Option.bind (ρ a0 0) fun j2 =>
  Option.bind (ρ j2 1) fun j3 =>
  Option.bind (MX7_read σ ρ j1 j3) fun c4 =>
  bn c4.1 fun y5 =>
  Option.bind (ρ a0 0) fun j6 =>
  Option.bind (ρ j6 1) fun j7 =>
  bn (su c4.2 j7 1 ((0 : Int32))) fun σ8 =>
  Option.bind (ρ a0 0) fun j9 =>
  Option.bind (ρ a0 4) fun j10 =>
  bn (su σ8 j9 2 ((σ8 j10 1))) fun σ11 =>
  Option.bind (ρ a0 0) fun j12 =>
  Option.bind (ρ a0 4) fun j13 =>
  bn (su σ11 j12 3 ((σ11 j13 2))) fun σ14 =>
  if y5 = (-1 : Int32) then
    some (y5, σ14)
  else
    Option.bind (ρ a0 0) fun j15 =>
    Option.bind (ρ j15 0) fun j16 =>
    Option.bind (ρ a0 4) fun j17 =>
    Option.bind (ρ j17 0) fun j18 =>
    Option.bind (MX8_copy σ14 ρ j16 j18) fun c19 =>
    Option.bind (ρ a0 1) fun j20 =>
    Option.bind (MX5_forget c19 j20) fun c21 =>
    some (y5, c21)
set_option maxHeartbeats 4000000 in
set_option maxRecDepth 100000 in
theorem c_X11_text (E : EX) {n : Nat} {σ : Sto} {ρ : Rho} (a0 : Nat) (h0 : Sh n a0 10) (res : Int32 × Sto) (hM : MX11_text σ ρ a0 = some res) : CTi E yX11_text cX11_text 2 (some .int) 8 [.ref (eb E + a0)] n σ ρ res.1 res.2 ρ := by
  refine ct_i (by decide +kernel) rfl (Nat.le_of_ble_eq_true rfl) (fun X hE hml hC hR => ?_)
  subst hE
  show G X 0 0 n σ ρ 0 [(0, vr X a0)] []
  replace hC : Cx X cX11_text RX11 8 := hC
  unfold MX11_text at hM
  refine g_aload_n hC dX11_text_0 rfl 0 rfl ?_
  refine fg_10_4 hC h0 k_384 dX11_text_1 rfl hM (fun j1 hj1 hM => ?_)
  refine g_aload_n hC dX11_text_4 rfl 0 rfl ?_
  refine fg_10_0 hC h0 k_380 dX11_text_5 rfl hM (fun j2 hj2 hM => ?_)
  refine fg_3_1 hC hj2 k_174 dX11_text_8 rfl hM (fun j3 hj3 hM => ?_)
  refine g_callVi (As := [vr X j3]) (st' := []) (k := j1) (L' := 7) hC Y_X7_read I_X7_read k_439 ⟨by decide, by decide⟩ hj1 (ci := 6) (by decide) rfl dX11_text_11 rfl rfl rfl (Nat.le_of_ble_eq_true rfl) ⟨Nat.zero_le _, Nat.zero_le _⟩ hM (fun c hc => c_X7_read (xE X) j1 hj1 j3 hj3 c hc) (fun c4 hM => ?_)
  refine g_istore_n hC (fun y5 => [(1, .int y5), (0, vr X a0)]) dX11_text_14 rfl hM hml (by decide) (fun _ => rfl) (fun y5 hM => ?_)
  refine g_aload_n hC dX11_text_15 rfl 1 rfl ?_
  refine fg_10_0 hC h0 k_380 dX11_text_16 rfl hM (fun j6 hj6 hM => ?_)
  refine fg_3_1 hC hj6 k_174 dX11_text_19 rfl hM (fun j7 hj7 hM => ?_)
  refine g_iconst (v := 0) hC dX11_text_22 rfl ic_0 ?_
  refine fp_8_1 hC hj7 k_164 dX11_text_23 rfl hM (fun σ8 hM => ?_)
  refine g_aload_n hC dX11_text_26 rfl 1 rfl ?_
  refine fg_10_0 hC h0 k_380 dX11_text_27 rfl hM (fun j9 hj9 hM => ?_)
  refine g_aload_n hC dX11_text_30 rfl 1 rfl ?_
  refine fg_10_4 hC h0 k_384 dX11_text_31 rfl hM (fun j10 hj10 hM => ?_)
  refine fg_6_1 hC hj10 k_279 dX11_text_34 rfl ?_
  refine fp_3_2 hC hj9 k_176 dX11_text_37 rfl hM (fun σ11 hM => ?_)
  refine g_aload_n hC dX11_text_40 rfl 1 rfl ?_
  refine fg_10_0 hC h0 k_380 dX11_text_41 rfl hM (fun j12 hj12 hM => ?_)
  refine g_aload_n hC dX11_text_44 rfl 1 rfl ?_
  refine fg_10_4 hC h0 k_384 dX11_text_45 rfl hM (fun j13 hj13 hM => ?_)
  refine fg_6_2 hC hj13 k_281 dX11_text_48 rfl ?_
  refine fp_3_3 hC hj12 k_178 dX11_text_51 rfl hM (fun σ14 hM => ?_)
  refine g_iload_n hC dX11_text_54 rfl 0 rfl ?_
  refine g_iconst (v := -1) hC dX11_text_55 rfl ic_m1 ?_
  refine g_icmp_eq (tgt := 83) hC dX11_text_56 rfl (by decide) hM (fun hM => ?_) (fun hM => ?_)
  · refine g_iload_n hC dX11_text_83 rfl 0 rfl ?_
    cases hM
    exact g_reti hR dX11_text_84 rfl
  · refine g_aload_n hC dX11_text_59 rfl 1 rfl ?_
    refine fg_10_0 hC h0 k_380 dX11_text_60 rfl hM (fun j15 hj15 hM => ?_)
    refine fg_3_0 hC hj15 k_172 dX11_text_63 rfl hM (fun j16 hj16 hM => ?_)
    refine g_aload_n hC dX11_text_66 rfl 1 rfl ?_
    refine fg_10_4 hC h0 k_384 dX11_text_67 rfl hM (fun j17 hj17 hM => ?_)
    refine fg_6_0 hC hj17 k_277 dX11_text_70 rfl hM (fun j18 hj18 hM => ?_)
    refine g_callVv0 (As := [vr X j18]) (st' := []) (k := j16) (L' := 1) hC Y_X8_copy I_X8_copy k_617 ⟨by decide, by decide⟩ hj16 (ci := 7) (by decide) rfl dX11_text_73 rfl rfl rfl (Nat.le_of_ble_eq_true rfl) ⟨Nat.zero_le _, Nat.zero_le _⟩ hM (fun c hc => c_X8_copy (xE X) j16 hj16 j18 hj18 c hc) (fun c19 hM => ?_)
    refine g_aload_n hC dX11_text_76 rfl 1 rfl ?_
    refine fg_10_1 hC h0 k_381 dX11_text_77 rfl hM (fun j20 hj20 hM => ?_)
    refine g_callVv0 (As := []) (st' := []) (k := j20) (L' := 0) hC Y_X5_forget I_X5_forget k_624 ⟨by decide, by decide⟩ hj20 (ci := 4) (by decide) rfl dX11_text_80 rfl rfl rfl (Nat.le_of_ble_eq_true rfl) ⟨Nat.zero_le _, Nat.zero_le _⟩ hM (fun c hc => c_X5_forget (xE X) j20 hj20 c hc) (fun c21 hM => ?_)
    refine g_iload_n hC dX11_text_83 rfl 0 rfl ?_
    cases hM
    exact g_reti hR dX11_text_84 rfl
def MX11_fault (σ : Sto) (ρ : Rho) (a0 : Nat) (a1 : Int32) : Option (Int32) :=
  if a1 = 0 then
    Option.bind (ρ a0 0) fun j2 =>
    some (σ j2 2)
  else
    if a1 = (1 : Int32) then
      Option.bind (ρ a0 0) fun j1 =>
      some (σ j1 3)
    else
      some (-1 : Int32)
set_option maxHeartbeats 4000000 in
set_option maxRecDepth 100000 in
theorem c_X11_fault (E : EX) {n : Nat} {σ : Sto} {ρ : Rho} (a0 : Nat) (h0 : Sh n a0 10) (a1 : Int32) (res : Int32) (hM : MX11_fault σ ρ a0 a1 = some res) : CTi E yX11_fault cX11_fault 2 (some .int) 0 [.ref (eb E + a0), .int a1] n σ ρ res σ ρ := by
  refine ct_i (by decide +kernel) rfl (Nat.le_of_ble_eq_true rfl) (fun X hE hml hC hR => ?_)
  subst hE
  show G X 0 0 n σ ρ 0 [(0, vr X a0), (1, .int a1)] []
  replace hC : Cx X cX11_fault RX11 0 := hC
  unfold MX11_fault at hM
  refine g_iload_n hC dX11_fault_0 rfl 1 rfl ?_
  refine g_if_ne (tgt := 12) hC dX11_fault_1 rfl (by decide) hM (fun hM => ?_) (fun hM => ?_)
  · refine g_iload_n hC dX11_fault_12 rfl 1 rfl ?_
    refine g_iconst (v := 1) hC dX11_fault_13 rfl ic_1 ?_
    refine g_icmp_ne (tgt := 27) hC dX11_fault_14 rfl (by decide) hM (fun hM => ?_) (fun hM => ?_)
    · refine g_iconst (v := -1) hC dX11_fault_27 rfl ic_m1 ?_
      obtain rfl := Option.some.inj hM
      exact g_reti hR dX11_fault_28 rfl
    · refine g_aload_n hC dX11_fault_17 rfl 0 rfl ?_
      refine fg_10_0 hC h0 k_380 dX11_fault_18 rfl hM (fun j1 hj1 hM => ?_)
      refine fg_3_3 hC hj1 k_178 dX11_fault_21 rfl ?_
      refine g_goto (tgt := 28) hC dX11_fault_24 rfl (by decide) ?_
      cases hM
      exact g_reti hR dX11_fault_28 rfl
  · refine g_aload_n hC dX11_fault_4 rfl 0 rfl ?_
    refine fg_10_0 hC h0 k_380 dX11_fault_5 rfl hM (fun j2 hj2 hM => ?_)
    refine fg_3_2 hC hj2 k_176 dX11_fault_8 rfl ?_
    cases hM
    exact g_reti hR dX11_fault_11 rfl
def MX11_refuse (σ : Sto) (ρ : Rho) (a0 : Nat) (a1 : Int32) (a2 : Int32) : Option (Int32 × Sto) :=
  Option.bind (ρ a0 0) fun j1 =>
  bn (su σ j1 4 a1) fun σ2 =>
  Option.bind (ρ a0 0) fun j3 =>
  bn (su σ2 j3 5 a2) fun σ4 =>
  some (a1, σ4)
set_option maxHeartbeats 4000000 in
set_option maxRecDepth 100000 in
theorem c_X11_refuse (E : EX) {n : Nat} {σ : Sto} {ρ : Rho} (a0 : Nat) (h0 : Sh n a0 10) (a1 : Int32) (a2 : Int32) (res : Int32 × Sto) (hM : MX11_refuse σ ρ a0 a1 a2 = some res) : CTi E yX11_refuse cX11_refuse 3 (some .int) 0 [.ref (eb E + a0), .int a1, .int a2] n σ ρ res.1 res.2 ρ := by
  refine ct_i (by decide +kernel) rfl (Nat.le_of_ble_eq_true rfl) (fun X hE hml hC hR => ?_)
  subst hE
  show G X 0 0 n σ ρ 0 [(0, vr X a0), (1, .int a1), (2, .int a2)] []
  replace hC : Cx X cX11_refuse RX11 0 := hC
  unfold MX11_refuse at hM
  refine g_aload_n hC dX11_refuse_0 rfl 0 rfl ?_
  refine fg_10_0 hC h0 k_380 dX11_refuse_1 rfl hM (fun j1 hj1 hM => ?_)
  refine g_iload_n hC dX11_refuse_4 rfl 1 rfl ?_
  refine fp_3_4 hC hj1 k_180 dX11_refuse_5 rfl hM (fun σ2 hM => ?_)
  refine g_aload_n hC dX11_refuse_8 rfl 0 rfl ?_
  refine fg_10_0 hC h0 k_380 dX11_refuse_9 rfl hM (fun j3 hj3 hM => ?_)
  refine g_iload_n hC dX11_refuse_12 rfl 2 rfl ?_
  refine fp_3_5 hC hj3 k_182 dX11_refuse_13 rfl hM (fun σ4 hM => ?_)
  refine g_iload_n hC dX11_refuse_16 rfl 1 rfl ?_
  cases hM
  exact g_reti hR dX11_refuse_17 rfl
def MX11_accept (σ : Sto) (ρ : Rho) (a0 : Nat) : Option (Int32 × Sto) :=
  Option.bind (ρ a0 0) fun j1 =>
  bn (su σ j1 4 ((0 : Int32))) fun σ2 =>
  Option.bind (ρ a0 0) fun j3 =>
  bn (su σ2 j3 5 ((0 : Int32))) fun σ4 =>
  some ((0 : Int32), σ4)
set_option maxHeartbeats 4000000 in
set_option maxRecDepth 100000 in
theorem c_X11_accept (E : EX) {n : Nat} {σ : Sto} {ρ : Rho} (a0 : Nat) (h0 : Sh n a0 10) (res : Int32 × Sto) (hM : MX11_accept σ ρ a0 = some res) : CTi E yX11_accept cX11_accept 1 (some .int) 0 [.ref (eb E + a0)] n σ ρ res.1 res.2 ρ := by
  refine ct_i (by decide +kernel) rfl (Nat.le_of_ble_eq_true rfl) (fun X hE hml hC hR => ?_)
  subst hE
  show G X 0 0 n σ ρ 0 [(0, vr X a0)] []
  replace hC : Cx X cX11_accept RX11 0 := hC
  unfold MX11_accept at hM
  refine g_aload_n hC dX11_accept_0 rfl 0 rfl ?_
  refine fg_10_0 hC h0 k_380 dX11_accept_1 rfl hM (fun j1 hj1 hM => ?_)
  refine g_iconst (v := 0) hC dX11_accept_4 rfl ic_0 ?_
  refine fp_3_4 hC hj1 k_180 dX11_accept_5 rfl hM (fun σ2 hM => ?_)
  refine g_aload_n hC dX11_accept_8 rfl 0 rfl ?_
  refine fg_10_0 hC h0 k_380 dX11_accept_9 rfl hM (fun j3 hj3 hM => ?_)
  refine g_iconst (v := 0) hC dX11_accept_12 rfl ic_0 ?_
  refine fp_3_5 hC hj3 k_182 dX11_accept_13 rfl hM (fun σ4 hM => ?_)
  refine g_iconst (v := 0) hC dX11_accept_16 rfl ic_0 ?_
  cases hM
  exact g_reti hR dX11_accept_17 rfl
def MX11_prime (σ : Sto) (ρ : Rho) (a0 : Nat) (a1 : Int32) : Option (Int32 × Sto) :=
  Option.bind (MX11_isPrime a1) fun c1 =>
  if c1 = 0 then
    Option.bind (MX11_refuse σ ρ a0 ((1 : Int32)) ((0 : Int32))) fun c13 =>
    some (c13.1, c13.2)
  else
    Option.bind (ρ a0 0) fun j2 =>
    Option.bind (ρ j2 0) fun j3 =>
    if (σ j3 0) = a1 then
      Option.bind (MX11_refuse σ ρ a0 ((2 : Int32)) ((0 : Int32))) fun c12 =>
      some (c12.1, c12.2)
    else
      Option.bind (ρ a0 1) fun j4 =>
      Option.bind (ρ a0 0) fun j5 =>
      Option.bind (ρ j5 0) fun j6 =>
      Option.bind (MX5_keep σ ρ j4 j6) fun c7 =>
      Option.bind (ρ a0 0) fun j8 =>
      Option.bind (ρ j8 0) fun j9 =>
      Option.bind (MX8_changePrime c7 j9 a1) fun c10 =>
      Option.bind (MX11_accept c10 ρ a0) fun c11 =>
      some (c11.1, c11.2)
set_option maxHeartbeats 4000000 in
set_option maxRecDepth 100000 in
theorem c_X11_prime (E : EX) {n : Nat} {σ : Sto} {ρ : Rho} (a0 : Nat) (h0 : Sh n a0 10) (a1 : Int32) (res : Int32 × Sto) (hM : MX11_prime σ ρ a0 a1 = some res) : CTi E yX11_prime cX11_prime 2 (some .int) 3 [.ref (eb E + a0), .int a1] n σ ρ res.1 res.2 ρ := by
  refine ct_i (by decide +kernel) rfl (Nat.le_of_ble_eq_true rfl) (fun X hE hml hC hR => ?_)
  subst hE
  show G X 0 0 n σ ρ 0 [(0, vr X a0), (1, .int a1)] []
  replace hC : Cx X cX11_prime RX11 3 := hC
  unfold MX11_prime at hM
  refine g_iload_n hC dX11_prime_0 rfl 1 rfl ?_
  refine g_callSi (As := [.int a1]) (st' := []) (L' := 0) hC Y_X11_isPrime k_543 k_636 ⟨by decide, by decide⟩ dX11_prime_1 rfl rfl rfl (Nat.le_of_ble_eq_true rfl) ⟨Nat.zero_le _, Nat.zero_le _⟩ hM (fun c hc => c_X11_isPrime (xE X) a1 c hc) (fun c1 hM => ?_)
  refine g_if_ne (tgt := 14) hC dX11_prime_4 rfl (by decide) hM (fun hM => ?_) (fun hM => ?_)
  · refine g_aload_n hC dX11_prime_14 rfl 0 rfl ?_
    refine fg_10_0 hC h0 k_380 dX11_prime_15 rfl hM (fun j2 hj2 hM => ?_)
    refine fg_3_0 hC hj2 k_172 dX11_prime_18 rfl hM (fun j3 hj3 hM => ?_)
    refine fg_7_0 hC hj3 k_138 dX11_prime_21 rfl ?_
    refine g_iload_n hC dX11_prime_24 rfl 1 rfl ?_
    refine g_icmp_ne (tgt := 35) hC dX11_prime_25 rfl (by decide) hM (fun hM => ?_) (fun hM => ?_)
    · refine g_aload_n hC dX11_prime_35 rfl 0 rfl ?_
      refine fg_10_1 hC h0 k_381 dX11_prime_36 rfl hM (fun j4 hj4 hM => ?_)
      refine g_aload_n hC dX11_prime_39 rfl 0 rfl ?_
      refine fg_10_0 hC h0 k_380 dX11_prime_40 rfl hM (fun j5 hj5 hM => ?_)
      refine fg_3_0 hC hj5 k_172 dX11_prime_43 rfl hM (fun j6 hj6 hM => ?_)
      refine g_callVv0 (As := [vr X j6]) (st' := []) (k := j4) (L' := 2) hC Y_X5_keep I_X5_keep k_641 ⟨by decide, by decide⟩ hj4 (ci := 4) (by decide) rfl dX11_prime_46 rfl rfl rfl (Nat.le_of_ble_eq_true rfl) ⟨Nat.zero_le _, Nat.zero_le _⟩ hM (fun c hc => c_X5_keep (xE X) j4 hj4 j6 hj6 c hc) (fun c7 hM => ?_)
      refine g_aload_n hC dX11_prime_49 rfl 0 rfl ?_
      refine fg_10_0 hC h0 k_380 dX11_prime_50 rfl hM (fun j8 hj8 hM => ?_)
      refine fg_3_0 hC hj8 k_172 dX11_prime_53 rfl hM (fun j9 hj9 hM => ?_)
      refine g_iload_n hC dX11_prime_56 rfl 1 rfl ?_
      refine g_callVv0 (As := [.int a1]) (st' := []) (k := j9) (L' := 0) hC Y_X8_changePrime I_X8_changePrime k_649 ⟨by decide, by decide⟩ hj9 (ci := 7) (by decide) rfl dX11_prime_57 rfl rfl rfl (Nat.le_of_ble_eq_true rfl) ⟨Nat.zero_le _, Nat.zero_le _⟩ hM (fun c hc => c_X8_changePrime (xE X) j9 hj9 a1 c hc) (fun c10 hM => ?_)
      refine g_aload_n hC dX11_prime_60 rfl 0 rfl ?_
      refine g_callVi (As := []) (st' := []) (k := a0) (L' := 0) hC Y_X11_accept I_X11_accept k_650 ⟨by decide, by decide⟩ h0 (ci := 10) (by decide) rfl dX11_prime_61 rfl rfl rfl (Nat.le_of_ble_eq_true rfl) ⟨Nat.zero_le _, Nat.zero_le _⟩ hM (fun c hc => c_X11_accept (xE X) a0 h0 c hc) (fun c11 hM => ?_)
      cases hM
      exact g_reti hR dX11_prime_64 rfl
    · refine g_aload_n hC dX11_prime_28 rfl 0 rfl ?_
      refine g_iconst (v := 2) hC dX11_prime_29 rfl ic_2 ?_
      refine g_iconst (v := 0) hC dX11_prime_30 rfl ic_0 ?_
      refine g_callVi (As := [.int ((2 : Int32)), .int ((0 : Int32))]) (st' := []) (k := a0) (L' := 0) hC Y_X11_refuse I_X11_refuse k_637 ⟨by decide, by decide⟩ h0 (ci := 10) (by decide) rfl dX11_prime_31 rfl rfl rfl (Nat.le_of_ble_eq_true rfl) ⟨Nat.zero_le _, Nat.zero_le _⟩ hM (fun c hc => c_X11_refuse (xE X) a0 h0 ((2 : Int32)) ((0 : Int32)) c hc) (fun c12 hM => ?_)
      cases hM
      exact g_reti hR dX11_prime_34 rfl
  · refine g_aload_n hC dX11_prime_7 rfl 0 rfl ?_
    refine g_iconst (v := 1) hC dX11_prime_8 rfl ic_1 ?_
    refine g_iconst (v := 0) hC dX11_prime_9 rfl ic_0 ?_
    refine g_callVi (As := [.int ((1 : Int32)), .int ((0 : Int32))]) (st' := []) (k := a0) (L' := 0) hC Y_X11_refuse I_X11_refuse k_637 ⟨by decide, by decide⟩ h0 (ci := 10) (by decide) rfl dX11_prime_10 rfl rfl rfl (Nat.le_of_ble_eq_true rfl) ⟨Nat.zero_le _, Nat.zero_le _⟩ hM (fun c hc => c_X11_refuse (xE X) a0 h0 ((1 : Int32)) ((0 : Int32)) c hc) (fun c13 hM => ?_)
    cases hM
    exact g_reti hR dX11_prime_13 rfl
def MX11_isNumber (a0 : Int32) : Option (Int32) :=
  if a0 < 0 then
    zr ((0 : Int32)) (some (0 : Int32))
  else
    if (6 : Int32) ≤ a0 then
      zr ((0 : Int32)) (some (0 : Int32))
    else
      zr ((1 : Int32)) (some (1 : Int32))
set_option maxHeartbeats 4000000 in
set_option maxRecDepth 100000 in
theorem c_X11_isNumber (E : EX) {n : Nat} {σ : Sto} {ρ : Rho} (a0 : Int32) (res : Int32) (hM : MX11_isNumber a0 = some res) : CTi E yX11_isNumber cX11_isNumber 1 (some .boolean) 0 [.int a0] n σ ρ res σ ρ := by
  refine ct_i (by decide +kernel) rfl (Nat.le_of_ble_eq_true rfl) (fun X hE hml hC hR => ?_)
  subst hE
  show G X 0 0 n σ ρ 0 [(0, .int a0)] []
  replace hC : Cx X cX11_isNumber RX11 0 := hC
  unfold MX11_isNumber at hM
  refine g_iload_n hC dX11_isNumber_0 rfl 0 rfl ?_
  refine g_if_lt (tgt := 14) hC dX11_isNumber_1 rfl (by decide) hM (fun hM => ?_) (fun hM => ?_)
  · refine g_iconst (v := 0) hC dX11_isNumber_14 rfl ic_0 ?_
    exact g_retz hM dX11_isNumber_15 rfl (fun h => by cases h; exact hR)
  · refine g_iload_n hC dX11_isNumber_4 rfl 0 rfl ?_
    refine g_bipush (v := 6) hC dX11_isNumber_5 rfl ib_6 ?_
    refine g_icmp_ge (tgt := 14) hC dX11_isNumber_7 rfl (by decide) hM (fun hM => ?_) (fun hM => ?_)
    · refine g_iconst (v := 0) hC dX11_isNumber_14 rfl ic_0 ?_
      exact g_retz hM dX11_isNumber_15 rfl (fun h => by cases h; exact hR)
    · refine g_iconst (v := 1) hC dX11_isNumber_10 rfl ic_1 ?_
      refine g_goto (tgt := 15) hC dX11_isNumber_11 rfl (by decide) ?_
      exact g_retz hM dX11_isNumber_15 rfl (fun h => by cases h; exact hR)
def MX11_become (σ : Sto) (ρ : Rho) (a0 : Nat) (a1 : Int32) (a2 : Nat) : Option (Int32 × Sto) :=
  Option.bind (MX3_isZero σ a2) fun c1 =>
  if c1 = 0 then
    Option.bind (MX3_isWithinLimit σ a2) fun c2 =>
    if c2 = 0 then
      Option.bind (MX11_refuse σ ρ a0 ((4 : Int32)) ((0 : Int32))) fun c11 =>
      some (c11.1, c11.2)
    else
      Option.bind (ρ a0 1) fun j3 =>
      Option.bind (ρ a0 0) fun j4 =>
      Option.bind (ρ j4 0) fun j5 =>
      Option.bind (MX5_keep σ ρ j3 j5) fun c6 =>
      Option.bind (ρ a0 0) fun j7 =>
      Option.bind (ρ j7 0) fun j8 =>
      Option.bind (MX8_write c6 ρ j8 a1 a2) fun c9 =>
      Option.bind (MX11_accept c9 ρ a0) fun c10 =>
      some (c10.1, c10.2)
  else
    Option.bind (MX11_refuse σ ρ a0 ((3 : Int32)) ((0 : Int32))) fun c12 =>
    some (c12.1, c12.2)
set_option maxHeartbeats 4000000 in
set_option maxRecDepth 100000 in
theorem c_X11_become (E : EX) {n : Nat} {σ : Sto} {ρ : Rho} (a0 : Nat) (h0 : Sh n a0 10) (a1 : Int32) (a2 : Nat) (h2 : Sh n a2 2) (res : Int32 × Sto) (hM : MX11_become σ ρ a0 a1 a2 = some res) : CTi E yX11_become cX11_become 3 (some .int) 3 [.ref (eb E + a0), .int a1, .ref (eb E + a2)] n σ ρ res.1 res.2 ρ := by
  refine ct_i (by decide +kernel) rfl (Nat.le_of_ble_eq_true rfl) (fun X hE hml hC hR => ?_)
  subst hE
  show G X 0 0 n σ ρ 0 [(0, vr X a0), (1, .int a1), (2, vr X a2)] []
  replace hC : Cx X cX11_become RX11 3 := hC
  unfold MX11_become at hM
  refine g_aload_n hC dX11_become_0 rfl 2 rfl ?_
  refine g_callVi (As := []) (st' := []) (k := a2) (L' := 0) hC Y_X3_isZero I_X3_isZero k_674 ⟨by decide, by decide⟩ h2 (ci := 2) (by decide) rfl dX11_become_1 rfl rfl rfl (Nat.le_of_ble_eq_true rfl) ⟨Nat.zero_le _, Nat.zero_le _⟩ hM (fun c hc => c_X3_isZero (xE X) a2 h2 c hc) (fun c1 hM => ?_)
  refine g_if_eq (tgt := 14) hC dX11_become_4 rfl (by decide) hM (fun hM => ?_) (fun hM => ?_)
  · refine g_aload_n hC dX11_become_14 rfl 2 rfl ?_
    refine g_callVi (As := []) (st' := []) (k := a2) (L' := 1) hC Y_X3_isWithinLimit I_X3_isWithinLimit k_675 ⟨by decide, by decide⟩ h2 (ci := 2) (by decide) rfl dX11_become_15 rfl rfl rfl (Nat.le_of_ble_eq_true rfl) ⟨Nat.zero_le _, Nat.zero_le _⟩ hM (fun c hc => c_X3_isWithinLimit (xE X) a2 h2 c hc) (fun c2 hM => ?_)
    refine g_if_ne (tgt := 28) hC dX11_become_18 rfl (by decide) hM (fun hM => ?_) (fun hM => ?_)
    · refine g_aload_n hC dX11_become_28 rfl 0 rfl ?_
      refine fg_10_1 hC h0 k_381 dX11_become_29 rfl hM (fun j3 hj3 hM => ?_)
      refine g_aload_n hC dX11_become_32 rfl 0 rfl ?_
      refine fg_10_0 hC h0 k_380 dX11_become_33 rfl hM (fun j4 hj4 hM => ?_)
      refine fg_3_0 hC hj4 k_172 dX11_become_36 rfl hM (fun j5 hj5 hM => ?_)
      refine g_callVv0 (As := [vr X j5]) (st' := []) (k := j3) (L' := 2) hC Y_X5_keep I_X5_keep k_641 ⟨by decide, by decide⟩ hj3 (ci := 4) (by decide) rfl dX11_become_39 rfl rfl rfl (Nat.le_of_ble_eq_true rfl) ⟨Nat.zero_le _, Nat.zero_le _⟩ hM (fun c hc => c_X5_keep (xE X) j3 hj3 j5 hj5 c hc) (fun c6 hM => ?_)
      refine g_aload_n hC dX11_become_42 rfl 0 rfl ?_
      refine fg_10_0 hC h0 k_380 dX11_become_43 rfl hM (fun j7 hj7 hM => ?_)
      refine fg_3_0 hC hj7 k_172 dX11_become_46 rfl hM (fun j8 hj8 hM => ?_)
      refine g_iload_n hC dX11_become_49 rfl 1 rfl ?_
      refine g_aload_n hC dX11_become_50 rfl 2 rfl ?_
      refine g_callVv0 (As := [.int a1, vr X a2]) (st' := []) (k := j8) (L' := 1) hC Y_X8_write I_X8_write k_676 ⟨by decide, by decide⟩ hj8 (ci := 7) (by decide) rfl dX11_become_51 rfl rfl rfl (Nat.le_of_ble_eq_true rfl) ⟨Nat.zero_le _, Nat.zero_le _⟩ hM (fun c hc => c_X8_write (xE X) j8 hj8 a1 a2 h2 c hc) (fun c9 hM => ?_)
      refine g_aload_n hC dX11_become_54 rfl 0 rfl ?_
      refine g_callVi (As := []) (st' := []) (k := a0) (L' := 0) hC Y_X11_accept I_X11_accept k_650 ⟨by decide, by decide⟩ h0 (ci := 10) (by decide) rfl dX11_become_55 rfl rfl rfl (Nat.le_of_ble_eq_true rfl) ⟨Nat.zero_le _, Nat.zero_le _⟩ hM (fun c hc => c_X11_accept (xE X) a0 h0 c hc) (fun c10 hM => ?_)
      cases hM
      exact g_reti hR dX11_become_58 rfl
    · refine g_aload_n hC dX11_become_21 rfl 0 rfl ?_
      refine g_iconst (v := 4) hC dX11_become_22 rfl ic_4 ?_
      refine g_iconst (v := 0) hC dX11_become_23 rfl ic_0 ?_
      refine g_callVi (As := [.int ((4 : Int32)), .int ((0 : Int32))]) (st' := []) (k := a0) (L' := 0) hC Y_X11_refuse I_X11_refuse k_637 ⟨by decide, by decide⟩ h0 (ci := 10) (by decide) rfl dX11_become_24 rfl rfl rfl (Nat.le_of_ble_eq_true rfl) ⟨Nat.zero_le _, Nat.zero_le _⟩ hM (fun c hc => c_X11_refuse (xE X) a0 h0 ((4 : Int32)) ((0 : Int32)) c hc) (fun c11 hM => ?_)
      cases hM
      exact g_reti hR dX11_become_27 rfl
  · refine g_aload_n hC dX11_become_7 rfl 0 rfl ?_
    refine g_iconst (v := 3) hC dX11_become_8 rfl ic_3 ?_
    refine g_iconst (v := 0) hC dX11_become_9 rfl ic_0 ?_
    refine g_callVi (As := [.int ((3 : Int32)), .int ((0 : Int32))]) (st' := []) (k := a0) (L' := 0) hC Y_X11_refuse I_X11_refuse k_637 ⟨by decide, by decide⟩ h0 (ci := 10) (by decide) rfl dX11_become_10 rfl rfl rfl (Nat.le_of_ble_eq_true rfl) ⟨Nat.zero_le _, Nat.zero_le _⟩ hM (fun c hc => c_X11_refuse (xE X) a0 h0 ((3 : Int32)) ((0 : Int32)) c hc) (fun c12 hM => ?_)
    cases hM
    exact g_reti hR dX11_become_13 rfl
def BX11_set_21 (ρ : Rho) (a0 : Nat) (a1 : Int32) (a2 : Int32) (a3 : Int32) (σ : Sto) : Option (Int32 × Sto) :=
  Option.bind (MX11_refuse σ ρ a0 ((1 : Int32)) ((0 : Int32))) fun c1 =>
  some (c1.1, c1.2)
set_option maxHeartbeats 4000000 in
set_option maxRecDepth 100000 in
theorem bX11_set_21 {X : CX} {n : Nat} {ρ : Rho} {res : Int32 × Sto} (hC : Cx X cX11_set RX11 4) (hml : (xc X).maxLocals = 4) (hR : RtT (some .int) X cX11_set n res.1 res.2 ρ) (a0 : Nat) (a1 : Int32) (a2 : Int32) (a3 : Int32) (h0 : Sh n a0 10) : ∀ (σ : Sto), BX11_set_21 ρ a0 a1 a2 a3 σ = some res → G X 0 0 n σ ρ 21 [(0, vr X a0), (1, .int a1), (2, .int a2), (3, .int a3)] [] := by
  intro σ hM
  unfold BX11_set_21 at hM
  refine g_aload_n hC dX11_set_21 rfl 0 rfl ?_
  refine g_iconst (v := 1) hC dX11_set_22 rfl ic_1 ?_
  refine g_iconst (v := 0) hC dX11_set_23 rfl ic_0 ?_
  refine g_callVi (As := [.int ((1 : Int32)), .int ((0 : Int32))]) (st' := []) (k := a0) (L' := 0) hC Y_X11_refuse I_X11_refuse k_637 ⟨by decide, by decide⟩ h0 (ci := 10) (by decide) rfl dX11_set_24 rfl rfl rfl (Nat.le_of_ble_eq_true rfl) ⟨Nat.zero_le _, Nat.zero_le _⟩ hM (fun c hc => c_X11_refuse (xE X) a0 h0 ((1 : Int32)) ((0 : Int32)) c hc) (fun c1 hM => ?_)
  cases hM
  exact g_reti hR dX11_set_27 rfl
def MX11_set (σ : Sto) (ρ : Rho) (a0 : Nat) (a1 : Int32) (a2 : Int32) (a3 : Int32) : Option (Int32 × Sto) :=
  Option.bind (MX11_isConic a1) fun c1 =>
  if c1 = 0 then
    BX11_set_21 ρ a0 a1 a2 a3 σ
  else
    Option.bind (MX11_isNumber a2) fun c2 =>
    if c2 = 0 then
      BX11_set_21 ρ a0 a1 a2 a3 σ
    else
      Option.bind (MX11_isBeyond a3) fun c3 =>
      if c3 = 0 then
        Option.bind (ρ a0 0) fun j4 =>
        Option.bind (ρ j4 0) fun j5 =>
        Option.bind (ρ a0 9) fun j6 =>
        Option.bind (MX8_read σ ρ j5 a1 j6) fun c7 =>
        Option.bind (ρ a0 9) fun j8 =>
        Option.bind (MX3_nth c7 j8 a2) fun c9 =>
        if c9 = a3 then
          Option.bind (MX11_refuse c7 ρ a0 ((2 : Int32)) ((0 : Int32))) fun c14 =>
          some (c14.1, c14.2)
        else
          Option.bind (ρ a0 9) fun j10 =>
          Option.bind (MX3_change c7 j10 a2 a3) fun c11 =>
          Option.bind (ρ a0 9) fun j12 =>
          Option.bind (MX11_become c11 ρ a0 a1 j12) fun c13 =>
          some (c13.1, c13.2)
      else
        BX11_set_21 ρ a0 a1 a2 a3 σ
set_option maxHeartbeats 4000000 in
set_option maxRecDepth 100000 in
theorem c_X11_set (E : EX) {n : Nat} {σ : Sto} {ρ : Rho} (a0 : Nat) (h0 : Sh n a0 10) (a1 : Int32) (a2 : Int32) (a3 : Int32) (res : Int32 × Sto) (hM : MX11_set σ ρ a0 a1 a2 a3 = some res) : CTi E yX11_set cX11_set 4 (some .int) 4 [.ref (eb E + a0), .int a1, .int a2, .int a3] n σ ρ res.1 res.2 ρ := by
  refine ct_i (by decide +kernel) rfl (Nat.le_of_ble_eq_true rfl) (fun X hE hml hC hR => ?_)
  subst hE
  show G X 0 0 n σ ρ 0 [(0, vr X a0), (1, .int a1), (2, .int a2), (3, .int a3)] []
  replace hC : Cx X cX11_set RX11 4 := hC
  unfold MX11_set at hM
  refine g_iload_n hC dX11_set_0 rfl 1 rfl ?_
  refine g_callSi (As := [.int a1]) (st' := []) (L' := 0) hC Y_X11_isConic k_559 k_658 ⟨by decide, by decide⟩ dX11_set_1 rfl rfl rfl (Nat.le_of_ble_eq_true rfl) ⟨Nat.zero_le _, Nat.zero_le _⟩ hM (fun c hc => c_X11_isConic (xE X) a1 c hc) (fun c1 hM => ?_)
  refine g_if_eq (tgt := 21) hC dX11_set_4 rfl (by decide) hM (fun hM => ?_) (fun hM => ?_)
  · exact g_sub [0, 1, 2, 3] ((bX11_set_21 hC hml hR a0 a1 a2 a3 h0 ) _ hM) rfl
  · refine g_iload_n hC dX11_set_7 rfl 2 rfl ?_
    refine g_callSi (As := [.int a2]) (st' := []) (L' := 0) hC Y_X11_isNumber k_660 k_659 ⟨by decide, by decide⟩ dX11_set_8 rfl rfl rfl (Nat.le_of_ble_eq_true rfl) ⟨Nat.zero_le _, Nat.zero_le _⟩ hM (fun c hc => c_X11_isNumber (xE X) a2 c hc) (fun c2 hM => ?_)
    refine g_if_eq (tgt := 21) hC dX11_set_11 rfl (by decide) hM (fun hM => ?_) (fun hM => ?_)
    · exact g_sub [0, 1, 2, 3] ((bX11_set_21 hC hml hR a0 a1 a2 a3 h0 ) _ hM) rfl
    · refine g_iload_n hC dX11_set_14 rfl 3 rfl ?_
      refine g_callSi (As := [.int a3]) (st' := []) (L' := 0) hC Y_X11_isBeyond k_606 k_662 ⟨by decide, by decide⟩ dX11_set_15 rfl rfl rfl (Nat.le_of_ble_eq_true rfl) ⟨Nat.zero_le _, Nat.zero_le _⟩ hM (fun c hc => c_X11_isBeyond (xE X) a3 c hc) (fun c3 hM => ?_)
      refine g_if_eq (tgt := 28) hC dX11_set_18 rfl (by decide) hM (fun hM => ?_) (fun hM => ?_)
      · refine g_aload_n hC dX11_set_28 rfl 0 rfl ?_
        refine fg_10_0 hC h0 k_380 dX11_set_29 rfl hM (fun j4 hj4 hM => ?_)
        refine fg_3_0 hC hj4 k_172 dX11_set_32 rfl hM (fun j5 hj5 hM => ?_)
        refine g_iload_n hC dX11_set_35 rfl 1 rfl ?_
        refine g_aload_n hC dX11_set_36 rfl 0 rfl ?_
        refine fg_10_9 hC h0 k_389 dX11_set_37 rfl hM (fun j6 hj6 hM => ?_)
        refine g_callVv0 (As := [.int a1, vr X j6]) (st' := []) (k := j5) (L' := 1) hC Y_X8_read I_X8_read k_663 ⟨by decide, by decide⟩ hj5 (ci := 7) (by decide) rfl dX11_set_40 rfl rfl rfl (Nat.le_of_ble_eq_true rfl) ⟨Nat.zero_le _, Nat.zero_le _⟩ hM (fun c hc => c_X8_read (xE X) j5 hj5 a1 j6 hj6 c hc) (fun c7 hM => ?_)
        refine g_aload_n hC dX11_set_43 rfl 0 rfl ?_
        refine fg_10_9 hC h0 k_389 dX11_set_44 rfl hM (fun j8 hj8 hM => ?_)
        refine g_iload_n hC dX11_set_47 rfl 2 rfl ?_
        refine g_callVi (As := [.int a2]) (st' := []) (k := j8) (L' := 0) hC Y_X3_nth I_X3_nth k_668 ⟨by decide, by decide⟩ hj8 (ci := 2) (by decide) rfl dX11_set_48 rfl rfl rfl (Nat.le_of_ble_eq_true rfl) ⟨Nat.zero_le _, Nat.zero_le _⟩ hM (fun c hc => c_X3_nth (xE X) j8 hj8 a2 c hc) (fun c9 hM => ?_)
        refine g_iload_n hC dX11_set_51 rfl 3 rfl ?_
        refine g_icmp_ne (tgt := 62) hC dX11_set_52 rfl (by decide) hM (fun hM => ?_) (fun hM => ?_)
        · refine g_aload_n hC dX11_set_62 rfl 0 rfl ?_
          refine fg_10_9 hC h0 k_389 dX11_set_63 rfl hM (fun j10 hj10 hM => ?_)
          refine g_iload_n hC dX11_set_66 rfl 2 rfl ?_
          refine g_iload_n hC dX11_set_67 rfl 3 rfl ?_
          refine g_callVv0 (As := [.int a2, .int a3]) (st' := []) (k := j10) (L' := 0) hC Y_X3_change I_X3_change k_669 ⟨by decide, by decide⟩ hj10 (ci := 2) (by decide) rfl dX11_set_68 rfl rfl rfl (Nat.le_of_ble_eq_true rfl) ⟨Nat.zero_le _, Nat.zero_le _⟩ hM (fun c hc => c_X3_change (xE X) j10 hj10 a2 a3 c hc) (fun c11 hM => ?_)
          refine g_aload_n hC dX11_set_71 rfl 0 rfl ?_
          refine g_iload_n hC dX11_set_72 rfl 1 rfl ?_
          refine g_aload_n hC dX11_set_73 rfl 0 rfl ?_
          refine fg_10_9 hC h0 k_389 dX11_set_74 rfl hM (fun j12 hj12 hM => ?_)
          refine g_callVi (As := [.int a1, vr X j12]) (st' := []) (k := a0) (L' := 3) hC Y_X11_become I_X11_become k_670 ⟨by decide, by decide⟩ h0 (ci := 10) (by decide) rfl dX11_set_77 rfl rfl rfl (Nat.le_of_ble_eq_true rfl) ⟨Nat.zero_le _, Nat.zero_le _⟩ hM (fun c hc => c_X11_become (xE X) a0 h0 a1 j12 hj12 c hc) (fun c13 hM => ?_)
          cases hM
          exact g_reti hR dX11_set_80 rfl
        · refine g_aload_n hC dX11_set_55 rfl 0 rfl ?_
          refine g_iconst (v := 2) hC dX11_set_56 rfl ic_2 ?_
          refine g_iconst (v := 0) hC dX11_set_57 rfl ic_0 ?_
          refine g_callVi (As := [.int ((2 : Int32)), .int ((0 : Int32))]) (st' := []) (k := a0) (L' := 0) hC Y_X11_refuse I_X11_refuse k_637 ⟨by decide, by decide⟩ h0 (ci := 10) (by decide) rfl dX11_set_58 rfl rfl rfl (Nat.le_of_ble_eq_true rfl) ⟨Nat.zero_le _, Nat.zero_le _⟩ hM (fun c hc => c_X11_refuse (xE X) a0 h0 ((2 : Int32)) ((0 : Int32)) c hc) (fun c14 hM => ?_)
          cases hM
          exact g_reti hR dX11_set_61 rfl
      · exact g_sub [0, 1, 2, 3] ((bX11_set_21 hC hml hR a0 a1 a2 a3 h0 ) _ hM) rfl
def BX11_sum_37 (ρ : Rho) (a0 : Nat) (a1 : Int32) (a2 : Int32) (a3 : Int32) (a4 : Int32) (a5 : Int32) (σ : Sto) : Option (Int32 × Sto) :=
  Option.bind (MX11_refuse σ ρ a0 ((1 : Int32)) ((0 : Int32))) fun c1 =>
  some (c1.1, c1.2)
set_option maxHeartbeats 4000000 in
set_option maxRecDepth 100000 in
theorem bX11_sum_37 {X : CX} {n : Nat} {ρ : Rho} {res : Int32 × Sto} (hC : Cx X cX11_sum RX11 4) (hml : (xc X).maxLocals = 6) (hR : RtT (some .int) X cX11_sum n res.1 res.2 ρ) (a0 : Nat) (a1 : Int32) (a2 : Int32) (a3 : Int32) (a4 : Int32) (a5 : Int32) (h0 : Sh n a0 10) : ∀ (σ : Sto), BX11_sum_37 ρ a0 a1 a2 a3 a4 a5 σ = some res → G X 0 0 n σ ρ 37 [(0, vr X a0), (1, .int a1), (2, .int a2), (3, .int a3), (4, .int a4), (5, .int a5)] [] := by
  intro σ hM
  unfold BX11_sum_37 at hM
  refine g_aload_n hC dX11_sum_37 rfl 0 rfl ?_
  refine g_iconst (v := 1) hC dX11_sum_38 rfl ic_1 ?_
  refine g_iconst (v := 0) hC dX11_sum_39 rfl ic_0 ?_
  refine g_callVi (As := [.int ((1 : Int32)), .int ((0 : Int32))]) (st' := []) (k := a0) (L' := 0) hC Y_X11_refuse I_X11_refuse k_637 ⟨by decide, by decide⟩ h0 (ci := 10) (by decide) rfl dX11_sum_40 rfl rfl rfl (Nat.le_of_ble_eq_true rfl) ⟨Nat.zero_le _, Nat.zero_le _⟩ hM (fun c hc => c_X11_refuse (xE X) a0 h0 ((1 : Int32)) ((0 : Int32)) c hc) (fun c1 hM => ?_)
  cases hM
  exact g_reti hR dX11_sum_43 rfl
def MX11_sum (σ : Sto) (ρ : Rho) (a0 : Nat) (a1 : Int32) (a2 : Int32) (a3 : Int32) (a4 : Int32) (a5 : Int32) : Option (Int32 × Sto) :=
  Option.bind (MX11_isConic a1) fun c1 =>
  if c1 = 0 then
    BX11_sum_37 ρ a0 a1 a2 a3 a4 a5 σ
  else
    Option.bind (MX11_isConic a2) fun c2 =>
    if c2 = 0 then
      BX11_sum_37 ρ a0 a1 a2 a3 a4 a5 σ
    else
      Option.bind (MX11_isConic a4) fun c3 =>
      if c3 = 0 then
        BX11_sum_37 ρ a0 a1 a2 a3 a4 a5 σ
      else
        Option.bind (MX11_isBeyond a3) fun c4 =>
        if c4 = 0 then
          Option.bind (MX11_isBeyond a5) fun c5 =>
          if c5 = 0 then
            Option.bind (ρ a0 0) fun j6 =>
            Option.bind (ρ j6 0) fun j7 =>
            Option.bind (ρ a0 9) fun j8 =>
            Option.bind (MX8_read σ ρ j7 a2 j8) fun c9 =>
            Option.bind (ρ a0 0) fun j10 =>
            Option.bind (ρ j10 0) fun j11 =>
            Option.bind (ρ a0 10) fun j12 =>
            Option.bind (MX8_read c9 ρ j11 a4 j12) fun c13 =>
            Option.bind (ρ a0 9) fun j14 =>
            Option.bind (ρ a0 10) fun j15 =>
            Option.bind (MX3_blend c13 j14 a3 a5 j15) fun c16 =>
            Option.bind (ρ a0 9) fun j17 =>
            Option.bind (MX11_become c16 ρ a0 a1 j17) fun c18 =>
            some (c18.1, c18.2)
          else
            BX11_sum_37 ρ a0 a1 a2 a3 a4 a5 σ
        else
          BX11_sum_37 ρ a0 a1 a2 a3 a4 a5 σ
set_option maxHeartbeats 4000000 in
set_option maxRecDepth 100000 in
theorem c_X11_sum (E : EX) {n : Nat} {σ : Sto} {ρ : Rho} (a0 : Nat) (h0 : Sh n a0 10) (a1 : Int32) (a2 : Int32) (a3 : Int32) (a4 : Int32) (a5 : Int32) (res : Int32 × Sto) (hM : MX11_sum σ ρ a0 a1 a2 a3 a4 a5 = some res) : CTi E yX11_sum cX11_sum 6 (some .int) 4 [.ref (eb E + a0), .int a1, .int a2, .int a3, .int a4, .int a5] n σ ρ res.1 res.2 ρ := by
  refine ct_i (by decide +kernel) rfl (Nat.le_of_ble_eq_true rfl) (fun X hE hml hC hR => ?_)
  subst hE
  show G X 0 0 n σ ρ 0 [(0, vr X a0), (1, .int a1), (2, .int a2), (3, .int a3), (4, .int a4), (5, .int a5)] []
  replace hC : Cx X cX11_sum RX11 4 := hC
  unfold MX11_sum at hM
  refine g_iload_n hC dX11_sum_0 rfl 1 rfl ?_
  refine g_callSi (As := [.int a1]) (st' := []) (L' := 0) hC Y_X11_isConic k_559 k_658 ⟨by decide, by decide⟩ dX11_sum_1 rfl rfl rfl (Nat.le_of_ble_eq_true rfl) ⟨Nat.zero_le _, Nat.zero_le _⟩ hM (fun c hc => c_X11_isConic (xE X) a1 c hc) (fun c1 hM => ?_)
  refine g_if_eq (tgt := 37) hC dX11_sum_4 rfl (by decide) hM (fun hM => ?_) (fun hM => ?_)
  · exact g_sub [0, 1, 2, 3, 4, 5] ((bX11_sum_37 hC hml hR a0 a1 a2 a3 a4 a5 h0 ) _ hM) rfl
  · refine g_iload_n hC dX11_sum_7 rfl 2 rfl ?_
    refine g_callSi (As := [.int a2]) (st' := []) (L' := 0) hC Y_X11_isConic k_559 k_658 ⟨by decide, by decide⟩ dX11_sum_8 rfl rfl rfl (Nat.le_of_ble_eq_true rfl) ⟨Nat.zero_le _, Nat.zero_le _⟩ hM (fun c hc => c_X11_isConic (xE X) a2 c hc) (fun c2 hM => ?_)
    refine g_if_eq (tgt := 37) hC dX11_sum_11 rfl (by decide) hM (fun hM => ?_) (fun hM => ?_)
    · exact g_sub [0, 1, 2, 3, 4, 5] ((bX11_sum_37 hC hml hR a0 a1 a2 a3 a4 a5 h0 ) _ hM) rfl
    · refine g_iload hC dX11_sum_14 rfl 4 rfl ?_
      refine g_callSi (As := [.int a4]) (st' := []) (L' := 0) hC Y_X11_isConic k_559 k_658 ⟨by decide, by decide⟩ dX11_sum_16 rfl rfl rfl (Nat.le_of_ble_eq_true rfl) ⟨Nat.zero_le _, Nat.zero_le _⟩ hM (fun c hc => c_X11_isConic (xE X) a4 c hc) (fun c3 hM => ?_)
      refine g_if_eq (tgt := 37) hC dX11_sum_19 rfl (by decide) hM (fun hM => ?_) (fun hM => ?_)
      · exact g_sub [0, 1, 2, 3, 4, 5] ((bX11_sum_37 hC hml hR a0 a1 a2 a3 a4 a5 h0 ) _ hM) rfl
      · refine g_iload_n hC dX11_sum_22 rfl 3 rfl ?_
        refine g_callSi (As := [.int a3]) (st' := []) (L' := 0) hC Y_X11_isBeyond k_606 k_662 ⟨by decide, by decide⟩ dX11_sum_23 rfl rfl rfl (Nat.le_of_ble_eq_true rfl) ⟨Nat.zero_le _, Nat.zero_le _⟩ hM (fun c hc => c_X11_isBeyond (xE X) a3 c hc) (fun c4 hM => ?_)
        refine g_if_ne (tgt := 37) hC dX11_sum_26 rfl (by decide) hM (fun hM => ?_) (fun hM => ?_)
        · exact g_sub [0, 1, 2, 3, 4, 5] ((bX11_sum_37 hC hml hR a0 a1 a2 a3 a4 a5 h0 ) _ hM) rfl
        · refine g_iload hC dX11_sum_29 rfl 5 rfl ?_
          refine g_callSi (As := [.int a5]) (st' := []) (L' := 0) hC Y_X11_isBeyond k_606 k_662 ⟨by decide, by decide⟩ dX11_sum_31 rfl rfl rfl (Nat.le_of_ble_eq_true rfl) ⟨Nat.zero_le _, Nat.zero_le _⟩ hM (fun c hc => c_X11_isBeyond (xE X) a5 c hc) (fun c5 hM => ?_)
          refine g_if_eq (tgt := 44) hC dX11_sum_34 rfl (by decide) hM (fun hM => ?_) (fun hM => ?_)
          · refine g_aload_n hC dX11_sum_44 rfl 0 rfl ?_
            refine fg_10_0 hC h0 k_380 dX11_sum_45 rfl hM (fun j6 hj6 hM => ?_)
            refine fg_3_0 hC hj6 k_172 dX11_sum_48 rfl hM (fun j7 hj7 hM => ?_)
            refine g_iload_n hC dX11_sum_51 rfl 2 rfl ?_
            refine g_aload_n hC dX11_sum_52 rfl 0 rfl ?_
            refine fg_10_9 hC h0 k_389 dX11_sum_53 rfl hM (fun j8 hj8 hM => ?_)
            refine g_callVv0 (As := [.int a2, vr X j8]) (st' := []) (k := j7) (L' := 1) hC Y_X8_read I_X8_read k_663 ⟨by decide, by decide⟩ hj7 (ci := 7) (by decide) rfl dX11_sum_56 rfl rfl rfl (Nat.le_of_ble_eq_true rfl) ⟨Nat.zero_le _, Nat.zero_le _⟩ hM (fun c hc => c_X8_read (xE X) j7 hj7 a2 j8 hj8 c hc) (fun c9 hM => ?_)
            refine g_aload_n hC dX11_sum_59 rfl 0 rfl ?_
            refine fg_10_0 hC h0 k_380 dX11_sum_60 rfl hM (fun j10 hj10 hM => ?_)
            refine fg_3_0 hC hj10 k_172 dX11_sum_63 rfl hM (fun j11 hj11 hM => ?_)
            refine g_iload hC dX11_sum_66 rfl 4 rfl ?_
            refine g_aload_n hC dX11_sum_68 rfl 0 rfl ?_
            refine fg_10_10 hC h0 k_390 dX11_sum_69 rfl hM (fun j12 hj12 hM => ?_)
            refine g_callVv0 (As := [.int a4, vr X j12]) (st' := []) (k := j11) (L' := 1) hC Y_X8_read I_X8_read k_663 ⟨by decide, by decide⟩ hj11 (ci := 7) (by decide) rfl dX11_sum_72 rfl rfl rfl (Nat.le_of_ble_eq_true rfl) ⟨Nat.zero_le _, Nat.zero_le _⟩ hM (fun c hc => c_X8_read (xE X) j11 hj11 a4 j12 hj12 c hc) (fun c13 hM => ?_)
            refine g_aload_n hC dX11_sum_75 rfl 0 rfl ?_
            refine fg_10_9 hC h0 k_389 dX11_sum_76 rfl hM (fun j14 hj14 hM => ?_)
            refine g_iload_n hC dX11_sum_79 rfl 3 rfl ?_
            refine g_iload hC dX11_sum_80 rfl 5 rfl ?_
            refine g_aload_n hC dX11_sum_82 rfl 0 rfl ?_
            refine fg_10_10 hC h0 k_390 dX11_sum_83 rfl hM (fun j15 hj15 hM => ?_)
            refine g_callVv0 (As := [.int a3, .int a5, vr X j15]) (st' := []) (k := j14) (L' := 1) hC Y_X3_blend I_X3_blend k_681 ⟨by decide, by decide⟩ hj14 (ci := 2) (by decide) rfl dX11_sum_86 rfl rfl rfl (Nat.le_of_ble_eq_true rfl) ⟨Nat.zero_le _, Nat.zero_le _⟩ hM (fun c hc => c_X3_blend (xE X) j14 hj14 a3 a5 j15 hj15 c hc) (fun c16 hM => ?_)
            refine g_aload_n hC dX11_sum_89 rfl 0 rfl ?_
            refine g_iload_n hC dX11_sum_90 rfl 1 rfl ?_
            refine g_aload_n hC dX11_sum_91 rfl 0 rfl ?_
            refine fg_10_9 hC h0 k_389 dX11_sum_92 rfl hM (fun j17 hj17 hM => ?_)
            refine g_callVi (As := [.int a1, vr X j17]) (st' := []) (k := a0) (L' := 3) hC Y_X11_become I_X11_become k_670 ⟨by decide, by decide⟩ h0 (ci := 10) (by decide) rfl dX11_sum_95 rfl rfl rfl (Nat.le_of_ble_eq_true rfl) ⟨Nat.zero_le _, Nat.zero_le _⟩ hM (fun c hc => c_X11_become (xE X) a0 h0 a1 j17 hj17 c hc) (fun c18 hM => ?_)
            cases hM
            exact g_reti hR dX11_sum_98 rfl
          · exact g_sub [0, 1, 2, 3, 4, 5] ((bX11_sum_37 hC hml hR a0 a1 a2 a3 a4 a5 h0 ) _ hM) rfl
def BX11_turn_14 (ρ : Rho) (a0 : Nat) (a1 : Int32) (a2 : Int32) (σ : Sto) : Option (Int32 × Sto) :=
  Option.bind (MX11_refuse σ ρ a0 ((1 : Int32)) ((0 : Int32))) fun c1 =>
  some (c1.1, c1.2)
set_option maxHeartbeats 4000000 in
set_option maxRecDepth 100000 in
theorem bX11_turn_14 {X : CX} {n : Nat} {ρ : Rho} {res : Int32 × Sto} (hC : Cx X cX11_turn RX11 5) (hml : (xc X).maxLocals = 4) (hR : RtT (some .int) X cX11_turn n res.1 res.2 ρ) (a0 : Nat) (a1 : Int32) (a2 : Int32) (h0 : Sh n a0 10) : ∀ (σ : Sto), BX11_turn_14 ρ a0 a1 a2 σ = some res → G X 0 0 n σ ρ 14 [(0, vr X a0), (1, .int a1), (2, .int a2)] [] := by
  intro σ hM
  unfold BX11_turn_14 at hM
  refine g_aload_n hC dX11_turn_14 rfl 0 rfl ?_
  refine g_iconst (v := 1) hC dX11_turn_15 rfl ic_1 ?_
  refine g_iconst (v := 0) hC dX11_turn_16 rfl ic_0 ?_
  refine g_callVi (As := [.int ((1 : Int32)), .int ((0 : Int32))]) (st' := []) (k := a0) (L' := 0) hC Y_X11_refuse I_X11_refuse k_637 ⟨by decide, by decide⟩ h0 (ci := 10) (by decide) rfl dX11_turn_17 rfl rfl rfl (Nat.le_of_ble_eq_true rfl) ⟨Nat.zero_le _, Nat.zero_le _⟩ hM (fun c hc => c_X11_refuse (xE X) a0 h0 ((1 : Int32)) ((0 : Int32)) c hc) (fun c1 hM => ?_)
  cases hM
  exact g_reti hR dX11_turn_20 rfl
def MX11_turn (σ : Sto) (ρ : Rho) (a0 : Nat) (a1 : Int32) (a2 : Int32) : Option (Int32 × Sto) :=
  Option.bind (MX11_isConic a1) fun c1 =>
  if c1 = 0 then
    BX11_turn_14 ρ a0 a1 a2 σ
  else
    Option.bind (MX11_isConic a2) fun c2 =>
    if c2 = 0 then
      BX11_turn_14 ρ a0 a1 a2 σ
    else
      Option.bind (ρ a0 7) fun j3 =>
      Option.bind (ρ a0 0) fun j4 =>
      Option.bind (ρ j4 0) fun j5 =>
      Option.bind (MX0_take σ ρ j3 j5 a2) fun c6 =>
      Option.bind (ρ a0 7) fun j7 =>
      Option.bind (MX0_kind c6 ρ j7) fun c8 =>
      bn c8 fun y9 =>
      if y9 = (4 : Int32) then
        Option.bind (ρ a0 8) fun j10 =>
        Option.bind (ρ a0 7) fun j11 =>
        Option.bind (MX0_becomeDual c6 ρ j10 j11) fun c12 =>
        Option.bind (ρ a0 8) fun j13 =>
        Option.bind (ρ j13 0) fun j14 =>
        Option.bind (MX11_become c12 ρ a0 a1 j14) fun c15 =>
        some (c15.1, c15.2)
      else
        Option.bind (MX11_refuse c6 ρ a0 ((5 : Int32)) (((6 : Int32) + y9))) fun c16 =>
        some (c16.1, c16.2)
set_option maxHeartbeats 4000000 in
set_option maxRecDepth 100000 in
theorem c_X11_turn (E : EX) {n : Nat} {σ : Sto} {ρ : Rho} (a0 : Nat) (h0 : Sh n a0 10) (a1 : Int32) (a2 : Int32) (res : Int32 × Sto) (hM : MX11_turn σ ρ a0 a1 a2 = some res) : CTi E yX11_turn cX11_turn 4 (some .int) 5 [.ref (eb E + a0), .int a1, .int a2] n σ ρ res.1 res.2 ρ := by
  refine ct_i (by decide +kernel) rfl (Nat.le_of_ble_eq_true rfl) (fun X hE hml hC hR => ?_)
  subst hE
  show G X 0 0 n σ ρ 0 [(0, vr X a0), (1, .int a1), (2, .int a2)] []
  replace hC : Cx X cX11_turn RX11 5 := hC
  unfold MX11_turn at hM
  refine g_iload_n hC dX11_turn_0 rfl 1 rfl ?_
  refine g_callSi (As := [.int a1]) (st' := []) (L' := 0) hC Y_X11_isConic k_559 k_658 ⟨by decide, by decide⟩ dX11_turn_1 rfl rfl rfl (Nat.le_of_ble_eq_true rfl) ⟨Nat.zero_le _, Nat.zero_le _⟩ hM (fun c hc => c_X11_isConic (xE X) a1 c hc) (fun c1 hM => ?_)
  refine g_if_eq (tgt := 14) hC dX11_turn_4 rfl (by decide) hM (fun hM => ?_) (fun hM => ?_)
  · exact g_sub [0, 1, 2] ((bX11_turn_14 hC hml hR a0 a1 a2 h0 ) _ hM) rfl
  · refine g_iload_n hC dX11_turn_7 rfl 2 rfl ?_
    refine g_callSi (As := [.int a2]) (st' := []) (L' := 0) hC Y_X11_isConic k_559 k_658 ⟨by decide, by decide⟩ dX11_turn_8 rfl rfl rfl (Nat.le_of_ble_eq_true rfl) ⟨Nat.zero_le _, Nat.zero_le _⟩ hM (fun c hc => c_X11_isConic (xE X) a2 c hc) (fun c2 hM => ?_)
    refine g_if_ne (tgt := 21) hC dX11_turn_11 rfl (by decide) hM (fun hM => ?_) (fun hM => ?_)
    · refine g_aload_n hC dX11_turn_21 rfl 0 rfl ?_
      refine fg_10_7 hC h0 k_387 dX11_turn_22 rfl hM (fun j3 hj3 hM => ?_)
      refine g_aload_n hC dX11_turn_25 rfl 0 rfl ?_
      refine fg_10_0 hC h0 k_380 dX11_turn_26 rfl hM (fun j4 hj4 hM => ?_)
      refine fg_3_0 hC hj4 k_172 dX11_turn_29 rfl hM (fun j5 hj5 hM => ?_)
      refine g_iload_n hC dX11_turn_32 rfl 2 rfl ?_
      refine g_callVv0 (As := [vr X j5, .int a2]) (st' := []) (k := j3) (L' := 3) hC Y_X0_take I_X0_take k_689 ⟨by decide, by decide⟩ hj3 (ci := 0) (by decide) rfl dX11_turn_33 rfl rfl rfl (Nat.le_of_ble_eq_true rfl) ⟨Nat.zero_le _, Nat.zero_le _⟩ hM (fun c hc => c_X0_take (xE X) j3 hj3 j5 hj5 a2 c hc) (fun c6 hM => ?_)
      refine g_aload_n hC dX11_turn_36 rfl 0 rfl ?_
      refine fg_10_7 hC h0 k_387 dX11_turn_37 rfl hM (fun j7 hj7 hM => ?_)
      refine g_callVi (As := []) (st' := []) (k := j7) (L' := 4) hC Y_X0_kind I_X0_kind k_704 ⟨by decide, by decide⟩ hj7 (ci := 0) (by decide) rfl dX11_turn_40 rfl rfl rfl (Nat.le_of_ble_eq_true rfl) ⟨Nat.zero_le _, Nat.zero_le _⟩ hM (fun c hc => c_X0_kind (xE X) j7 hj7 c hc) (fun c8 hM => ?_)
      refine g_istore_n hC (fun y9 => [(3, .int y9), (0, vr X a0), (1, .int a1), (2, .int a2)]) dX11_turn_43 rfl hM hml (by decide) (fun _ => rfl) (fun y9 hM => ?_)
      refine g_iload_n hC dX11_turn_44 rfl 0 rfl ?_
      refine g_iconst (v := 4) hC dX11_turn_45 rfl ic_4 ?_
      refine g_icmp_eq (tgt := 59) hC dX11_turn_46 rfl (by decide) hM (fun hM => ?_) (fun hM => ?_)
      · refine g_aload_n hC dX11_turn_59 rfl 1 rfl ?_
        refine fg_10_8 hC h0 k_388 dX11_turn_60 rfl hM (fun j10 hj10 hM => ?_)
        refine g_aload_n hC dX11_turn_63 rfl 1 rfl ?_
        refine fg_10_7 hC h0 k_387 dX11_turn_64 rfl hM (fun j11 hj11 hM => ?_)
        refine g_callVv0 (As := [vr X j11]) (st' := []) (k := j10) (L' := 3) hC Y_X0_becomeDual I_X0_becomeDual k_730 ⟨by decide, by decide⟩ hj10 (ci := 0) (by decide) rfl dX11_turn_67 rfl rfl rfl (Nat.le_of_ble_eq_true rfl) ⟨Nat.zero_le _, Nat.zero_le _⟩ hM (fun c hc => c_X0_becomeDual (xE X) j10 hj10 j11 hj11 c hc) (fun c12 hM => ?_)
        refine g_aload_n hC dX11_turn_70 rfl 1 rfl ?_
        refine g_iload_n hC dX11_turn_71 rfl 2 rfl ?_
        refine g_aload_n hC dX11_turn_72 rfl 1 rfl ?_
        refine fg_10_8 hC h0 k_388 dX11_turn_73 rfl hM (fun j13 hj13 hM => ?_)
        refine fg_0_0 hC hj13 k_324 dX11_turn_76 rfl hM (fun j14 hj14 hM => ?_)
        refine g_callVi (As := [.int a1, vr X j14]) (st' := []) (k := a0) (L' := 3) hC Y_X11_become I_X11_become k_670 ⟨by decide, by decide⟩ h0 (ci := 10) (by decide) rfl dX11_turn_79 rfl rfl rfl (Nat.le_of_ble_eq_true rfl) ⟨Nat.zero_le _, Nat.zero_le _⟩ hM (fun c hc => c_X11_become (xE X) a0 h0 a1 j14 hj14 c hc) (fun c15 hM => ?_)
        cases hM
        exact g_reti hR dX11_turn_82 rfl
      · refine g_aload_n hC dX11_turn_49 rfl 1 rfl ?_
        refine g_iconst (v := 5) hC dX11_turn_50 rfl ic_5 ?_
        refine g_bipush (v := 6) hC dX11_turn_51 rfl ib_6 ?_
        refine g_iload_n hC dX11_turn_53 rfl 0 rfl ?_
        refine g_iadd hC dX11_turn_54 rfl ?_
        refine g_callVi (As := [.int ((5 : Int32)), .int (((6 : Int32) + y9))]) (st' := []) (k := a0) (L' := 0) hC Y_X11_refuse I_X11_refuse k_637 ⟨by decide, by decide⟩ h0 (ci := 10) (by decide) rfl dX11_turn_55 rfl rfl rfl (Nat.le_of_ble_eq_true rfl) ⟨Nat.zero_le _, Nat.zero_le _⟩ hM (fun c hc => c_X11_refuse (xE X) a0 h0 ((5 : Int32)) (((6 : Int32) + y9)) c hc) (fun c16 hM => ?_)
        cases hM
        exact g_reti hR dX11_turn_58 rfl
    · exact g_sub [0, 1, 2] ((bX11_turn_14 hC hml hR a0 a1 a2 h0 ) _ hM) rfl
