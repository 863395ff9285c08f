def MX3_init (a0 : Nat) : Option (Unit) :=
  some ()
set_option maxHeartbeats 4000000 in
set_option maxRecDepth 100000 in
theorem c_X3_init (E : EX) {n : Nat} {σ : Sto} {ρ : Rho} (a0 : Nat) (h0 : Sh n a0 2) (res : Unit) (hM : MX3_init a0 = some res) : CTv E yX3_init cX3_init 1 1 0 0 [.ref (eb E + a0)] n σ ρ σ ρ := by
  refine ct_v (by decide +kernel) (Nat.le_of_ble_eq_true rfl) (fun X hE hml hin hRm hC hR => ?_)
  subst hE
  show G X 0 0 n σ ρ 0 [(0, vr X a0)] []
  replace hC : Cx X cX3_init RX3 1 := hC
  unfold MX3_init at hM
  refine g_aload_n hC dX3_init_0 rfl 0 rfl ?_
  refine g_objInit hC k_230 k_117 k_118 (by decide) dX3_init_1 rfl (Nat.le_of_ble_eq_true rfl) ?_
  cases hM
  exact g_retv hR dX3_init_4 rfl
def MX11_isConic (a0 : Int32) : Option (Int32) :=
  if a0 < 0 then
    zr ((0 : Int32)) (some (0 : Int32))
  else
    if (6 : Int32) ≤ a0 then
      zr ((0 : Int32)) (some (0 : Int32))
    else
      zr ((1 : Int32)) (some (1 : Int32))
set_option maxHeartbeats 4000000 in
set_option maxRecDepth 100000 in
theorem c_X11_isConic (E : EX) {n : Nat} {σ : Sto} {ρ : Rho} (a0 : Int32) (res : Int32) (hM : MX11_isConic a0 = some res) : CTi E yX11_isConic cX11_isConic 1 (some .boolean) 0 [.int a0] n σ ρ res σ ρ := by
  refine ct_i (by decide +kernel) rfl (Nat.le_of_ble_eq_true rfl) (fun X hE hml hC hR => ?_)
  subst hE
  show G X 0 0 n σ ρ 0 [(0, .int a0)] []
  replace hC : Cx X cX11_isConic RX11 0 := hC
  unfold MX11_isConic at hM
  refine g_iload_n hC dX11_isConic_0 rfl 0 rfl ?_
  refine g_if_lt (tgt := 14) hC dX11_isConic_1 rfl (by decide) hM (fun hM => ?_) (fun hM => ?_)
  · refine g_iconst (v := 0) hC dX11_isConic_14 rfl ic_0 ?_
    exact g_retz hM dX11_isConic_15 rfl (fun h => by cases h; exact hR)
  · refine g_iload_n hC dX11_isConic_4 rfl 0 rfl ?_
    refine g_bipush (v := 6) hC dX11_isConic_5 rfl ib_6 ?_
    refine g_icmp_ge (tgt := 14) hC dX11_isConic_7 rfl (by decide) hM (fun hM => ?_) (fun hM => ?_)
    · refine g_iconst (v := 0) hC dX11_isConic_14 rfl ic_0 ?_
      exact g_retz hM dX11_isConic_15 rfl (fun h => by cases h; exact hR)
    · refine g_iconst (v := 1) hC dX11_isConic_10 rfl ic_1 ?_
      refine g_goto (tgt := 15) hC dX11_isConic_11 rfl (by decide) ?_
      exact g_retz hM dX11_isConic_15 rfl (fun h => by cases h; exact hR)
def MX3_fill (σ : Sto) (a0 : Nat) (a1 : Int32) (a2 : Int32) (a3 : Int32) (a4 : Int32) (a5 : Int32) (a6 : Int32) : Option (Sto) :=
  bn (su σ a0 0 a1) fun σ1 =>
  bn (su σ1 a0 1 a2) fun σ2 =>
  bn (su σ2 a0 2 a3) fun σ3 =>
  bn (su σ3 a0 3 a4) fun σ4 =>
  bn (su σ4 a0 4 a5) fun σ5 =>
  bn (su σ5 a0 5 a6) fun σ6 =>
  some σ6
set_option maxHeartbeats 4000000 in
set_option maxRecDepth 100000 in
theorem c_X3_fill (E : EX) {n : Nat} {ρ : Rho} {σ : Sto} (a0 : Nat) (h0 : Sh n a0 2) (a1 : Int32) (a2 : Int32) (a3 : Int32) (a4 : Int32) (a5 : Int32) (a6 : Int32) (res : Sto) (hM : MX3_fill σ a0 a1 a2 a3 a4 a5 a6 = some res) : CTv E yX3_fill cX3_fill 7 0 0 0 [.ref (eb E + a0), .int a1, .int a2, .int a3, .int a4, .int a5, .int a6] n σ ρ res ρ := by
  refine ct_v (by decide +kernel) (Nat.le_of_ble_eq_true rfl) (fun X hE hml hin hRm hC hR => ?_)
  subst hE
  show G X 0 0 n σ ρ 0 [(0, vr X a0), (1, .int a1), (2, .int a2), (3, .int a3), (4, .int a4), (5, .int a5), (6, .int a6)] []
  replace hC : Cx X cX3_fill RX3 0 := hC
  unfold MX3_fill at hM
  refine g_aload_n hC dX3_fill_0 rfl 0 rfl ?_
  refine g_iload_n hC dX3_fill_1 rfl 1 rfl ?_
  refine fp_2_0 hC h0 k_231 dX3_fill_2 rfl hM (fun σ1 hM => ?_)
  refine g_aload_n hC dX3_fill_5 rfl 0 rfl ?_
  refine g_iload_n hC dX3_fill_6 rfl 2 rfl ?_
  refine fp_2_1 hC h0 k_233 dX3_fill_7 rfl hM (fun σ2 hM => ?_)
  refine g_aload_n hC dX3_fill_10 rfl 0 rfl ?_
  refine g_iload_n hC dX3_fill_11 rfl 3 rfl ?_
  refine fp_2_2 hC h0 k_235 dX3_fill_12 rfl hM (fun σ3 hM => ?_)
  refine g_aload_n hC dX3_fill_15 rfl 0 rfl ?_
  refine g_iload hC dX3_fill_16 rfl 4 rfl ?_
  refine fp_2_3 hC h0 k_237 dX3_fill_18 rfl hM (fun σ4 hM => ?_)
  refine g_aload_n hC dX3_fill_21 rfl 0 rfl ?_
  refine g_iload hC dX3_fill_22 rfl 5 rfl ?_
  refine fp_2_4 hC h0 k_239 dX3_fill_24 rfl hM (fun σ5 hM => ?_)
  refine g_aload_n hC dX3_fill_27 rfl 0 rfl ?_
  refine g_iload hC dX3_fill_28 rfl 6 rfl ?_
  refine fp_2_5 hC h0 k_241 dX3_fill_30 rfl hM (fun σ6 hM => ?_)
  cases hM
  exact g_retv hR dX3_fill_33 rfl
def MX8_read (σ : Sto) (ρ : Rho) (a0 : Nat) (a1 : Int32) (a2 : Nat) : Option (Sto) :=
  Option.bind (MX11_isConic a1) fun c1 =>
  if c1 = 0 then
    some σ
  else
    bn ((a1 * (6 : Int32))) fun y2 =>
    Option.bind (ρ a0 3) fun j3 =>
    Option.bind (ag σ j3 y2) fun x4 =>
    Option.bind (ρ a0 3) fun j5 =>
    Option.bind (ag σ j5 ((y2 + (1 : Int32)))) fun x6 =>
    Option.bind (ρ a0 3) fun j7 =>
    Option.bind (ag σ j7 ((y2 + (2 : Int32)))) fun x8 =>
    Option.bind (ρ a0 3) fun j9 =>
    Option.bind (ag σ j9 ((y2 + (3 : Int32)))) fun x10 =>
    Option.bind (ρ a0 3) fun j11 =>
    Option.bind (ag σ j11 ((y2 + (4 : Int32)))) fun x12 =>
    Option.bind (ρ a0 3) fun j13 =>
    Option.bind (ag σ j13 ((y2 + (5 : Int32)))) fun x14 =>
    Option.bind (MX3_fill σ a2 x4 x6 x8 x10 x12 x14) fun c15 =>
    some c15
set_option maxHeartbeats 4000000 in
set_option maxRecDepth 100000 in
theorem c_X8_read (E : EX) {n : Nat} {σ : Sto} {ρ : Rho} (a0 : Nat) (h0 : Sh n a0 7) (a1 : Int32) (a2 : Nat) (h2 : Sh n a2 2) (res : Sto) (hM : MX8_read σ ρ a0 a1 a2 = some res) : CTv E yX8_read cX8_read 4 1 0 0 [.ref (eb E + a0), .int a1, .ref (eb E + a2)] n σ ρ res ρ := by
  refine ct_v (by decide +kernel) (Nat.le_of_ble_eq_true rfl) (fun X hE hml hin hRm hC hR => ?_)
  subst hE
  show G X 0 0 n σ ρ 0 [(0, vr X a0), (1, .int a1), (2, vr X a2)] []
  replace hC : Cx X cX8_read RX8 1 := hC
  unfold MX8_read at hM
  refine g_iload_n hC dX8_read_0 rfl 1 rfl ?_
  refine g_callSNi (As := [.int a1]) (st' := []) (L' := 0) hC Y_X11_isConic k_559 k_612 ⟨by decide, by decide⟩ dX8_read_1 rfl rfl rfl (Nat.le_of_ble_eq_true rfl) ⟨Nat.zero_le _, Nat.zero_le _⟩ hM (fun c hc => c_X11_isConic (xE X) a1 c hc) (fun c1 hM => ?_)
  refine g_if_eq (tgt := 62) hC dX8_read_4 rfl (by decide) hM (fun hM => ?_) (fun hM => ?_)
  · cases hM
    exact g_retv hR dX8_read_62 rfl
  · refine g_iload_n hC dX8_read_7 rfl 1 rfl ?_
    refine g_bipush (v := 6) hC dX8_read_8 rfl ib_6 ?_
    refine g_imul hC dX8_read_10 rfl ?_
    refine g_istore_n hC (fun y2 => [(3, .int y2), (0, vr X a0), (1, .int a1), (2, vr X a2)]) dX8_read_11 rfl hM hml (by decide) (fun _ => rfl) (fun y2 hM => ?_)
    refine g_aload_n hC dX8_read_12 rfl 3 rfl ?_
    refine g_aload_n hC dX8_read_13 rfl 1 rfl ?_
    refine fg_7_3 hC h0 k_145 dX8_read_14 rfl hM (fun j3 hj3 hM => ?_)
    refine g_iload_n hC dX8_read_17 rfl 0 rfl ?_
    refine g_iald hC hj3 dX8_read_18 rfl hM (fun x4 hM => ?_)
    refine g_aload_n hC dX8_read_19 rfl 1 rfl ?_
    refine fg_7_3 hC h0 k_145 dX8_read_20 rfl hM (fun j5 hj5 hM => ?_)
    refine g_iload_n hC dX8_read_23 rfl 0 rfl ?_
    refine g_iconst (v := 1) hC dX8_read_24 rfl ic_1 ?_
    refine g_iadd hC dX8_read_25 rfl ?_
    refine g_iald hC hj5 dX8_read_26 rfl hM (fun x6 hM => ?_)
    refine g_aload_n hC dX8_read_27 rfl 1 rfl ?_
    refine fg_7_3 hC h0 k_145 dX8_read_28 rfl hM (fun j7 hj7 hM => ?_)
    refine g_iload_n hC dX8_read_31 rfl 0 rfl ?_
    refine g_iconst (v := 2) hC dX8_read_32 rfl ic_2 ?_
    refine g_iadd hC dX8_read_33 rfl ?_
    refine g_iald hC hj7 dX8_read_34 rfl hM (fun x8 hM => ?_)
    refine g_aload_n hC dX8_read_35 rfl 1 rfl ?_
    refine fg_7_3 hC h0 k_145 dX8_read_36 rfl hM (fun j9 hj9 hM => ?_)
    refine g_iload_n hC dX8_read_39 rfl 0 rfl ?_
    refine g_iconst (v := 3) hC dX8_read_40 rfl ic_3 ?_
    refine g_iadd hC dX8_read_41 rfl ?_
    refine g_iald hC hj9 dX8_read_42 rfl hM (fun x10 hM => ?_)
    refine g_aload_n hC dX8_read_43 rfl 1 rfl ?_
    refine fg_7_3 hC h0 k_145 dX8_read_44 rfl hM (fun j11 hj11 hM => ?_)
    refine g_iload_n hC dX8_read_47 rfl 0 rfl ?_
    refine g_iconst (v := 4) hC dX8_read_48 rfl ic_4 ?_
    refine g_iadd hC dX8_read_49 rfl ?_
    refine g_iald hC hj11 dX8_read_50 rfl hM (fun x12 hM => ?_)
    refine g_aload_n hC dX8_read_51 rfl 1 rfl ?_
    refine fg_7_3 hC h0 k_145 dX8_read_52 rfl hM (fun j13 hj13 hM => ?_)
    refine g_iload_n hC dX8_read_55 rfl 0 rfl ?_
    refine g_iconst (v := 5) hC dX8_read_56 rfl ic_5 ?_
    refine g_iadd hC dX8_read_57 rfl ?_
    refine g_iald hC hj13 dX8_read_58 rfl hM (fun x14 hM => ?_)
    refine g_callVv0 (As := [.int x4, .int x6, .int x8, .int x10, .int x12, .int x14]) (st' := []) (k := a2) (L' := 0) hC Y_X3_fill I_X3_fill k_667 ⟨by decide, by decide⟩ h2 (ci := 2) (by decide) rfl dX8_read_59 rfl rfl rfl (Nat.le_of_ble_eq_true rfl) ⟨Nat.zero_le _, Nat.zero_le _⟩ hM (fun c hc => c_X3_fill (xE X) a2 h2 x4 x6 x8 x10 x12 x14 c hc) (fun c15 hM => ?_)
    cases hM
    exact g_retv hR dX8_read_62 rfl
def MJ9_floorMod_7cf53 (a0 : Int32) (a1 : Int32) : Option (Int32) :=
  Option.bind (rmi a0 a1) fun z1 =>
  bn z1 fun y2 =>
  if 0 ≤ (a0 ^^^ a1) then
    some y2
  else
    if y2 = 0 then
      some y2
    else
      some (y2 + a1)
set_option maxHeartbeats 4000000 in
set_option maxRecDepth 100000 in
theorem c_J9_floorMod_7cf53 (E : EX) {n : Nat} {σ : Sto} {ρ : Rho} (a0 : Int32) (a1 : Int32) (res : Int32) (hM : MJ9_floorMod_7cf53 a0 a1 = some res) : CTi E yJ9_floorMod_7cf53 cJ9_floorMod_7cf53 3 (some .int) 0 [.int a0, .int a1] n σ ρ res σ ρ := by
  refine ct_i (by decide +kernel) rfl (Nat.le_of_ble_eq_true rfl) (fun X hE hml hC hR => ?_)
  subst hE
  show G X 0 0 n σ ρ 0 [(0, .int a0), (1, .int a1)] []
  replace hC : Cx X cJ9_floorMod_7cf53 RJ9 0 := hC
  unfold MJ9_floorMod_7cf53 at hM
  refine g_iload_n hC dJ9_floorMod_7cf53_0 rfl 0 rfl ?_
  refine g_iload_n hC dJ9_floorMod_7cf53_1 rfl 1 rfl ?_
  refine g_irem hC dJ9_floorMod_7cf53_2 rfl hM (fun z1 hM => ?_)
  refine g_istore_n hC (fun y2 => [(2, .int y2), (0, .int a0), (1, .int a1)]) dJ9_floorMod_7cf53_3 rfl hM hml (by decide) (fun _ => rfl) (fun y2 hM => ?_)
  refine g_iload_n hC dJ9_floorMod_7cf53_4 rfl 1 rfl ?_
  refine g_iload_n hC dJ9_floorMod_7cf53_5 rfl 2 rfl ?_
  refine g_ixor hC dJ9_floorMod_7cf53_6 rfl ?_
  refine g_if_ge (tgt := 18) hC dJ9_floorMod_7cf53_7 rfl (by decide) hM (fun hM => ?_) (fun hM => ?_)
  · refine g_iload_n hC dJ9_floorMod_7cf53_18 rfl 0 rfl ?_
    cases hM
    exact g_reti hR dJ9_floorMod_7cf53_19 rfl
  · refine g_iload_n hC dJ9_floorMod_7cf53_10 rfl 0 rfl ?_
    refine g_if_eq (tgt := 18) hC dJ9_floorMod_7cf53_11 rfl (by decide) hM (fun hM => ?_) (fun hM => ?_)
    · refine g_iload_n hC dJ9_floorMod_7cf53_18 rfl 0 rfl ?_
      cases hM
      exact g_reti hR dJ9_floorMod_7cf53_19 rfl
    · refine g_iload_n hC dJ9_floorMod_7cf53_14 rfl 0 rfl ?_
      refine g_iload_n hC dJ9_floorMod_7cf53_15 rfl 2 rfl ?_
      refine g_iadd hC dJ9_floorMod_7cf53_16 rfl ?_
      cases hM
      exact g_reti hR dJ9_floorMod_7cf53_17 rfl
def MX2_rest (a0 : Int32) (a1 : Int32) : Option (Int32) :=
  if a1 ≤ 0 then
    some (0 : Int32)
  else
    Option.bind (MJ9_floorMod_7cf53 a0 a1) fun c1 =>
    some c1
set_option maxHeartbeats 4000000 in
set_option maxRecDepth 100000 in
theorem c_X2_rest (E : EX) {n : Nat} {σ : Sto} {ρ : Rho} (a0 : Int32) (a1 : Int32) (res : Int32) (hM : MX2_rest a0 a1 = some res) : CTi E yX2_rest cX2_rest 2 (some .int) 1 [.int a0, .int a1] n σ ρ res σ ρ := by
  refine ct_i (by decide +kernel) rfl (Nat.le_of_ble_eq_true rfl) (fun X hE hml hC hR => ?_)
  subst hE
  show G X 0 0 n σ ρ 0 [(0, .int a0), (1, .int a1)] []
  replace hC : Cx X cX2_rest RX2 1 := hC
  unfold MX2_rest at hM
  refine g_iload_n hC dX2_rest_0 rfl 1 rfl ?_
  refine g_if_le (tgt := 12) hC dX2_rest_1 rfl (by decide) hM (fun hM => ?_) (fun hM => ?_)
  · refine g_iconst (v := 0) hC dX2_rest_12 rfl ic_0 ?_
    cases hM
    exact g_reti hR dX2_rest_13 rfl
  · refine g_iload_n hC dX2_rest_4 rfl 0 rfl ?_
    refine g_iload_n hC dX2_rest_5 rfl 1 rfl ?_
    refine g_callSi (As := [.int a0, .int a1]) (st' := []) (L' := 0) hC Y_J9_floorMod_7cf53 k_702 k_701 ⟨by decide, by decide⟩ dX2_rest_6 rfl rfl rfl (Nat.le_of_ble_eq_true rfl) ⟨Nat.zero_le _, Nat.zero_le _⟩ hM (fun c hc => c_J9_floorMod_7cf53 (xE X) a0 a1 c hc) (fun c1 hM => ?_)
    refine g_goto (tgt := 13) hC dX2_rest_9 rfl (by decide) ?_
    cases hM
    exact g_reti hR dX2_rest_13 rfl
def MX3_reduce (σ : Sto) (a0 : Nat) (a1 : Int32) : Option (Sto) :=
  Option.bind (MX2_rest ((σ a0 0)) a1) fun c1 =>
  Option.bind (MX2_rest ((σ a0 1)) a1) fun c2 =>
  Option.bind (MX2_rest ((σ a0 2)) a1) fun c3 =>
  Option.bind (MX2_rest ((σ a0 3)) a1) fun c4 =>
  Option.bind (MX2_rest ((σ a0 4)) a1) fun c5 =>
  Option.bind (MX2_rest ((σ a0 5)) a1) fun c6 =>
  Option.bind (MX3_fill σ a0 c1 c2 c3 c4 c5 c6) fun c7 =>
  some c7
set_option maxHeartbeats 4000000 in
set_option maxRecDepth 100000 in
theorem c_X3_reduce (E : EX) {n : Nat} {ρ : Rho} {σ : Sto} (a0 : Nat) (h0 : Sh n a0 2) (a1 : Int32) (res : Sto) (hM : MX3_reduce σ a0 a1 = some res) : CTv E yX3_reduce cX3_reduce 2 2 0 0 [.ref (eb E + a0), .int a1] n σ ρ res ρ := by
  refine ct_v (by decide +kernel) (Nat.le_of_ble_eq_true rfl) (fun X hE hml hin hRm hC hR => ?_)
  subst hE
  show G X 0 0 n σ ρ 0 [(0, vr X a0), (1, .int a1)] []
  replace hC : Cx X cX3_reduce RX3 2 := hC
  unfold MX3_reduce at hM
  refine g_aload_n hC dX3_reduce_0 rfl 0 rfl ?_
  refine g_aload_n hC dX3_reduce_1 rfl 0 rfl ?_
  refine fg_2_0 hC h0 k_231 dX3_reduce_2 rfl ?_
  refine g_iload_n hC dX3_reduce_5 rfl 1 rfl ?_
  refine g_callSi (As := [.int ((σ a0 0)), .int a1]) (st' := [vr X a0]) (L' := 1) hC Y_X2_rest k_699 k_698 ⟨by decide, by decide⟩ dX3_reduce_6 rfl rfl rfl (Nat.le_of_ble_eq_true rfl) ⟨Nat.zero_le _, Nat.zero_le _⟩ hM (fun c hc => c_X2_rest (xE X) ((σ a0 0)) a1 c hc) (fun c1 hM => ?_)
  refine g_aload_n hC dX3_reduce_9 rfl 0 rfl ?_
  refine fg_2_1 hC h0 k_233 dX3_reduce_10 rfl ?_
  refine g_iload_n hC dX3_reduce_13 rfl 1 rfl ?_
  refine g_callSi (As := [.int ((σ a0 1)), .int a1]) (st' := [.int c1, vr X a0]) (L' := 1) hC Y_X2_rest k_699 k_698 ⟨by decide, by decide⟩ dX3_reduce_14 rfl rfl rfl (Nat.le_of_ble_eq_true rfl) ⟨Nat.zero_le _, Nat.zero_le _⟩ hM (fun c hc => c_X2_rest (xE X) ((σ a0 1)) a1 c hc) (fun c2 hM => ?_)
  refine g_aload_n hC dX3_reduce_17 rfl 0 rfl ?_
  refine fg_2_2 hC h0 k_235 dX3_reduce_18 rfl ?_
  refine g_iload_n hC dX3_reduce_21 rfl 1 rfl ?_
  refine g_callSi (As := [.int ((σ a0 2)), .int a1]) (st' := [.int c2, .int c1, vr X a0]) (L' := 1) hC Y_X2_rest k_699 k_698 ⟨by decide, by decide⟩ dX3_reduce_22 rfl rfl rfl (Nat.le_of_ble_eq_true rfl) ⟨Nat.zero_le _, Nat.zero_le _⟩ hM (fun c hc => c_X2_rest (xE X) ((σ a0 2)) a1 c hc) (fun c3 hM => ?_)
  refine g_aload_n hC dX3_reduce_25 rfl 0 rfl ?_
  refine fg_2_3 hC h0 k_237 dX3_reduce_26 rfl ?_
  refine g_iload_n hC dX3_reduce_29 rfl 1 rfl ?_
  refine g_callSi (As := [.int ((σ a0 3)), .int a1]) (st' := [.int c3, .int c2, .int c1, vr X a0]) (L' := 1) hC Y_X2_rest k_699 k_698 ⟨by decide, by decide⟩ dX3_reduce_30 rfl rfl rfl (Nat.le_of_ble_eq_true rfl) ⟨Nat.zero_le _, Nat.zero_le _⟩ hM (fun c hc => c_X2_rest (xE X) ((σ a0 3)) a1 c hc) (fun c4 hM => ?_)
  refine g_aload_n hC dX3_reduce_33 rfl 0 rfl ?_
  refine fg_2_4 hC h0 k_239 dX3_reduce_34 rfl ?_
  refine g_iload_n hC dX3_reduce_37 rfl 1 rfl ?_
  refine g_callSi (As := [.int ((σ a0 4)), .int a1]) (st' := [.int c4, .int c3, .int c2, .int c1, vr X a0]) (L' := 1) hC Y_X2_rest k_699 k_698 ⟨by decide, by decide⟩ dX3_reduce_38 rfl rfl rfl (Nat.le_of_ble_eq_true rfl) ⟨Nat.zero_le _, Nat.zero_le _⟩ hM (fun c hc => c_X2_rest (xE X) ((σ a0 4)) a1 c hc) (fun c5 hM => ?_)
  refine g_aload_n hC dX3_reduce_41 rfl 0 rfl ?_
  refine fg_2_5 hC h0 k_241 dX3_reduce_42 rfl ?_
  refine g_iload_n hC dX3_reduce_45 rfl 1 rfl ?_
  refine g_callSi (As := [.int ((σ a0 5)), .int a1]) (st' := [.int c5, .int c4, .int c3, .int c2, .int c1, vr X a0]) (L' := 1) hC Y_X2_rest k_699 k_698 ⟨by decide, by decide⟩ dX3_reduce_46 rfl rfl rfl (Nat.le_of_ble_eq_true rfl) ⟨Nat.zero_le _, Nat.zero_le _⟩ hM (fun c hc => c_X2_rest (xE X) ((σ a0 5)) a1 c hc) (fun c6 hM => ?_)
  refine g_callVv0 (As := [.int c1, .int c2, .int c3, .int c4, .int c5, .int c6]) (st' := []) (k := a0) (L' := 0) hC Y_X3_fill I_X3_fill k_593 ⟨by decide, by decide⟩ h0 (ci := 2) (by decide) rfl dX3_reduce_49 rfl rfl rfl (Nat.le_of_ble_eq_true rfl) ⟨Nat.zero_le _, Nat.zero_le _⟩ hM (fun c hc => c_X3_fill (xE X) a0 h0 c1 c2 c3 c4 c5 c6 c hc) (fun c7 hM => ?_)
  cases hM
  exact g_retv hR dX3_reduce_52 rfl
def MX0_take (σ : Sto) (ρ : Rho) (a0 : Nat) (a1 : Nat) (a2 : Int32) : Option (Sto) :=
  bn (su σ a0 1 ((σ a1 0))) fun σ1 =>
  Option.bind (ρ a0 0) fun j2 =>
  Option.bind (MX8_read σ1 ρ a1 a2 j2) fun c3 =>
  Option.bind (ρ a0 0) fun j4 =>
  Option.bind (MX3_reduce c3 j4 ((c3 a0 1))) fun c5 =>
  some c5
set_option maxHeartbeats 4000000 in
set_option maxRecDepth 100000 in
theorem c_X0_take (E : EX) {n : Nat} {σ : Sto} {ρ : Rho} (a0 : Nat) (h0 : Sh n a0 0) (a1 : Nat) (h1 : Sh n a1 7) (a2 : Int32) (res : Sto) (hM : MX0_take σ ρ a0 a1 a2 = some res) : CTv E yX0_take cX0_take 3 3 0 0 [.ref (eb E + a0), .ref (eb E + a1), .int a2] n σ ρ res ρ := by
  refine ct_v (by decide +kernel) (Nat.le_of_ble_eq_true rfl) (fun X hE hml hin hRm hC hR => ?_)
  subst hE
  show G X 0 0 n σ ρ 0 [(0, vr X a0), (1, vr X a1), (2, .int a2)] []
  replace hC : Cx X cX0_take RX0 3 := hC
  unfold MX0_take at hM
  refine g_aload_n hC dX0_take_0 rfl 0 rfl ?_
  refine g_aload_n hC dX0_take_1 rfl 1 rfl ?_
  refine fg_7_0 hC h1 k_135 dX0_take_2 rfl ?_
  refine fp_0_1 hC h0 k_325 dX0_take_5 rfl hM (fun σ1 hM => ?_)
  refine g_aload_n hC dX0_take_8 rfl 1 rfl ?_
  refine g_iload_n hC dX0_take_9 rfl 2 rfl ?_
  refine g_aload_n hC dX0_take_10 rfl 0 rfl ?_
  refine fg_0_0 hC h0 k_321 dX0_take_11 rfl hM (fun j2 hj2 hM => ?_)
  refine g_callVv0 (As := [.int a2, vr X j2]) (st' := []) (k := a1) (L' := 1) hC Y_X8_read I_X8_read k_693 ⟨by decide, by decide⟩ h1 (ci := 7) (by decide) rfl dX0_take_14 rfl rfl rfl (Nat.le_of_ble_eq_true rfl) ⟨Nat.zero_le _, Nat.zero_le _⟩ hM (fun c hc => c_X8_read (xE X) a1 h1 a2 j2 hj2 c hc) (fun c3 hM => ?_)
  refine g_aload_n hC dX0_take_17 rfl 0 rfl ?_
  refine fg_0_0 hC h0 k_321 dX0_take_18 rfl hM (fun j4 hj4 hM => ?_)
  refine g_aload_n hC dX0_take_21 rfl 0 rfl ?_
  refine fg_0_1 hC h0 k_325 dX0_take_22 rfl ?_
  refine g_callVv0 (As := [.int ((c3 a0 1))]) (st' := []) (k := j4) (L' := 2) hC Y_X3_reduce I_X3_reduce k_694 ⟨by decide, by decide⟩ hj4 (ci := 2) (by decide) rfl dX0_take_25 rfl rfl rfl (Nat.le_of_ble_eq_true rfl) ⟨Nat.zero_le _, Nat.zero_le _⟩ hM (fun c hc => c_X3_reduce (xE X) j4 hj4 ((c3 a0 1)) c hc) (fun c5 hM => ?_)
  cases hM
  exact g_retv hR dX0_take_28 rfl
def MX0_becomeDual (σ : Sto) (ρ : Rho) (a0 : Nat) (a1 : Nat) : Option (Sto) :=
  Option.bind (ρ a1 0) fun j1 =>
  bn (su σ a0 1 ((σ a1 1))) fun σ2 =>
  Option.bind (ρ a0 0) fun j3 =>
  Option.bind (MX3_fill σ2 j3 (((((4 : Int32) * (σ2 j1 1)) * (σ2 j1 2)) - ((σ2 j1 3) * (σ2 j1 3)))) (((((4 : Int32) * (σ2 j1 0)) * (σ2 j1 2)) - ((σ2 j1 4) * (σ2 j1 4)))) (((((4 : Int32) * (σ2 j1 0)) * (σ2 j1 1)) - ((σ2 j1 5) * (σ2 j1 5)))) (((2 : Int32) * (((σ2 j1 4) * (σ2 j1 5)) - (((2 : Int32) * (σ2 j1 0)) * (σ2 j1 3))))) (((2 : Int32) * (((σ2 j1 3) * (σ2 j1 5)) - (((2 : Int32) * (σ2 j1 1)) * (σ2 j1 4))))) (((2 : Int32) * (((σ2 j1 3) * (σ2 j1 4)) - (((2 : Int32) * (σ2 j1 2)) * (σ2 j1 5)))))) fun c4 =>
  Option.bind (ρ a0 0) fun j5 =>
  Option.bind (MX3_reduce c4 j5 ((c4 a0 1))) fun c6 =>
  some c6
set_option maxHeartbeats 4000000 in
set_option maxRecDepth 100000 in
theorem c_X0_becomeDual (E : EX) {n : Nat} {σ : Sto} {ρ : Rho} (a0 : Nat) (h0 : Sh n a0 0) (a1 : Nat) (h1 : Sh n a1 0) (res : Sto) (hM : MX0_becomeDual σ ρ a0 a1 = some res) : CTv E yX0_becomeDual cX0_becomeDual 3 3 0 0 [.ref (eb E + a0), .ref (eb E + a1)] n σ ρ res ρ := by
  refine ct_v (by decide +kernel) (Nat.le_of_ble_eq_true rfl) (fun X hE hml hin hRm hC hR => ?_)
  subst hE
  show G X 0 0 n σ ρ 0 [(0, vr X a0), (1, vr X a1)] []
  replace hC : Cx X cX0_becomeDual RX0 3 := hC
  unfold MX0_becomeDual at hM
  refine g_aload_n hC dX0_becomeDual_0 rfl 1 rfl ?_
  refine fg_0_0 hC h1 k_321 dX0_becomeDual_1 rfl hM (fun j1 hj1 hM => ?_)
  refine g_astore_n (lv' := [(2, vr X j1), (0, vr X a0), (1, vr X a1)]) hC dX0_becomeDual_4 rfl hml (by decide) rfl ?_
  refine g_aload_n hC dX0_becomeDual_5 rfl 1 rfl ?_
  refine g_aload_n hC dX0_becomeDual_6 rfl 2 rfl ?_
  refine fg_0_1 hC h1 k_325 dX0_becomeDual_7 rfl ?_
  refine fp_0_1 hC h0 k_325 dX0_becomeDual_10 rfl hM (fun σ2 hM => ?_)
  refine g_aload_n hC dX0_becomeDual_13 rfl 1 rfl ?_
  refine fg_0_0 hC h0 k_321 dX0_becomeDual_14 rfl hM (fun j3 hj3 hM => ?_)
  refine g_iconst (v := 4) hC dX0_becomeDual_17 rfl ic_4 ?_
  refine g_aload_n hC dX0_becomeDual_18 rfl 0 rfl ?_
  refine fg_2_1 hC hj1 k_234 dX0_becomeDual_19 rfl ?_
  refine g_imul hC dX0_becomeDual_22 rfl ?_
  refine g_aload_n hC dX0_becomeDual_23 rfl 0 rfl ?_
  refine fg_2_2 hC hj1 k_236 dX0_becomeDual_24 rfl ?_
  refine g_imul hC dX0_becomeDual_27 rfl ?_
  refine g_aload_n hC dX0_becomeDual_28 rfl 0 rfl ?_
  refine fg_2_3 hC hj1 k_238 dX0_becomeDual_29 rfl ?_
  refine g_aload_n hC dX0_becomeDual_32 rfl 0 rfl ?_
  refine fg_2_3 hC hj1 k_238 dX0_becomeDual_33 rfl ?_
  refine g_imul hC dX0_becomeDual_36 rfl ?_
  refine g_isub hC dX0_becomeDual_37 rfl ?_
  refine g_iconst (v := 4) hC dX0_becomeDual_38 rfl ic_4 ?_
  refine g_aload_n hC dX0_becomeDual_39 rfl 0 rfl ?_
  refine fg_2_0 hC hj1 k_232 dX0_becomeDual_40 rfl ?_
  refine g_imul hC dX0_becomeDual_43 rfl ?_
  refine g_aload_n hC dX0_becomeDual_44 rfl 0 rfl ?_
  refine fg_2_2 hC hj1 k_236 dX0_becomeDual_45 rfl ?_
  refine g_imul hC dX0_becomeDual_48 rfl ?_
  refine g_aload_n hC dX0_becomeDual_49 rfl 0 rfl ?_
  refine fg_2_4 hC hj1 k_240 dX0_becomeDual_50 rfl ?_
  refine g_aload_n hC dX0_becomeDual_53 rfl 0 rfl ?_
  refine fg_2_4 hC hj1 k_240 dX0_becomeDual_54 rfl ?_
  refine g_imul hC dX0_becomeDual_57 rfl ?_
  refine g_isub hC dX0_becomeDual_58 rfl ?_
  refine g_iconst (v := 4) hC dX0_becomeDual_59 rfl ic_4 ?_
  refine g_aload_n hC dX0_becomeDual_60 rfl 0 rfl ?_
  refine fg_2_0 hC hj1 k_232 dX0_becomeDual_61 rfl ?_
  refine g_imul hC dX0_becomeDual_64 rfl ?_
  refine g_aload_n hC dX0_becomeDual_65 rfl 0 rfl ?_
  refine fg_2_1 hC hj1 k_234 dX0_becomeDual_66 rfl ?_
  refine g_imul hC dX0_becomeDual_69 rfl ?_
  refine g_aload_n hC dX0_becomeDual_70 rfl 0 rfl ?_
  refine fg_2_5 hC hj1 k_242 dX0_becomeDual_71 rfl ?_
  refine g_aload_n hC dX0_becomeDual_74 rfl 0 rfl ?_
  refine fg_2_5 hC hj1 k_242 dX0_becomeDual_75 rfl ?_
  refine g_imul hC dX0_becomeDual_78 rfl ?_
  refine g_isub hC dX0_becomeDual_79 rfl ?_
  refine g_iconst (v := 2) hC dX0_becomeDual_80 rfl ic_2 ?_
  refine g_aload_n hC dX0_becomeDual_81 rfl 0 rfl ?_
  refine fg_2_4 hC hj1 k_240 dX0_becomeDual_82 rfl ?_
  refine g_aload_n hC dX0_becomeDual_85 rfl 0 rfl ?_
  refine fg_2_5 hC hj1 k_242 dX0_becomeDual_86 rfl ?_
  refine g_imul hC dX0_becomeDual_89 rfl ?_
  refine g_iconst (v := 2) hC dX0_becomeDual_90 rfl ic_2 ?_
  refine g_aload_n hC dX0_becomeDual_91 rfl 0 rfl ?_
  refine fg_2_0 hC hj1 k_232 dX0_becomeDual_92 rfl ?_
  refine g_imul hC dX0_becomeDual_95 rfl ?_
  refine g_aload_n hC dX0_becomeDual_96 rfl 0 rfl ?_
  refine fg_2_3 hC hj1 k_238 dX0_becomeDual_97 rfl ?_
  refine g_imul hC dX0_becomeDual_100 rfl ?_
  refine g_isub hC dX0_becomeDual_101 rfl ?_
  refine g_imul hC dX0_becomeDual_102 rfl ?_
  refine g_iconst (v := 2) hC dX0_becomeDual_103 rfl ic_2 ?_
  refine g_aload_n hC dX0_becomeDual_104 rfl 0 rfl ?_
  refine fg_2_3 hC hj1 k_238 dX0_becomeDual_105 rfl ?_
  refine g_aload_n hC dX0_becomeDual_108 rfl 0 rfl ?_
  refine fg_2_5 hC hj1 k_242 dX0_becomeDual_109 rfl ?_
  refine g_imul hC dX0_becomeDual_112 rfl ?_
  refine g_iconst (v := 2) hC dX0_becomeDual_113 rfl ic_2 ?_
  refine g_aload_n hC dX0_becomeDual_114 rfl 0 rfl ?_
  refine fg_2_1 hC hj1 k_234 dX0_becomeDual_115 rfl ?_
  refine g_imul hC dX0_becomeDual_118 rfl ?_
  refine g_aload_n hC dX0_becomeDual_119 rfl 0 rfl ?_
  refine fg_2_4 hC hj1 k_240 dX0_becomeDual_120 rfl ?_
  refine g_imul hC dX0_becomeDual_123 rfl ?_
  refine g_isub hC dX0_becomeDual_124 rfl ?_
  refine g_imul hC dX0_becomeDual_125 rfl ?_
  refine g_iconst (v := 2) hC dX0_becomeDual_126 rfl ic_2 ?_
  refine g_aload_n hC dX0_becomeDual_127 rfl 0 rfl ?_
  refine fg_2_3 hC hj1 k_238 dX0_becomeDual_128 rfl ?_
  refine g_aload_n hC dX0_becomeDual_131 rfl 0 rfl ?_
  refine fg_2_4 hC hj1 k_240 dX0_becomeDual_132 rfl ?_
  refine g_imul hC dX0_becomeDual_135 rfl ?_
  refine g_iconst (v := 2) hC dX0_becomeDual_136 rfl ic_2 ?_
  refine g_aload_n hC dX0_becomeDual_137 rfl 0 rfl ?_
  refine fg_2_2 hC hj1 k_236 dX0_becomeDual_138 rfl ?_
  refine g_imul hC dX0_becomeDual_141 rfl ?_
  refine g_aload_n hC dX0_becomeDual_142 rfl 0 rfl ?_
  refine fg_2_5 hC hj1 k_242 dX0_becomeDual_143 rfl ?_
  refine g_imul hC dX0_becomeDual_146 rfl ?_
  refine g_isub hC dX0_becomeDual_147 rfl ?_
  refine g_imul hC dX0_becomeDual_148 rfl ?_
  refine g_callVv0 (As := [.int (((((4 : Int32) * (σ2 j1 1)) * (σ2 j1 2)) - ((σ2 j1 3) * (σ2 j1 3)))), .int (((((4 : Int32) * (σ2 j1 0)) * (σ2 j1 2)) - ((σ2 j1 4) * (σ2 j1 4)))), .int (((((4 : Int32) * (σ2 j1 0)) * (σ2 j1 1)) - ((σ2 j1 5) * (σ2 j1 5)))), .int (((2 : Int32) * (((σ2 j1 4) * (σ2 j1 5)) - (((2 : Int32) * (σ2 j1 0)) * (σ2 j1 3))))), .int (((2 : Int32) * (((σ2 j1 3) * (σ2 j1 5)) - (((2 : Int32) * (σ2 j1 1)) * (σ2 j1 4))))), .int (((2 : Int32) * (((σ2 j1 3) * (σ2 j1 4)) - (((2 : Int32) * (σ2 j1 2)) * (σ2 j1 5)))))]) (st' := []) (k := j3) (L' := 0) hC Y_X3_fill I_X3_fill k_734 ⟨by decide, by decide⟩ hj3 (ci := 2) (by decide) rfl dX0_becomeDual_149 rfl rfl rfl (Nat.le_of_ble_eq_true rfl) ⟨Nat.zero_le _, Nat.zero_le _⟩ hM (fun c hc => c_X3_fill (xE X) j3 hj3 (((((4 : Int32) * (σ2 j1 1)) * (σ2 j1 2)) - ((σ2 j1 3) * (σ2 j1 3)))) (((((4 : Int32) * (σ2 j1 0)) * (σ2 j1 2)) - ((σ2 j1 4) * (σ2 j1 4)))) (((((4 : Int32) * (σ2 j1 0)) * (σ2 j1 1)) - ((σ2 j1 5) * (σ2 j1 5)))) (((2 : Int32) * (((σ2 j1 4) * (σ2 j1 5)) - (((2 : Int32) * (σ2 j1 0)) * (σ2 j1 3))))) (((2 : Int32) * (((σ2 j1 3) * (σ2 j1 5)) - (((2 : Int32) * (σ2 j1 1)) * (σ2 j1 4))))) (((2 : Int32) * (((σ2 j1 3) * (σ2 j1 4)) - (((2 : Int32) * (σ2 j1 2)) * (σ2 j1 5))))) c hc) (fun c4 hM => ?_)
  refine g_aload_n hC dX0_becomeDual_152 rfl 1 rfl ?_
  refine fg_0_0 hC h0 k_321 dX0_becomeDual_153 rfl hM (fun j5 hj5 hM => ?_)
  refine g_aload_n hC dX0_becomeDual_156 rfl 1 rfl ?_
  refine fg_0_1 hC h0 k_325 dX0_becomeDual_157 rfl ?_
  refine g_callVv0 (As := [.int ((c4 a0 1))]) (st' := []) (k := j5) (L' := 2) hC Y_X3_reduce I_X3_reduce k_694 ⟨by decide, by decide⟩ hj5 (ci := 2) (by decide) rfl dX0_becomeDual_160 rfl rfl rfl (Nat.le_of_ble_eq_true rfl) ⟨Nat.zero_le _, Nat.zero_le _⟩ hM (fun c hc => c_X3_reduce (xE X) j5 hj5 ((c4 a0 1)) c hc) (fun c6 hM => ?_)
  cases hM
  exact g_retv hR dX0_becomeDual_163 rfl
def MX3_copy (σ : Sto) (a0 : Nat) (a1 : Nat) : Option (Sto) :=
  Option.bind (MX3_fill σ a0 ((σ a1 0)) ((σ a1 1)) ((σ a1 2)) ((σ a1 3)) ((σ a1 4)) ((σ a1 5))) fun c1 =>
  some c1
set_option maxHeartbeats 4000000 in
set_option maxRecDepth 100000 in
theorem c_X3_copy (E : EX) {n : Nat} {ρ : Rho} {σ : Sto} (a0 : Nat) (h0 : Sh n a0 2) (a1 : Nat) (h1 : Sh n a1 2) (res : Sto) (hM : MX3_copy σ a0 a1 = some res) : CTv E yX3_copy cX3_copy 2 1 0 0 [.ref (eb E + a0), .ref (eb E + a1)] n σ ρ res ρ := by
  refine ct_v (by decide +kernel) (Nat.le_of_ble_eq_true rfl) (fun X hE hml hin hRm hC hR => ?_)
  subst hE
  show G X 0 0 n σ ρ 0 [(0, vr X a0), (1, vr X a1)] []
  replace hC : Cx X cX3_copy RX3 1 := hC
  unfold MX3_copy at hM
  refine g_aload_n hC dX3_copy_0 rfl 0 rfl ?_
  refine g_aload_n hC dX3_copy_1 rfl 1 rfl ?_
  refine fg_2_0 hC h1 k_231 dX3_copy_2 rfl ?_
  refine g_aload_n hC dX3_copy_5 rfl 1 rfl ?_
  refine fg_2_1 hC h1 k_233 dX3_copy_6 rfl ?_
  refine g_aload_n hC dX3_copy_9 rfl 1 rfl ?_
  refine fg_2_2 hC h1 k_235 dX3_copy_10 rfl ?_
  refine g_aload_n hC dX3_copy_13 rfl 1 rfl ?_
  refine fg_2_3 hC h1 k_237 dX3_copy_14 rfl ?_
  refine g_aload_n hC dX3_copy_17 rfl 1 rfl ?_
  refine fg_2_4 hC h1 k_239 dX3_copy_18 rfl ?_
  refine g_aload_n hC dX3_copy_21 rfl 1 rfl ?_
  refine fg_2_5 hC h1 k_241 dX3_copy_22 rfl ?_
  refine g_callVv0 (As := [.int ((σ a1 0)), .int ((σ a1 1)), .int ((σ a1 2)), .int ((σ a1 3)), .int ((σ a1 4)), .int ((σ a1 5))]) (st' := []) (k := a0) (L' := 0) hC Y_X3_fill I_X3_fill k_593 ⟨by decide, by decide⟩ h0 (ci := 2) (by decide) rfl dX3_copy_25 rfl rfl rfl (Nat.le_of_ble_eq_true rfl) ⟨Nat.zero_le _, Nat.zero_le _⟩ hM (fun c hc => c_X3_fill (xE X) a0 h0 ((σ a1 0)) ((σ a1 1)) ((σ a1 2)) ((σ a1 3)) ((σ a1 4)) ((σ a1 5)) c hc) (fun c1 hM => ?_)
  cases hM
  exact g_retv hR dX3_copy_28 rfl
def MX3_blend (σ : Sto) (a0 : Nat) (a1 : Int32) (a2 : Int32) (a3 : Nat) : Option (Sto) :=
  Option.bind (MX3_fill σ a0 (((a1 * (σ a0 0)) + (a2 * (σ a3 0)))) (((a1 * (σ a0 1)) + (a2 * (σ a3 1)))) (((a1 * (σ a0 2)) + (a2 * (σ a3 2)))) (((a1 * (σ a0 3)) + (a2 * (σ a3 3)))) (((a1 * (σ a0 4)) + (a2 * (σ a3 4)))) (((a1 * (σ a0 5)) + (a2 * (σ a3 5))))) fun c1 =>
  some c1
set_option maxHeartbeats 4000000 in
set_option maxRecDepth 100000 in
theorem c_X3_blend (E : EX) {n : Nat} {ρ : Rho} {σ : Sto} (a0 : Nat) (h0 : Sh n a0 2) (a1 : Int32) (a2 : Int32) (a3 : Nat) (h3 : Sh n a3 2) (res : Sto) (hM : MX3_blend σ a0 a1 a2 a3 = some res) : CTv E yX3_blend cX3_blend 4 1 0 0 [.ref (eb E + a0), .int a1, .int a2, .ref (eb E + a3)] n σ ρ res ρ := by
  refine ct_v (by decide +kernel) (Nat.le_of_ble_eq_true rfl) (fun X hE hml hin hRm hC hR => ?_)
  subst hE
  show G X 0 0 n σ ρ 0 [(0, vr X a0), (1, .int a1), (2, .int a2), (3, vr X a3)] []
  replace hC : Cx X cX3_blend RX3 1 := hC
  unfold MX3_blend at hM
  refine g_aload_n hC dX3_blend_0 rfl 0 rfl ?_
  refine g_iload_n hC dX3_blend_1 rfl 1 rfl ?_
  refine g_aload_n hC dX3_blend_2 rfl 0 rfl ?_
  refine fg_2_0 hC h0 k_231 dX3_blend_3 rfl ?_
  refine g_imul hC dX3_blend_6 rfl ?_
  refine g_iload_n hC dX3_blend_7 rfl 2 rfl ?_
  refine g_aload_n hC dX3_blend_8 rfl 3 rfl ?_
  refine fg_2_0 hC h3 k_231 dX3_blend_9 rfl ?_
  refine g_imul hC dX3_blend_12 rfl ?_
  refine g_iadd hC dX3_blend_13 rfl ?_
  refine g_iload_n hC dX3_blend_14 rfl 1 rfl ?_
  refine g_aload_n hC dX3_blend_15 rfl 0 rfl ?_
  refine fg_2_1 hC h0 k_233 dX3_blend_16 rfl ?_
  refine g_imul hC dX3_blend_19 rfl ?_
  refine g_iload_n hC dX3_blend_20 rfl 2 rfl ?_
  refine g_aload_n hC dX3_blend_21 rfl 3 rfl ?_
  refine fg_2_1 hC h3 k_233 dX3_blend_22 rfl ?_
  refine g_imul hC dX3_blend_25 rfl ?_
  refine g_iadd hC dX3_blend_26 rfl ?_
  refine g_iload_n hC dX3_blend_27 rfl 1 rfl ?_
  refine g_aload_n hC dX3_blend_28 rfl 0 rfl ?_
  refine fg_2_2 hC h0 k_235 dX3_blend_29 rfl ?_
  refine g_imul hC dX3_blend_32 rfl ?_
  refine g_iload_n hC dX3_blend_33 rfl 2 rfl ?_
  refine g_aload_n hC dX3_blend_34 rfl 3 rfl ?_
  refine fg_2_2 hC h3 k_235 dX3_blend_35 rfl ?_
  refine g_imul hC dX3_blend_38 rfl ?_
  refine g_iadd hC dX3_blend_39 rfl ?_
  refine g_iload_n hC dX3_blend_40 rfl 1 rfl ?_
  refine g_aload_n hC dX3_blend_41 rfl 0 rfl ?_
  refine fg_2_3 hC h0 k_237 dX3_blend_42 rfl ?_
  refine g_imul hC dX3_blend_45 rfl ?_
  refine g_iload_n hC dX3_blend_46 rfl 2 rfl ?_
  refine g_aload_n hC dX3_blend_47 rfl 3 rfl ?_
  refine fg_2_3 hC h3 k_237 dX3_blend_48 rfl ?_
  refine g_imul hC dX3_blend_51 rfl ?_
  refine g_iadd hC dX3_blend_52 rfl ?_
  refine g_iload_n hC dX3_blend_53 rfl 1 rfl ?_
  refine g_aload_n hC dX3_blend_54 rfl 0 rfl ?_
  refine fg_2_4 hC h0 k_239 dX3_blend_55 rfl ?_
  refine g_imul hC dX3_blend_58 rfl ?_
  refine g_iload_n hC dX3_blend_59 rfl 2 rfl ?_
  refine g_aload_n hC dX3_blend_60 rfl 3 rfl ?_
  refine fg_2_4 hC h3 k_239 dX3_blend_61 rfl ?_
  refine g_imul hC dX3_blend_64 rfl ?_
  refine g_iadd hC dX3_blend_65 rfl ?_
  refine g_iload_n hC dX3_blend_66 rfl 1 rfl ?_
  refine g_aload_n hC dX3_blend_67 rfl 0 rfl ?_
  refine fg_2_5 hC h0 k_241 dX3_blend_68 rfl ?_
  refine g_imul hC dX3_blend_71 rfl ?_
  refine g_iload_n hC dX3_blend_72 rfl 2 rfl ?_
  refine g_aload_n hC dX3_blend_73 rfl 3 rfl ?_
  refine fg_2_5 hC h3 k_241 dX3_blend_74 rfl ?_
  refine g_imul hC dX3_blend_77 rfl ?_
  refine g_iadd hC dX3_blend_78 rfl ?_
  refine g_callVv0 (As := [.int (((a1 * (σ a0 0)) + (a2 * (σ a3 0)))), .int (((a1 * (σ a0 1)) + (a2 * (σ a3 1)))), .int (((a1 * (σ a0 2)) + (a2 * (σ a3 2)))), .int (((a1 * (σ a0 3)) + (a2 * (σ a3 3)))), .int (((a1 * (σ a0 4)) + (a2 * (σ a3 4)))), .int (((a1 * (σ a0 5)) + (a2 * (σ a3 5))))]) (st' := []) (k := a0) (L' := 0) hC Y_X3_fill I_X3_fill k_593 ⟨by decide, by decide⟩ h0 (ci := 2) (by decide) rfl dX3_blend_79 rfl rfl rfl (Nat.le_of_ble_eq_true rfl) ⟨Nat.zero_le _, Nat.zero_le _⟩ hM (fun c hc => c_X3_fill (xE X) a0 h0 (((a1 * (σ a0 0)) + (a2 * (σ a3 0)))) (((a1 * (σ a0 1)) + (a2 * (σ a3 1)))) (((a1 * (σ a0 2)) + (a2 * (σ a3 2)))) (((a1 * (σ a0 3)) + (a2 * (σ a3 3)))) (((a1 * (σ a0 4)) + (a2 * (σ a3 4)))) (((a1 * (σ a0 5)) + (a2 * (σ a3 5)))) c hc) (fun c1 hM => ?_)
  cases hM
  exact g_retv hR dX3_blend_82 rfl
def MX0_mix (σ : Sto) (ρ : Rho) (a0 : Nat) (a1 : Nat) (a2 : Int32) (a3 : Nat) : Option (Sto) :=
  bn (su σ a0 1 ((σ a1 1))) fun σ1 =>
  Option.bind (ρ a0 0) fun j2 =>
  Option.bind (ρ a1 0) fun j3 =>
  Option.bind (MX3_copy σ1 j2 j3) fun c4 =>
  Option.bind (ρ a0 0) fun j5 =>
  Option.bind (ρ a3 0) fun j6 =>
  Option.bind (MX3_blend c4 j5 a2 ((1 : Int32)) j6) fun c7 =>
  Option.bind (ρ a0 0) fun j8 =>
  Option.bind (MX3_reduce c7 j8 ((c7 a0 1))) fun c9 =>
  some c9
set_option maxHeartbeats 4000000 in
set_option maxRecDepth 100000 in
theorem c_X0_mix (E : EX) {n : Nat} {σ : Sto} {ρ : Rho} (a0 : Nat) (h0 : Sh n a0 0) (a1 : Nat) (h1 : Sh n a1 0) (a2 : Int32) (a3 : Nat) (h3 : Sh n a3 0) (res : Sto) (hM : MX0_mix σ ρ a0 a1 a2 a3 = some res) : CTv E yX0_mix cX0_mix 4 3 0 0 [.ref (eb E + a0), .ref (eb E + a1), .int a2, .ref (eb E + a3)] n σ ρ res ρ := by
  refine ct_v (by decide +kernel) (Nat.le_of_ble_eq_true rfl) (fun X hE hml hin hRm hC hR => ?_)
  subst hE
  show G X 0 0 n σ ρ 0 [(0, vr X a0), (1, vr X a1), (2, .int a2), (3, vr X a3)] []
  replace hC : Cx X cX0_mix RX0 3 := hC
  unfold MX0_mix at hM
  refine g_aload_n hC dX0_mix_0 rfl 0 rfl ?_
  refine g_aload_n hC dX0_mix_1 rfl 1 rfl ?_
  refine fg_0_1 hC h1 k_325 dX0_mix_2 rfl ?_
  refine fp_0_1 hC h0 k_325 dX0_mix_5 rfl hM (fun σ1 hM => ?_)
  refine g_aload_n hC dX0_mix_8 rfl 0 rfl ?_
  refine fg_0_0 hC h0 k_321 dX0_mix_9 rfl hM (fun j2 hj2 hM => ?_)
  refine g_aload_n hC dX0_mix_12 rfl 1 rfl ?_
  refine fg_0_0 hC h1 k_321 dX0_mix_13 rfl hM (fun j3 hj3 hM => ?_)
  refine g_callVv0 (As := [vr X j3]) (st' := []) (k := j2) (L' := 1) hC Y_X3_copy I_X3_copy k_992 ⟨by decide, by decide⟩ hj2 (ci := 2) (by decide) rfl dX0_mix_16 rfl rfl rfl (Nat.le_of_ble_eq_true rfl) ⟨Nat.zero_le _, Nat.zero_le _⟩ hM (fun c hc => c_X3_copy (xE X) j2 hj2 j3 hj3 c hc) (fun c4 hM => ?_)
  refine g_aload_n hC dX0_mix_19 rfl 0 rfl ?_
  refine fg_0_0 hC h0 k_321 dX0_mix_20 rfl hM (fun j5 hj5 hM => ?_)
  refine g_iload_n hC dX0_mix_23 rfl 2 rfl ?_
  refine g_iconst (v := 1) hC dX0_mix_24 rfl ic_1 ?_
  refine g_aload_n hC dX0_mix_25 rfl 3 rfl ?_
  refine fg_0_0 hC h3 k_321 dX0_mix_26 rfl hM (fun j6 hj6 hM => ?_)
  refine g_callVv0 (As := [.int a2, .int ((1 : Int32)), vr X j6]) (st' := []) (k := j5) (L' := 1) hC Y_X3_blend I_X3_blend k_993 ⟨by decide, by decide⟩ hj5 (ci := 2) (by decide) rfl dX0_mix_29 rfl rfl rfl (Nat.le_of_ble_eq_true rfl) ⟨Nat.zero_le _, Nat.zero_le _⟩ hM (fun c hc => c_X3_blend (xE X) j5 hj5 a2 ((1 : Int32)) j6 hj6 c hc) (fun c7 hM => ?_)
  refine g_aload_n hC dX0_mix_32 rfl 0 rfl ?_
  refine fg_0_0 hC h0 k_321 dX0_mix_33 rfl hM (fun j8 hj8 hM => ?_)
  refine g_aload_n hC dX0_mix_36 rfl 0 rfl ?_
  refine fg_0_1 hC h0 k_325 dX0_mix_37 rfl ?_
  refine g_callVv0 (As := [.int ((c7 a0 1))]) (st' := []) (k := j8) (L' := 2) hC Y_X3_reduce I_X3_reduce k_694 ⟨by decide, by decide⟩ hj8 (ci := 2) (by decide) rfl dX0_mix_40 rfl rfl rfl (Nat.le_of_ble_eq_true rfl) ⟨Nat.zero_le _, Nat.zero_le _⟩ hM (fun c hc => c_X3_reduce (xE X) j8 hj8 ((c7 a0 1)) c hc) (fun c9 hM => ?_)
  cases hM
  exact g_retv hR dX0_mix_43 rfl
def MX0_valueAt (σ : Sto) (ρ : Rho) (a0 : Nat) (a1 : Nat) : Option (Int32) :=
  bn ((σ a1 0)) fun y1 =>
  bn ((σ a1 1)) fun y2 =>
  bn ((σ a1 2)) fun y3 =>
  Option.bind (ρ a0 0) fun j4 =>
  Option.bind (ρ a0 0) fun j5 =>
  Option.bind (ρ a0 0) fun j6 =>
  Option.bind (ρ a0 0) fun j7 =>
  Option.bind (ρ a0 0) fun j8 =>
  Option.bind (ρ a0 0) fun j9 =>
  Option.bind (MX2_rest (((((((((σ j4 0) * y1) * y1) + (((σ j5 1) * y2) * y2)) + (((σ j6 2) * y3) * y3)) + (((σ j7 3) * y2) * y3)) + (((σ j8 4) * y3) * y1)) + (((σ j9 5) * y1) * y2))) ((σ a0 1))) fun c10 =>
  some c10
set_option maxHeartbeats 4000000 in
set_option maxRecDepth 100000 in
theorem c_X0_valueAt (E : EX) {n : Nat} {σ : Sto} {ρ : Rho} (a0 : Nat) (h0 : Sh n a0 0) (a1 : Nat) (h1 : Sh n a1 9) (res : Int32) (hM : MX0_valueAt σ ρ a0 a1 = some res) : CTi E yX0_valueAt cX0_valueAt 5 (some .int) 2 [.ref (eb E + a0), .ref (eb E + a1)] n σ ρ res σ ρ := by
  refine ct_i (by decide +kernel) rfl (Nat.le_of_ble_eq_true rfl) (fun X hE hml hC hR => ?_)
  subst hE
  show G X 0 0 n σ ρ 0 [(0, vr X a0), (1, vr X a1)] []
  replace hC : Cx X cX0_valueAt RX0 2 := hC
  unfold MX0_valueAt at hM
  refine g_aload_n hC dX0_valueAt_0 rfl 1 rfl ?_
  refine fg_9_0 hC h1 k_264 dX0_valueAt_1 rfl ?_
  refine g_istore_n hC (fun y1 => [(2, .int y1), (0, vr X a0), (1, vr X a1)]) dX0_valueAt_4 rfl hM hml (by decide) (fun _ => rfl) (fun y1 hM => ?_)
  refine g_aload_n hC dX0_valueAt_5 rfl 2 rfl ?_
  refine fg_9_1 hC h1 k_266 dX0_valueAt_6 rfl ?_
  refine g_istore_n hC (fun y2 => [(3, .int y2), (2, .int y1), (0, vr X a0), (1, vr X a1)]) dX0_valueAt_9 rfl hM hml (by decide) (fun _ => rfl) (fun y2 hM => ?_)
  refine g_aload_n hC dX0_valueAt_10 rfl 3 rfl ?_
  refine fg_9_2 hC h1 k_268 dX0_valueAt_11 rfl ?_
  refine g_istore hC (fun y3 => [(4, .int y3), (3, .int y2), (2, .int y1), (0, vr X a0), (1, vr X a1)]) dX0_valueAt_14 rfl hM hml (by decide) (fun _ => rfl) (fun y3 hM => ?_)
  refine g_aload_n hC dX0_valueAt_16 rfl 3 rfl ?_
  refine fg_0_0 hC h0 k_321 dX0_valueAt_17 rfl hM (fun j4 hj4 hM => ?_)
  refine fg_2_0 hC hj4 k_232 dX0_valueAt_20 rfl ?_
  refine g_iload_n hC dX0_valueAt_23 rfl 2 rfl ?_
  refine g_imul hC dX0_valueAt_24 rfl ?_
  refine g_iload_n hC dX0_valueAt_25 rfl 2 rfl ?_
  refine g_imul hC dX0_valueAt_26 rfl ?_
  refine g_aload_n hC dX0_valueAt_27 rfl 3 rfl ?_
  refine fg_0_0 hC h0 k_321 dX0_valueAt_28 rfl hM (fun j5 hj5 hM => ?_)
  refine fg_2_1 hC hj5 k_234 dX0_valueAt_31 rfl ?_
  refine g_iload_n hC dX0_valueAt_34 rfl 1 rfl ?_
  refine g_imul hC dX0_valueAt_35 rfl ?_
  refine g_iload_n hC dX0_valueAt_36 rfl 1 rfl ?_
  refine g_imul hC dX0_valueAt_37 rfl ?_
  refine g_iadd hC dX0_valueAt_38 rfl ?_
  refine g_aload_n hC dX0_valueAt_39 rfl 3 rfl ?_
  refine fg_0_0 hC h0 k_321 dX0_valueAt_40 rfl hM (fun j6 hj6 hM => ?_)
  refine fg_2_2 hC hj6 k_236 dX0_valueAt_43 rfl ?_
  refine g_iload hC dX0_valueAt_46 rfl 0 rfl ?_
  refine g_imul hC dX0_valueAt_48 rfl ?_
  refine g_iload hC dX0_valueAt_49 rfl 0 rfl ?_
  refine g_imul hC dX0_valueAt_51 rfl ?_
  refine g_iadd hC dX0_valueAt_52 rfl ?_
  refine g_aload_n hC dX0_valueAt_53 rfl 3 rfl ?_
  refine fg_0_0 hC h0 k_321 dX0_valueAt_54 rfl hM (fun j7 hj7 hM => ?_)
  refine fg_2_3 hC hj7 k_238 dX0_valueAt_57 rfl ?_
  refine g_iload_n hC dX0_valueAt_60 rfl 1 rfl ?_
  refine g_imul hC dX0_valueAt_61 rfl ?_
  refine g_iload hC dX0_valueAt_62 rfl 0 rfl ?_
  refine g_imul hC dX0_valueAt_64 rfl ?_
  refine g_iadd hC dX0_valueAt_65 rfl ?_
  refine g_aload_n hC dX0_valueAt_66 rfl 3 rfl ?_
  refine fg_0_0 hC h0 k_321 dX0_valueAt_67 rfl hM (fun j8 hj8 hM => ?_)
  refine fg_2_4 hC hj8 k_240 dX0_valueAt_70 rfl ?_
  refine g_iload hC dX0_valueAt_73 rfl 0 rfl ?_
  refine g_imul hC dX0_valueAt_75 rfl ?_
  refine g_iload_n hC dX0_valueAt_76 rfl 2 rfl ?_
  refine g_imul hC dX0_valueAt_77 rfl ?_
  refine g_iadd hC dX0_valueAt_78 rfl ?_
  refine g_aload_n hC dX0_valueAt_79 rfl 3 rfl ?_
  refine fg_0_0 hC h0 k_321 dX0_valueAt_80 rfl hM (fun j9 hj9 hM => ?_)
  refine fg_2_5 hC hj9 k_242 dX0_valueAt_83 rfl ?_
  refine g_iload_n hC dX0_valueAt_86 rfl 2 rfl ?_
  refine g_imul hC dX0_valueAt_87 rfl ?_
  refine g_iload_n hC dX0_valueAt_88 rfl 1 rfl ?_
  refine g_imul hC dX0_valueAt_89 rfl ?_
  refine g_iadd hC dX0_valueAt_90 rfl ?_
  refine g_aload_n hC dX0_valueAt_91 rfl 3 rfl ?_
  refine fg_0_1 hC h0 k_325 dX0_valueAt_92 rfl ?_
  refine g_callSi (As := [.int (((((((((σ j4 0) * y1) * y1) + (((σ j5 1) * y2) * y2)) + (((σ j6 2) * y3) * y3)) + (((σ j7 3) * y2) * y3)) + (((σ j8 4) * y3) * y1)) + (((σ j9 5) * y1) * y2))), .int ((σ a0 1))]) (st' := []) (L' := 1) hC Y_X2_rest k_699 k_717 ⟨by decide, by decide⟩ dX0_valueAt_95 rfl rfl rfl (Nat.le_of_ble_eq_true rfl) ⟨Nat.zero_le _, Nat.zero_le _⟩ hM (fun c hc => c_X2_rest (xE X) (((((((((σ j4 0) * y1) * y1) + (((σ j5 1) * y2) * y2)) + (((σ j6 2) * y3) * y3)) + (((σ j7 3) * y2) * y3)) + (((σ j8 4) * y3) * y1)) + (((σ j9 5) * y1) * y2))) ((σ a0 1)) c hc) (fun c10 hM => ?_)
  cases hM
  exact g_reti hR dX0_valueAt_98 rfl
def MX10_fill (σ : Sto) (a0 : Nat) (a1 : Int32) (a2 : Int32) (a3 : Int32) : Option (Sto) :=
  bn (su σ a0 0 a1) fun σ1 =>
  bn (su σ1 a0 1 a2) fun σ2 =>
  bn (su σ2 a0 2 a3) fun σ3 =>
  some σ3
set_option maxHeartbeats 4000000 in
set_option maxRecDepth 100000 in
theorem c_X10_fill (E : EX) {n : Nat} {ρ : Rho} {σ : Sto} (a0 : Nat) (h0 : Sh n a0 9) (a1 : Int32) (a2 : Int32) (a3 : Int32) (res : Sto) (hM : MX10_fill σ a0 a1 a2 a3 = some res) : CTv E yX10_fill cX10_fill 4 0 0 0 [.ref (eb E + a0), .int a1, .int a2, .int a3] n σ ρ res ρ := by
  refine ct_v (by decide +kernel) (Nat.le_of_ble_eq_true rfl) (fun X hE hml hin hRm hC hR => ?_)
  subst hE
  show G X 0 0 n σ ρ 0 [(0, vr X a0), (1, .int a1), (2, .int a2), (3, .int a3)] []
  replace hC : Cx X cX10_fill RX10 0 := hC
  unfold MX10_fill at hM
  refine g_aload_n hC dX10_fill_0 rfl 0 rfl ?_
  refine g_iload_n hC dX10_fill_1 rfl 1 rfl ?_
  refine fp_9_0 hC h0 k_263 dX10_fill_2 rfl hM (fun σ1 hM => ?_)
  refine g_aload_n hC dX10_fill_5 rfl 0 rfl ?_
  refine g_iload_n hC dX10_fill_6 rfl 2 rfl ?_
  refine fp_9_1 hC h0 k_265 dX10_fill_7 rfl hM (fun σ2 hM => ?_)
  refine g_aload_n hC dX10_fill_10 rfl 0 rfl ?_
  refine g_iload_n hC dX10_fill_11 rfl 3 rfl ?_
  refine fp_9_2 hC h0 k_267 dX10_fill_12 rfl hM (fun σ3 hM => ?_)
  cases hM
  exact g_retv hR dX10_fill_15 rfl
def MX0_polarOf (σ : Sto) (ρ : Rho) (a0 : Nat) (a1 : Nat) (a2 : Nat) : Option (Sto) :=
  bn ((σ a1 0)) fun y1 =>
  bn ((σ a1 1)) fun y2 =>
  bn ((σ a1 2)) fun y3 =>
  Option.bind (ρ a0 0) fun j4 =>
  Option.bind (ρ a0 0) fun j5 =>
  Option.bind (ρ a0 0) fun j6 =>
  Option.bind (ρ a0 0) fun j7 =>
  Option.bind (ρ a0 0) fun j8 =>
  Option.bind (ρ a0 0) fun j9 =>
  Option.bind (ρ a0 0) fun j10 =>
  Option.bind (ρ a0 0) fun j11 =>
  Option.bind (ρ a0 0) fun j12 =>
  Option.bind (MX10_fill σ a2 ((((((2 : Int32) * (σ j4 0)) * y1) + ((σ j5 5) * y2)) + ((σ j6 4) * y3))) (((((σ j7 5) * y1) + (((2 : Int32) * (σ j8 1)) * y2)) + ((σ j9 3) * y3))) (((((σ j10 4) * y1) + ((σ j11 3) * y2)) + (((2 : Int32) * (σ j12 2)) * y3)))) fun c13 =>
  some c13
set_option maxHeartbeats 4000000 in
set_option maxRecDepth 100000 in
theorem c_X0_polarOf (E : EX) {n : Nat} {σ : Sto} {ρ : Rho} (a0 : Nat) (h0 : Sh n a0 0) (a1 : Nat) (h1 : Sh n a1 9) (a2 : Nat) (h2 : Sh n a2 9) (res : Sto) (hM : MX0_polarOf σ ρ a0 a1 a2 = some res) : CTv E yX0_polarOf cX0_polarOf 6 1 0 0 [.ref (eb E + a0), .ref (eb E + a1), .ref (eb E + a2)] n σ ρ res ρ := by
  refine ct_v (by decide +kernel) (Nat.le_of_ble_eq_true rfl) (fun X hE hml hin hRm hC hR => ?_)
  subst hE
  show G X 0 0 n σ ρ 0 [(0, vr X a0), (1, vr X a1), (2, vr X a2)] []
  replace hC : Cx X cX0_polarOf RX0 1 := hC
  unfold MX0_polarOf at hM
  refine g_aload_n hC dX0_polarOf_0 rfl 1 rfl ?_
  refine fg_9_0 hC h1 k_264 dX0_polarOf_1 rfl ?_
  refine g_istore_n hC (fun y1 => [(3, .int y1), (0, vr X a0), (1, vr X a1), (2, vr X a2)]) dX0_polarOf_4 rfl hM hml (by decide) (fun _ => rfl) (fun y1 hM => ?_)
  refine g_aload_n hC dX0_polarOf_5 rfl 2 rfl ?_
  refine fg_9_1 hC h1 k_266 dX0_polarOf_6 rfl ?_
  refine g_istore hC (fun y2 => [(4, .int y2), (3, .int y1), (0, vr X a0), (1, vr X a1), (2, vr X a2)]) dX0_polarOf_9 rfl hM hml (by decide) (fun _ => rfl) (fun y2 hM => ?_)
  refine g_aload_n hC dX0_polarOf_11 rfl 3 rfl ?_
  refine fg_9_2 hC h1 k_268 dX0_polarOf_12 rfl ?_
  refine g_istore hC (fun y3 => [(5, .int y3), (4, .int y2), (3, .int y1), (0, vr X a0), (1, vr X a1), (2, vr X a2)]) dX0_polarOf_15 rfl hM hml (by decide) (fun _ => rfl) (fun y3 hM => ?_)
  refine g_aload_n hC dX0_polarOf_17 rfl 5 rfl ?_
  refine g_iconst (v := 2) hC dX0_polarOf_18 rfl ic_2 ?_
  refine g_aload_n hC dX0_polarOf_19 rfl 3 rfl ?_
  refine fg_0_0 hC h0 k_321 dX0_polarOf_20 rfl hM (fun j4 hj4 hM => ?_)
  refine fg_2_0 hC hj4 k_232 dX0_polarOf_23 rfl ?_
  refine g_imul hC dX0_polarOf_26 rfl ?_
  refine g_iload_n hC dX0_polarOf_27 rfl 2 rfl ?_
  refine g_imul hC dX0_polarOf_28 rfl ?_
  refine g_aload_n hC dX0_polarOf_29 rfl 3 rfl ?_
  refine fg_0_0 hC h0 k_321 dX0_polarOf_30 rfl hM (fun j5 hj5 hM => ?_)
  refine fg_2_5 hC hj5 k_242 dX0_polarOf_33 rfl ?_
  refine g_iload hC dX0_polarOf_36 rfl 1 rfl ?_
  refine g_imul hC dX0_polarOf_38 rfl ?_
  refine g_iadd hC dX0_polarOf_39 rfl ?_
  refine g_aload_n hC dX0_polarOf_40 rfl 3 rfl ?_
  refine fg_0_0 hC h0 k_321 dX0_polarOf_41 rfl hM (fun j6 hj6 hM => ?_)
  refine fg_2_4 hC hj6 k_240 dX0_polarOf_44 rfl ?_
  refine g_iload hC dX0_polarOf_47 rfl 0 rfl ?_
  refine g_imul hC dX0_polarOf_49 rfl ?_
  refine g_iadd hC dX0_polarOf_50 rfl ?_
  refine g_aload_n hC dX0_polarOf_51 rfl 3 rfl ?_
  refine fg_0_0 hC h0 k_321 dX0_polarOf_52 rfl hM (fun j7 hj7 hM => ?_)
  refine fg_2_5 hC hj7 k_242 dX0_polarOf_55 rfl ?_
  refine g_iload_n hC dX0_polarOf_58 rfl 2 rfl ?_
  refine g_imul hC dX0_polarOf_59 rfl ?_
  refine g_iconst (v := 2) hC dX0_polarOf_60 rfl ic_2 ?_
  refine g_aload_n hC dX0_polarOf_61 rfl 3 rfl ?_
  refine fg_0_0 hC h0 k_321 dX0_polarOf_62 rfl hM (fun j8 hj8 hM => ?_)
  refine fg_2_1 hC hj8 k_234 dX0_polarOf_65 rfl ?_
  refine g_imul hC dX0_polarOf_68 rfl ?_
  refine g_iload hC dX0_polarOf_69 rfl 1 rfl ?_
  refine g_imul hC dX0_polarOf_71 rfl ?_
  refine g_iadd hC dX0_polarOf_72 rfl ?_
  refine g_aload_n hC dX0_polarOf_73 rfl 3 rfl ?_
  refine fg_0_0 hC h0 k_321 dX0_polarOf_74 rfl hM (fun j9 hj9 hM => ?_)
  refine fg_2_3 hC hj9 k_238 dX0_polarOf_77 rfl ?_
  refine g_iload hC dX0_polarOf_80 rfl 0 rfl ?_
  refine g_imul hC dX0_polarOf_82 rfl ?_
  refine g_iadd hC dX0_polarOf_83 rfl ?_
  refine g_aload_n hC dX0_polarOf_84 rfl 3 rfl ?_
  refine fg_0_0 hC h0 k_321 dX0_polarOf_85 rfl hM (fun j10 hj10 hM => ?_)
  refine fg_2_4 hC hj10 k_240 dX0_polarOf_88 rfl ?_
  refine g_iload_n hC dX0_polarOf_91 rfl 2 rfl ?_
  refine g_imul hC dX0_polarOf_92 rfl ?_
  refine g_aload_n hC dX0_polarOf_93 rfl 3 rfl ?_
  refine fg_0_0 hC h0 k_321 dX0_polarOf_94 rfl hM (fun j11 hj11 hM => ?_)
  refine fg_2_3 hC hj11 k_238 dX0_polarOf_97 rfl ?_
  refine g_iload hC dX0_polarOf_100 rfl 1 rfl ?_
  refine g_imul hC dX0_polarOf_102 rfl ?_
  refine g_iadd hC dX0_polarOf_103 rfl ?_
  refine g_iconst (v := 2) hC dX0_polarOf_104 rfl ic_2 ?_
  refine g_aload_n hC dX0_polarOf_105 rfl 3 rfl ?_
  refine fg_0_0 hC h0 k_321 dX0_polarOf_106 rfl hM (fun j12 hj12 hM => ?_)
  refine fg_2_2 hC hj12 k_236 dX0_polarOf_109 rfl ?_
  refine g_imul hC dX0_polarOf_112 rfl ?_
  refine g_iload hC dX0_polarOf_113 rfl 0 rfl ?_
  refine g_imul hC dX0_polarOf_115 rfl ?_
  refine g_iadd hC dX0_polarOf_116 rfl ?_
  refine g_callVv0 (As := [.int ((((((2 : Int32) * (σ j4 0)) * y1) + ((σ j5 5) * y2)) + ((σ j6 4) * y3))), .int (((((σ j7 5) * y1) + (((2 : Int32) * (σ j8 1)) * y2)) + ((σ j9 3) * y3))), .int (((((σ j10 4) * y1) + ((σ j11 3) * y2)) + (((2 : Int32) * (σ j12 2)) * y3)))]) (st' := []) (k := a2) (L' := 0) hC Y_X10_fill I_X10_fill k_924 ⟨by decide, by decide⟩ h2 (ci := 9) (by decide) rfl dX0_polarOf_117 rfl rfl rfl (Nat.le_of_ble_eq_true rfl) ⟨Nat.zero_le _, Nat.zero_le _⟩ hM (fun c hc => c_X10_fill (xE X) a2 h2 ((((((2 : Int32) * (σ j4 0)) * y1) + ((σ j5 5) * y2)) + ((σ j6 4) * y3))) (((((σ j7 5) * y1) + (((2 : Int32) * (σ j8 1)) * y2)) + ((σ j9 3) * y3))) (((((σ j10 4) * y1) + ((σ j11 3) * y2)) + (((2 : Int32) * (σ j12 2)) * y3))) c hc) (fun c13 hM => ?_)
  cases hM
  exact g_retv hR dX0_polarOf_120 rfl
def MX3_isZero (σ : Sto) (a0 : Nat) : Option (Int32) :=
  if (σ a0 0) = 0 then
    if (σ a0 1) = 0 then
      if (σ a0 2) = 0 then
        if (σ a0 3) = 0 then
          if (σ a0 4) = 0 then
            if (σ a0 5) = 0 then
              zr ((1 : Int32)) (some (1 : Int32))
            else
              zr ((0 : Int32)) (some (0 : Int32))
          else
            zr ((0 : Int32)) (some (0 : Int32))
        else
          zr ((0 : Int32)) (some (0 : Int32))
      else
        zr ((0 : Int32)) (some (0 : Int32))
    else
      zr ((0 : Int32)) (some (0 : Int32))
  else
    zr ((0 : Int32)) (some (0 : Int32))
set_option maxHeartbeats 4000000 in
set_option maxRecDepth 100000 in
theorem c_X3_isZero (E : EX) {n : Nat} {ρ : Rho} {σ : Sto} (a0 : Nat) (h0 : Sh n a0 2) (res : Int32) (hM : MX3_isZero σ a0 = some res) : CTi E yX3_isZero cX3_isZero 1 (some .boolean) 0 [.ref (eb E + a0)] n σ ρ res σ ρ := by
  refine ct_i (by decide +kernel) rfl (Nat.le_of_ble_eq_true rfl) (fun X hE hml hC hR => ?_)
  subst hE
  show G X 0 0 n σ ρ 0 [(0, vr X a0)] []
  replace hC : Cx X cX3_isZero RX3 0 := hC
  unfold MX3_isZero at hM
  refine g_aload_n hC dX3_isZero_0 rfl 0 rfl ?_
  refine fg_2_0 hC h0 k_231 dX3_isZero_1 rfl ?_
  refine g_if_ne (tgt := 46) hC dX3_isZero_4 rfl (by decide) hM (fun hM => ?_) (fun hM => ?_)
  · refine g_iconst (v := 0) hC dX3_isZero_46 rfl ic_0 ?_
    exact g_retz hM dX3_isZero_47 rfl (fun h => by cases h; exact hR)
  · refine g_aload_n hC dX3_isZero_7 rfl 0 rfl ?_
    refine fg_2_1 hC h0 k_233 dX3_isZero_8 rfl ?_
    refine g_if_ne (tgt := 46) hC dX3_isZero_11 rfl (by decide) hM (fun hM => ?_) (fun hM => ?_)
    · refine g_iconst (v := 0) hC dX3_isZero_46 rfl ic_0 ?_
      exact g_retz hM dX3_isZero_47 rfl (fun h => by cases h; exact hR)
    · refine g_aload_n hC dX3_isZero_14 rfl 0 rfl ?_
      refine fg_2_2 hC h0 k_235 dX3_isZero_15 rfl ?_
      refine g_if_ne (tgt := 46) hC dX3_isZero_18 rfl (by decide) hM (fun hM => ?_) (fun hM => ?_)
      · refine g_iconst (v := 0) hC dX3_isZero_46 rfl ic_0 ?_
        exact g_retz hM dX3_isZero_47 rfl (fun h => by cases h; exact hR)
      · refine g_aload_n hC dX3_isZero_21 rfl 0 rfl ?_
        refine fg_2_3 hC h0 k_237 dX3_isZero_22 rfl ?_
        refine g_if_ne (tgt := 46) hC dX3_isZero_25 rfl (by decide) hM (fun hM => ?_) (fun hM => ?_)
        · refine g_iconst (v := 0) hC dX3_isZero_46 rfl ic_0 ?_
          exact g_retz hM dX3_isZero_47 rfl (fun h => by cases h; exact hR)
        · refine g_aload_n hC dX3_isZero_28 rfl 0 rfl ?_
          refine fg_2_4 hC h0 k_239 dX3_isZero_29 rfl ?_
          refine g_if_ne (tgt := 46) hC dX3_isZero_32 rfl (by decide) hM (fun hM => ?_) (fun hM => ?_)
          · refine g_iconst (v := 0) hC dX3_isZero_46 rfl ic_0 ?_
            exact g_retz hM dX3_isZero_47 rfl (fun h => by cases h; exact hR)
          · refine g_aload_n hC dX3_isZero_35 rfl 0 rfl ?_
            refine fg_2_5 hC h0 k_241 dX3_isZero_36 rfl ?_
            refine g_if_ne (tgt := 46) hC dX3_isZero_39 rfl (by decide) hM (fun hM => ?_) (fun hM => ?_)
            · refine g_iconst (v := 0) hC dX3_isZero_46 rfl ic_0 ?_
              exact g_retz hM dX3_isZero_47 rfl (fun h => by cases h; exact hR)
            · refine g_iconst (v := 1) hC dX3_isZero_42 rfl ic_1 ?_
              refine g_goto (tgt := 47) hC dX3_isZero_43 rfl (by decide) ?_
              exact g_retz hM dX3_isZero_47 rfl (fun h => by cases h; exact hR)
def MX3_e (σ : Sto) (a0 : Nat) : Option (Int32) :=
  some ((((((((8 : Int32) * (σ a0 0)) * (σ a0 1)) * (σ a0 2)) + ((((2 : Int32) * (σ a0 3)) * (σ a0 4)) * (σ a0 5))) - ((((2 : Int32) * (σ a0 0)) * (σ a0 3)) * (σ a0 3))) - ((((2 : Int32) * (σ a0 1)) * (σ a0 4)) * (σ a0 4))) - ((((2 : Int32) * (σ a0 2)) * (σ a0 5)) * (σ a0 5)))
set_option maxHeartbeats 4000000 in
set_option maxRecDepth 100000 in
theorem c_X3_e (E : EX) {n : Nat} {ρ : Rho} {σ : Sto} (a0 : Nat) (h0 : Sh n a0 2) (res : Int32) (hM : MX3_e σ a0 = some res) : CTi E yX3_e cX3_e 1 (some .int) 0 [.ref (eb E + a0)] n σ ρ res σ ρ := by
  refine ct_i (by decide +kernel) rfl (Nat.le_of_ble_eq_true rfl) (fun X hE hml hC hR => ?_)
  subst hE
  show G X 0 0 n σ ρ 0 [(0, vr X a0)] []
  replace hC : Cx X cX3_e RX3 0 := hC
  unfold MX3_e at hM
  refine g_bipush (v := 8) hC dX3_e_0 rfl ib_8 ?_
  refine g_aload_n hC dX3_e_2 rfl 0 rfl ?_
  refine fg_2_0 hC h0 k_231 dX3_e_3 rfl ?_
  refine g_imul hC dX3_e_6 rfl ?_
  refine g_aload_n hC dX3_e_7 rfl 0 rfl ?_
  refine fg_2_1 hC h0 k_233 dX3_e_8 rfl ?_
  refine g_imul hC dX3_e_11 rfl ?_
  refine g_aload_n hC dX3_e_12 rfl 0 rfl ?_
  refine fg_2_2 hC h0 k_235 dX3_e_13 rfl ?_
  refine g_imul hC dX3_e_16 rfl ?_
  refine g_iconst (v := 2) hC dX3_e_17 rfl ic_2 ?_
  refine g_aload_n hC dX3_e_18 rfl 0 rfl ?_
  refine fg_2_3 hC h0 k_237 dX3_e_19 rfl ?_
  refine g_imul hC dX3_e_22 rfl ?_
  refine g_aload_n hC dX3_e_23 rfl 0 rfl ?_
  refine fg_2_4 hC h0 k_239 dX3_e_24 rfl ?_
  refine g_imul hC dX3_e_27 rfl ?_
  refine g_aload_n hC dX3_e_28 rfl 0 rfl ?_
  refine fg_2_5 hC h0 k_241 dX3_e_29 rfl ?_
  refine g_imul hC dX3_e_32 rfl ?_
  refine g_iadd hC dX3_e_33 rfl ?_
  refine g_iconst (v := 2) hC dX3_e_34 rfl ic_2 ?_
  refine g_aload_n hC dX3_e_35 rfl 0 rfl ?_
  refine fg_2_0 hC h0 k_231 dX3_e_36 rfl ?_
  refine g_imul hC dX3_e_39 rfl ?_
  refine g_aload_n hC dX3_e_40 rfl 0 rfl ?_
  refine fg_2_3 hC h0 k_237 dX3_e_41 rfl ?_
  refine g_imul hC dX3_e_44 rfl ?_
  refine g_aload_n hC dX3_e_45 rfl 0 rfl ?_
  refine fg_2_3 hC h0 k_237 dX3_e_46 rfl ?_
  refine g_imul hC dX3_e_49 rfl ?_
  refine g_isub hC dX3_e_50 rfl ?_
  refine g_iconst (v := 2) hC dX3_e_51 rfl ic_2 ?_
  refine g_aload_n hC dX3_e_52 rfl 0 rfl ?_
  refine fg_2_1 hC h0 k_233 dX3_e_53 rfl ?_
  refine g_imul hC dX3_e_56 rfl ?_
  refine g_aload_n hC dX3_e_57 rfl 0 rfl ?_
  refine fg_2_4 hC h0 k_239 dX3_e_58 rfl ?_
  refine g_imul hC dX3_e_61 rfl ?_
  refine g_aload_n hC dX3_e_62 rfl 0 rfl ?_
  refine fg_2_4 hC h0 k_239 dX3_e_63 rfl ?_
  refine g_imul hC dX3_e_66 rfl ?_
  refine g_isub hC dX3_e_67 rfl ?_
  refine g_iconst (v := 2) hC dX3_e_68 rfl ic_2 ?_
  refine g_aload_n hC dX3_e_69 rfl 0 rfl ?_
  refine fg_2_2 hC h0 k_235 dX3_e_70 rfl ?_
  refine g_imul hC dX3_e_73 rfl ?_
  refine g_aload_n hC dX3_e_74 rfl 0 rfl ?_
  refine fg_2_5 hC h0 k_241 dX3_e_75 rfl ?_
  refine g_imul hC dX3_e_78 rfl ?_
  refine g_aload_n hC dX3_e_79 rfl 0 rfl ?_
  refine fg_2_5 hC h0 k_241 dX3_e_80 rfl ?_
  refine g_imul hC dX3_e_83 rfl ?_
  refine g_isub hC dX3_e_84 rfl ?_
  obtain rfl := Option.some.inj hM
  exact g_reti hR dX3_e_85 rfl
def MX3_d (σ : Sto) (a0 : Nat) : Option (Int32) :=
  some ((((4 : Int32) * (σ a0 0)) * (σ a0 1)) - ((σ a0 5) * (σ a0 5)))
set_option maxHeartbeats 4000000 in
set_option maxRecDepth 100000 in
theorem c_X3_d (E : EX) {n : Nat} {ρ : Rho} {σ : Sto} (a0 : Nat) (h0 : Sh n a0 2) (res : Int32) (hM : MX3_d σ a0 = some res) : CTi E yX3_d cX3_d 1 (some .int) 0 [.ref (eb E + a0)] n σ ρ res σ ρ := by
  refine ct_i (by decide +kernel) rfl (Nat.le_of_ble_eq_true rfl) (fun X hE hml hC hR => ?_)
  subst hE
  show G X 0 0 n σ ρ 0 [(0, vr X a0)] []
  replace hC : Cx X cX3_d RX3 0 := hC
  unfold MX3_d at hM
  refine g_iconst (v := 4) hC dX3_d_0 rfl ic_4 ?_
  refine g_aload_n hC dX3_d_1 rfl 0 rfl ?_
  refine fg_2_0 hC h0 k_231 dX3_d_2 rfl ?_
  refine g_imul hC dX3_d_5 rfl ?_
  refine g_aload_n hC dX3_d_6 rfl 0 rfl ?_
  refine fg_2_1 hC h0 k_233 dX3_d_7 rfl ?_
  refine g_imul hC dX3_d_10 rfl ?_
  refine g_aload_n hC dX3_d_11 rfl 0 rfl ?_
  refine fg_2_5 hC h0 k_241 dX3_d_12 rfl ?_
  refine g_aload_n hC dX3_d_15 rfl 0 rfl ?_
  refine fg_2_5 hC h0 k_241 dX3_d_16 rfl ?_
  refine g_imul hC dX3_d_19 rfl ?_
  refine g_isub hC dX3_d_20 rfl ?_
  obtain rfl := Option.some.inj hM
  exact g_reti hR dX3_d_21 rfl
