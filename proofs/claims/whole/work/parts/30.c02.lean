def MX0_sideMinor (σ : Sto) (ρ : Rho) (a0 : Nat) : Option (Int32) :=
  Option.bind (ρ a0 0) fun j1 =>
  Option.bind (ρ a0 0) fun j2 =>
  Option.bind (ρ a0 0) fun j3 =>
  Option.bind (ρ a0 0) fun j4 =>
  Option.bind (MX2_rest (((((4 : Int32) * (σ j1 1)) * (σ j2 2)) - ((σ j3 3) * (σ j4 3)))) ((σ a0 1))) fun c5 =>
  bn c5 fun y6 =>
  if y6 = 0 then
    Option.bind (ρ a0 0) fun j7 =>
    Option.bind (ρ a0 0) fun j8 =>
    Option.bind (ρ a0 0) fun j9 =>
    Option.bind (ρ a0 0) fun j10 =>
    Option.bind (MX2_rest (((((4 : Int32) * (σ j7 0)) * (σ j8 2)) - ((σ j9 4) * (σ j10 4)))) ((σ a0 1))) fun c11 =>
    bn c11 fun y12 =>
    if y12 = 0 then
      Option.bind (ρ a0 0) fun j13 =>
      Option.bind (MX3_d σ j13) fun c14 =>
      Option.bind (MX2_rest c14 ((σ a0 1))) fun c15 =>
      some c15
    else
      some y12
  else
    some y6
set_option maxHeartbeats 4000000 in
set_option maxRecDepth 100000 in
theorem c_X0_sideMinor (E : EX) {n : Nat} {σ : Sto} {ρ : Rho} (a0 : Nat) (h0 : Sh n a0 0) (res : Int32) (hM : MX0_sideMinor σ ρ a0 = some res) : CTi E yX0_sideMinor cX0_sideMinor 3 (some .int) 2 [.ref (eb E + a0)] n σ ρ res σ ρ := by
  refine ct_i (by decide +kernel) rfl (Nat.le_of_ble_eq_true rfl) (fun X hE hml hC hR => ?_)
  subst hE
  show G X 0 0 n σ ρ 0 [(0, vr X a0)] []
  replace hC : Cx X cX0_sideMinor RX0 2 := hC
  unfold MX0_sideMinor at hM
  refine g_iconst (v := 4) hC dX0_sideMinor_0 rfl ic_4 ?_
  refine g_aload_n hC dX0_sideMinor_1 rfl 0 rfl ?_
  refine fg_0_0 hC h0 k_321 dX0_sideMinor_2 rfl hM (fun j1 hj1 hM => ?_)
  refine fg_2_1 hC hj1 k_234 dX0_sideMinor_5 rfl ?_
  refine g_imul hC dX0_sideMinor_8 rfl ?_
  refine g_aload_n hC dX0_sideMinor_9 rfl 0 rfl ?_
  refine fg_0_0 hC h0 k_321 dX0_sideMinor_10 rfl hM (fun j2 hj2 hM => ?_)
  refine fg_2_2 hC hj2 k_236 dX0_sideMinor_13 rfl ?_
  refine g_imul hC dX0_sideMinor_16 rfl ?_
  refine g_aload_n hC dX0_sideMinor_17 rfl 0 rfl ?_
  refine fg_0_0 hC h0 k_321 dX0_sideMinor_18 rfl hM (fun j3 hj3 hM => ?_)
  refine fg_2_3 hC hj3 k_238 dX0_sideMinor_21 rfl ?_
  refine g_aload_n hC dX0_sideMinor_24 rfl 0 rfl ?_
  refine fg_0_0 hC h0 k_321 dX0_sideMinor_25 rfl hM (fun j4 hj4 hM => ?_)
  refine fg_2_3 hC hj4 k_238 dX0_sideMinor_28 rfl ?_
  refine g_imul hC dX0_sideMinor_31 rfl ?_
  refine g_isub hC dX0_sideMinor_32 rfl ?_
  refine g_aload_n hC dX0_sideMinor_33 rfl 0 rfl ?_
  refine fg_0_1 hC h0 k_325 dX0_sideMinor_34 rfl ?_
  refine g_callSi (As := [.int (((((4 : Int32) * (σ j1 1)) * (σ j2 2)) - ((σ j3 3) * (σ j4 3)))), .int ((σ a0 1))]) (st' := []) (L' := 1) hC Y_X2_rest k_699 k_717 ⟨by decide, by decide⟩ dX0_sideMinor_37 rfl rfl rfl (Nat.le_of_ble_eq_true rfl) ⟨Nat.zero_le _, Nat.zero_le _⟩ hM (fun c hc => c_X2_rest (xE X) (((((4 : Int32) * (σ j1 1)) * (σ j2 2)) - ((σ j3 3) * (σ j4 3)))) ((σ a0 1)) c hc) (fun c5 hM => ?_)
  refine g_istore_n hC (fun y6 => [(1, .int y6), (0, vr X a0)]) dX0_sideMinor_40 rfl hM hml (by decide) (fun _ => rfl) (fun y6 hM => ?_)
  refine g_iload_n hC dX0_sideMinor_41 rfl 0 rfl ?_
  refine g_if_eq (tgt := 47) hC dX0_sideMinor_42 rfl (by decide) hM (fun hM => ?_) (fun hM => ?_)
  · refine g_iconst (v := 4) hC dX0_sideMinor_47 rfl ic_4 ?_
    refine g_aload_n hC dX0_sideMinor_48 rfl 1 rfl ?_
    refine fg_0_0 hC h0 k_321 dX0_sideMinor_49 rfl hM (fun j7 hj7 hM => ?_)
    refine fg_2_0 hC hj7 k_232 dX0_sideMinor_52 rfl ?_
    refine g_imul hC dX0_sideMinor_55 rfl ?_
    refine g_aload_n hC dX0_sideMinor_56 rfl 1 rfl ?_
    refine fg_0_0 hC h0 k_321 dX0_sideMinor_57 rfl hM (fun j8 hj8 hM => ?_)
    refine fg_2_2 hC hj8 k_236 dX0_sideMinor_60 rfl ?_
    refine g_imul hC dX0_sideMinor_63 rfl ?_
    refine g_aload_n hC dX0_sideMinor_64 rfl 1 rfl ?_
    refine fg_0_0 hC h0 k_321 dX0_sideMinor_65 rfl hM (fun j9 hj9 hM => ?_)
    refine fg_2_4 hC hj9 k_240 dX0_sideMinor_68 rfl ?_
    refine g_aload_n hC dX0_sideMinor_71 rfl 1 rfl ?_
    refine fg_0_0 hC h0 k_321 dX0_sideMinor_72 rfl hM (fun j10 hj10 hM => ?_)
    refine fg_2_4 hC hj10 k_240 dX0_sideMinor_75 rfl ?_
    refine g_imul hC dX0_sideMinor_78 rfl ?_
    refine g_isub hC dX0_sideMinor_79 rfl ?_
    refine g_aload_n hC dX0_sideMinor_80 rfl 1 rfl ?_
    refine fg_0_1 hC h0 k_325 dX0_sideMinor_81 rfl ?_
    refine g_callSi (As := [.int (((((4 : Int32) * (σ j7 0)) * (σ j8 2)) - ((σ j9 4) * (σ j10 4)))), .int ((σ a0 1))]) (st' := []) (L' := 1) hC Y_X2_rest k_699 k_717 ⟨by decide, by decide⟩ dX0_sideMinor_84 rfl rfl rfl (Nat.le_of_ble_eq_true rfl) ⟨Nat.zero_le _, Nat.zero_le _⟩ hM (fun c hc => c_X2_rest (xE X) (((((4 : Int32) * (σ j7 0)) * (σ j8 2)) - ((σ j9 4) * (σ j10 4)))) ((σ a0 1)) c hc) (fun c11 hM => ?_)
    refine g_istore_n hC (fun y12 => [(2, .int y12), (1, .int y6), (0, vr X a0)]) dX0_sideMinor_87 rfl hM hml (by decide) (fun _ => rfl) (fun y12 hM => ?_)
    refine g_iload_n hC dX0_sideMinor_88 rfl 0 rfl ?_
    refine g_if_eq (tgt := 96) hC dX0_sideMinor_89 rfl (by decide) hM (fun hM => ?_) (fun hM => ?_)
    · refine g_aload_n hC dX0_sideMinor_96 rfl 2 rfl ?_
      refine fg_0_0 hC h0 k_321 dX0_sideMinor_97 rfl hM (fun j13 hj13 hM => ?_)
      refine g_callVi (As := []) (st' := []) (k := j13) (L' := 0) hC Y_X3_d I_X3_d k_722 ⟨by decide, by decide⟩ hj13 (ci := 2) (by decide) rfl dX0_sideMinor_100 rfl rfl rfl (Nat.le_of_ble_eq_true rfl) ⟨Nat.zero_le _, Nat.zero_le _⟩ hM (fun c hc => c_X3_d (xE X) j13 hj13 c hc) (fun c14 hM => ?_)
      refine g_aload_n hC dX0_sideMinor_103 rfl 2 rfl ?_
      refine fg_0_1 hC h0 k_325 dX0_sideMinor_104 rfl ?_
      refine g_callSi (As := [.int c14, .int ((σ a0 1))]) (st' := []) (L' := 1) hC Y_X2_rest k_699 k_717 ⟨by decide, by decide⟩ dX0_sideMinor_107 rfl rfl rfl (Nat.le_of_ble_eq_true rfl) ⟨Nat.zero_le _, Nat.zero_le _⟩ hM (fun c hc => c_X2_rest (xE X) c14 ((σ a0 1)) c hc) (fun c15 hM => ?_)
      cases hM
      exact g_reti hR dX0_sideMinor_110 rfl
    · refine g_iload_n hC dX0_sideMinor_92 rfl 0 rfl ?_
      refine g_goto (tgt := 110) hC dX0_sideMinor_93 rfl (by decide) ?_
      cases hM
      exact g_reti hR dX0_sideMinor_110 rfl
  · refine g_iload_n hC dX0_sideMinor_45 rfl 0 rfl ?_
    cases hM
    exact g_reti hR dX0_sideMinor_46 rfl
def MX0_rank (σ : Sto) (ρ : Rho) (a0 : Nat) : Option (Int32) :=
  Option.bind (ρ a0 0) fun j1 =>
  Option.bind (MX3_isZero σ j1) fun c2 =>
  if c2 = 0 then
    Option.bind (ρ a0 0) fun j3 =>
    Option.bind (MX3_e σ j3) fun c4 =>
    Option.bind (MX2_rest c4 ((σ a0 1))) fun c5 =>
    if c5 = 0 then
      Option.bind (MX0_sideMinor σ ρ a0) fun c6 =>
      if c6 = 0 then
        some (1 : Int32)
      else
        some (2 : Int32)
    else
      some (3 : Int32)
  else
    some (0 : Int32)
set_option maxHeartbeats 4000000 in
set_option maxRecDepth 100000 in
theorem c_X0_rank (E : EX) {n : Nat} {σ : Sto} {ρ : Rho} (a0 : Nat) (h0 : Sh n a0 0) (res : Int32) (hM : MX0_rank σ ρ a0 = some res) : CTi E yX0_rank cX0_rank 1 (some .int) 3 [.ref (eb E + a0)] n σ ρ res σ ρ := by
  refine ct_i (by decide +kernel) rfl (Nat.le_of_ble_eq_true rfl) (fun X hE hml hC hR => ?_)
  subst hE
  show G X 0 0 n σ ρ 0 [(0, vr X a0)] []
  replace hC : Cx X cX0_rank RX0 3 := hC
  unfold MX0_rank at hM
  refine g_aload_n hC dX0_rank_0 rfl 0 rfl ?_
  refine fg_0_0 hC h0 k_321 dX0_rank_1 rfl hM (fun j1 hj1 hM => ?_)
  refine g_callVi (As := []) (st' := []) (k := j1) (L' := 0) hC Y_X3_isZero I_X3_isZero k_712 ⟨by decide, by decide⟩ hj1 (ci := 2) (by decide) rfl dX0_rank_4 rfl rfl rfl (Nat.le_of_ble_eq_true rfl) ⟨Nat.zero_le _, Nat.zero_le _⟩ hM (fun c hc => c_X3_isZero (xE X) j1 hj1 c hc) (fun c2 hM => ?_)
  refine g_if_eq (tgt := 12) hC dX0_rank_7 rfl (by decide) hM (fun hM => ?_) (fun hM => ?_)
  · refine g_aload_n hC dX0_rank_12 rfl 0 rfl ?_
    refine fg_0_0 hC h0 k_321 dX0_rank_13 rfl hM (fun j3 hj3 hM => ?_)
    refine g_callVi (As := []) (st' := []) (k := j3) (L' := 0) hC Y_X3_e I_X3_e k_713 ⟨by decide, by decide⟩ hj3 (ci := 2) (by decide) rfl dX0_rank_16 rfl rfl rfl (Nat.le_of_ble_eq_true rfl) ⟨Nat.zero_le _, Nat.zero_le _⟩ hM (fun c hc => c_X3_e (xE X) j3 hj3 c hc) (fun c4 hM => ?_)
    refine g_aload_n hC dX0_rank_19 rfl 0 rfl ?_
    refine fg_0_1 hC h0 k_325 dX0_rank_20 rfl ?_
    refine g_callSi (As := [.int c4, .int ((σ a0 1))]) (st' := []) (L' := 1) hC Y_X2_rest k_699 k_717 ⟨by decide, by decide⟩ dX0_rank_23 rfl rfl rfl (Nat.le_of_ble_eq_true rfl) ⟨Nat.zero_le _, Nat.zero_le _⟩ hM (fun c hc => c_X2_rest (xE X) c4 ((σ a0 1)) c hc) (fun c5 hM => ?_)
    refine g_if_eq (tgt := 31) hC dX0_rank_26 rfl (by decide) hM (fun hM => ?_) (fun hM => ?_)
    · refine g_aload_n hC dX0_rank_31 rfl 0 rfl ?_
      refine g_callVi (As := []) (st' := []) (k := a0) (L' := 2) hC Y_X0_sideMinor I_X0_sideMinor k_718 ⟨by decide, by decide⟩ h0 (ci := 0) (by decide) rfl dX0_rank_32 rfl rfl rfl (Nat.le_of_ble_eq_true rfl) ⟨Nat.zero_le _, Nat.zero_le _⟩ hM (fun c hc => c_X0_sideMinor (xE X) a0 h0 c hc) (fun c6 hM => ?_)
      refine g_if_eq (tgt := 42) hC dX0_rank_35 rfl (by decide) hM (fun hM => ?_) (fun hM => ?_)
      · refine g_iconst (v := 1) hC dX0_rank_42 rfl ic_1 ?_
        cases hM
        exact g_reti hR dX0_rank_43 rfl
      · refine g_iconst (v := 2) hC dX0_rank_38 rfl ic_2 ?_
        refine g_goto (tgt := 43) hC dX0_rank_39 rfl (by decide) ?_
        cases hM
        exact g_reti hR dX0_rank_43 rfl
    · refine g_iconst (v := 3) hC dX0_rank_29 rfl ic_3 ?_
      cases hM
      exact g_reti hR dX0_rank_30 rfl
  · refine g_iconst (v := 0) hC dX0_rank_10 rfl ic_0 ?_
    cases hM
    exact g_reti hR dX0_rank_11 rfl
def FX2_isSquare_8 (a0 : Int32) (a1 : Int32) (rec : Int32 → Int32 → Option (Int32)) (v2 : Int32) (v3 : Int32) : Option (Int32) :=
  if a1 ≤ v3 then
    zr ((0 : Int32)) (some (0 : Int32))
  else
    Option.bind (MX2_rest ((v3 * v3)) a1) fun c1 =>
    if c1 = v2 then
      zr ((1 : Int32)) (some (1 : Int32))
    else
      bn (v3 + (1 : Int32)) fun y2 =>
      rec v2 y2
set_option maxHeartbeats 4000000 in
set_option maxRecDepth 100000 in
theorem bX2_isSquare_8 {X : CX} {n : Nat} {σ : Sto} {ρ : Rho} {res : Int32} (hC : Cx X cX2_isSquare RX2 2) (hml : (xc X).maxLocals = 4) (hR : RtT (some .boolean) X cX2_isSquare n res σ ρ) (a0 : Int32) (a1 : Int32) (fu : Nat) : ∀ (v2 : Int32) (v3 : Int32), fixN (fun _ _ => none) (FX2_isSquare_8 a0 a1) fu v2 v3 = some res → G X 0 0 n σ ρ 8 [(0, .int a0), (1, .int a1), (2, .int v2), (3, .int v3)] [] := by
  refine fixN_ind (P := fun (f : Int32 → Int32 → Option (Int32)) => ∀ (v2 : Int32) (v3 : Int32), f v2 v3 = some res → G X 0 0 n σ ρ 8 [(0, .int a0), (1, .int a1), (2, .int v2), (3, .int v3)] []) ?_ ?_ fu
  · intro v2 v3 hM; cases hM
  · intro rec ih v2 v3 hM
    unfold FX2_isSquare_8 at hM
    refine g_iload_n hC dX2_isSquare_8 rfl 3 rfl ?_
    refine g_iload_n hC dX2_isSquare_9 rfl 1 rfl ?_
    refine g_icmp_ge (tgt := 32) hC dX2_isSquare_10 rfl (by decide) hM (fun hM => ?_) (fun hM => ?_)
    · refine g_iconst (v := 0) hC dX2_isSquare_32 rfl ic_0 ?_
      exact g_retz hM dX2_isSquare_33 rfl (fun h => by cases h; exact hR)
    · refine g_iload_n hC dX2_isSquare_13 rfl 3 rfl ?_
      refine g_iload_n hC dX2_isSquare_14 rfl 3 rfl ?_
      refine g_imul hC dX2_isSquare_15 rfl ?_
      refine g_iload_n hC dX2_isSquare_16 rfl 1 rfl ?_
      refine g_callSi (As := [.int ((v3 * v3)), .int a1]) (st' := []) (L' := 1) hC Y_X2_rest k_699 k_729 ⟨by decide, by decide⟩ dX2_isSquare_17 rfl rfl rfl (Nat.le_of_ble_eq_true rfl) ⟨Nat.zero_le _, Nat.zero_le _⟩ hM (fun c hc => c_X2_rest (xE X) ((v3 * v3)) a1 c hc) (fun c1 hM => ?_)
      refine g_iload_n hC dX2_isSquare_20 rfl 2 rfl ?_
      refine g_icmp_ne (tgt := 26) hC dX2_isSquare_21 rfl (by decide) hM (fun hM => ?_) (fun hM => ?_)
      · refine g_iinc (v := 1) hC (fun y2 => [(3, .int y2), (0, .int a0), (1, .int a1), (2, .int v2)]) dX2_isSquare_26 rfl hM (j := 3) rfl ic_1 hml (by decide) (fun _ => rfl) (fun y2 hM => ?_)
        refine g_goto (tgt := 8) hC dX2_isSquare_29 rfl (by decide) ?_
        exact g_sub [1, 2, 3, 0] (ih _ _ hM) rfl
      · refine g_iconst (v := 1) hC dX2_isSquare_24 rfl ic_1 ?_
        exact g_retz hM dX2_isSquare_25 rfl (fun h => by cases h; exact hR)
def MX2_isSquare (a0 : Int32) (a1 : Int32) : Option (Int32) :=
  Option.bind (MX2_rest a0 a1) fun c1 =>
  bn c1 fun y2 =>
  bn ((0 : Int32)) fun y3 =>
  fixN (fun _ _ => none) (FX2_isSquare_8 a0 a1) FU y2 y3
set_option maxHeartbeats 4000000 in
set_option maxRecDepth 100000 in
theorem c_X2_isSquare (E : EX) {n : Nat} {σ : Sto} {ρ : Rho} (a0 : Int32) (a1 : Int32) (res : Int32) (hM : MX2_isSquare a0 a1 = some res) : CTi E yX2_isSquare cX2_isSquare 4 (some .boolean) 2 [.int a0, .int a1] n σ ρ res σ ρ := by
  refine ct_i (by decide +kernel) rfl (Nat.le_of_ble_eq_true rfl) (fun X hE hml hC hR => ?_)
  subst hE
  show G X 0 0 n σ ρ 0 [(0, .int a0), (1, .int a1)] []
  replace hC : Cx X cX2_isSquare RX2 2 := hC
  unfold MX2_isSquare at hM
  refine g_iload_n hC dX2_isSquare_0 rfl 0 rfl ?_
  refine g_iload_n hC dX2_isSquare_1 rfl 1 rfl ?_
  refine g_callSi (As := [.int a0, .int a1]) (st' := []) (L' := 1) hC Y_X2_rest k_699 k_729 ⟨by decide, by decide⟩ dX2_isSquare_2 rfl rfl rfl (Nat.le_of_ble_eq_true rfl) ⟨Nat.zero_le _, Nat.zero_le _⟩ hM (fun c hc => c_X2_rest (xE X) a0 a1 c hc) (fun c1 hM => ?_)
  refine g_istore_n hC (fun y2 => [(2, .int y2), (0, .int a0), (1, .int a1)]) dX2_isSquare_5 rfl hM hml (by decide) (fun _ => rfl) (fun y2 hM => ?_)
  refine g_iconst (v := 0) hC dX2_isSquare_6 rfl ic_0 ?_
  refine g_istore_n hC (fun y3 => [(3, .int y3), (2, .int y2), (0, .int a0), (1, .int a1)]) dX2_isSquare_7 rfl hM hml (by decide) (fun _ => rfl) (fun y3 hM => ?_)
  exact g_sub [2, 3, 1, 0] ((bX2_isSquare_8 hC hml hR a0 a1  FU) _ _ hM) rfl
def MX0_kind (σ : Sto) (ρ : Rho) (a0 : Nat) : Option (Int32) :=
  Option.bind (MX0_rank σ ρ a0) fun c1 =>
  bn c1 fun y2 =>
  if y2 = (3 : Int32) then
    some (4 : Int32)
  else
    if (2 : Int32) ≤ y2 then
      Option.bind (MX0_sideMinor σ ρ a0) fun c3 =>
      Option.bind (MX2_isSquare ((-c3)) ((σ a0 1))) fun c4 =>
      if c4 = 0 then
        some (3 : Int32)
      else
        some (2 : Int32)
    else
      if y2 = (1 : Int32) then
        some (1 : Int32)
      else
        some (0 : Int32)
set_option maxHeartbeats 4000000 in
set_option maxRecDepth 100000 in
theorem c_X0_kind (E : EX) {n : Nat} {σ : Sto} {ρ : Rho} (a0 : Nat) (h0 : Sh n a0 0) (res : Int32) (hM : MX0_kind σ ρ a0 = some res) : CTi E yX0_kind cX0_kind 2 (some .int) 4 [.ref (eb E + a0)] n σ ρ res σ ρ := by
  refine ct_i (by decide +kernel) rfl (Nat.le_of_ble_eq_true rfl) (fun X hE hml hC hR => ?_)
  subst hE
  show G X 0 0 n σ ρ 0 [(0, vr X a0)] []
  replace hC : Cx X cX0_kind RX0 4 := hC
  unfold MX0_kind at hM
  refine g_aload_n hC dX0_kind_0 rfl 0 rfl ?_
  refine g_callVi (As := []) (st' := []) (k := a0) (L' := 3) hC Y_X0_rank I_X0_rank k_708 ⟨by decide, by decide⟩ h0 (ci := 0) (by decide) rfl dX0_kind_1 rfl rfl rfl (Nat.le_of_ble_eq_true rfl) ⟨Nat.zero_le _, Nat.zero_le _⟩ hM (fun c hc => c_X0_rank (xE X) a0 h0 c hc) (fun c1 hM => ?_)
  refine g_istore_n hC (fun y2 => [(1, .int y2), (0, vr X a0)]) dX0_kind_4 rfl hM hml (by decide) (fun _ => rfl) (fun y2 hM => ?_)
  refine g_iload_n hC dX0_kind_5 rfl 0 rfl ?_
  refine g_iconst (v := 3) hC dX0_kind_6 rfl ic_3 ?_
  refine g_icmp_ne (tgt := 12) hC dX0_kind_7 rfl (by decide) hM (fun hM => ?_) (fun hM => ?_)
  · refine g_iload_n hC dX0_kind_12 rfl 0 rfl ?_
    refine g_iconst (v := 2) hC dX0_kind_13 rfl ic_2 ?_
    refine g_icmp_ge (tgt := 28) hC dX0_kind_14 rfl (by decide) hM (fun hM => ?_) (fun hM => ?_)
    · refine g_aload_n hC dX0_kind_28 rfl 1 rfl ?_
      refine g_callVi (As := []) (st' := []) (k := a0) (L' := 2) hC Y_X0_sideMinor I_X0_sideMinor k_718 ⟨by decide, by decide⟩ h0 (ci := 0) (by decide) rfl dX0_kind_29 rfl rfl rfl (Nat.le_of_ble_eq_true rfl) ⟨Nat.zero_le _, Nat.zero_le _⟩ hM (fun c hc => c_X0_sideMinor (xE X) a0 h0 c hc) (fun c3 hM => ?_)
      refine g_ineg hC dX0_kind_32 rfl ?_
      refine g_aload_n hC dX0_kind_33 rfl 1 rfl ?_
      refine fg_0_1 hC h0 k_325 dX0_kind_34 rfl ?_
      refine g_callSi (As := [.int ((-c3)), .int ((σ a0 1))]) (st' := []) (L' := 2) hC Y_X2_isSquare k_727 k_726 ⟨by decide, by decide⟩ dX0_kind_37 rfl rfl rfl (Nat.le_of_ble_eq_true rfl) ⟨Nat.zero_le _, Nat.zero_le _⟩ hM (fun c hc => c_X2_isSquare (xE X) ((-c3)) ((σ a0 1)) c hc) (fun c4 hM => ?_)
      refine g_if_eq (tgt := 47) hC dX0_kind_40 rfl (by decide) hM (fun hM => ?_) (fun hM => ?_)
      · refine g_iconst (v := 3) hC dX0_kind_47 rfl ic_3 ?_
        cases hM
        exact g_reti hR dX0_kind_48 rfl
      · refine g_iconst (v := 2) hC dX0_kind_43 rfl ic_2 ?_
        refine g_goto (tgt := 48) hC dX0_kind_44 rfl (by decide) ?_
        cases hM
        exact g_reti hR dX0_kind_48 rfl
    · refine g_iload_n hC dX0_kind_17 rfl 0 rfl ?_
      refine g_iconst (v := 1) hC dX0_kind_18 rfl ic_1 ?_
      refine g_icmp_ne (tgt := 26) hC dX0_kind_19 rfl (by decide) hM (fun hM => ?_) (fun hM => ?_)
      · refine g_iconst (v := 0) hC dX0_kind_26 rfl ic_0 ?_
        cases hM
        exact g_reti hR dX0_kind_27 rfl
      · refine g_iconst (v := 1) hC dX0_kind_22 rfl ic_1 ?_
        refine g_goto (tgt := 27) hC dX0_kind_23 rfl (by decide) ?_
        cases hM
        exact g_reti hR dX0_kind_27 rfl
  · refine g_iconst (v := 4) hC dX0_kind_10 rfl ic_4 ?_
    cases hM
    exact g_reti hR dX0_kind_11 rfl
def MX2_points (a0 : Int32) : Option (Int32) :=
  some (((a0 * a0) + a0) + (1 : Int32))
set_option maxHeartbeats 4000000 in
set_option maxRecDepth 100000 in
theorem c_X2_points (E : EX) {n : Nat} {σ : Sto} {ρ : Rho} (a0 : Int32) (res : Int32) (hM : MX2_points a0 = some res) : CTi E yX2_points cX2_points 1 (some .int) 0 [.int a0] n σ ρ res σ ρ := by
  refine ct_i (by decide +kernel) rfl (Nat.le_of_ble_eq_true rfl) (fun X hE hml hC hR => ?_)
  subst hE
  show G X 0 0 n σ ρ 0 [(0, .int a0)] []
  replace hC : Cx X cX2_points RX2 0 := hC
  unfold MX2_points at hM
  refine g_iload_n hC dX2_points_0 rfl 0 rfl ?_
  refine g_iload_n hC dX2_points_1 rfl 0 rfl ?_
  refine g_imul hC dX2_points_2 rfl ?_
  refine g_iload_n hC dX2_points_3 rfl 0 rfl ?_
  refine g_iadd hC dX2_points_4 rfl ?_
  refine g_iconst (v := 1) hC dX2_points_5 rfl ic_1 ?_
  refine g_iadd hC dX2_points_6 rfl ?_
  cases hM
  exact g_reti hR dX2_points_7 rfl
def BX0_points_55 (σ : Sto) (ρ : Rho) (a0 : Nat) : Option (Int32) :=
  some ((σ a0 1) + (1 : Int32))
set_option maxHeartbeats 4000000 in
set_option maxRecDepth 100000 in
theorem bX0_points_55 {X : CX} {n : Nat} {σ : Sto} {ρ : Rho} {res : Int32} (hC : Cx X cX0_points RX0 5) (hml : (xc X).maxLocals = 1) (hR : RtT (some .int) X cX0_points n res σ ρ) (a0 : Nat) (h0 : Sh n a0 0) : BX0_points_55 σ ρ a0 = some res → G X 0 0 n σ ρ 55 [(0, vr X a0)] [] := by
  intro  hM
  unfold BX0_points_55 at hM
  refine g_aload_n hC dX0_points_55 rfl 0 rfl ?_
  refine fg_0_1 hC h0 k_325 dX0_points_56 rfl ?_
  refine g_iconst (v := 1) hC dX0_points_59 rfl ic_1 ?_
  refine g_iadd hC dX0_points_60 rfl ?_
  cases hM
  exact g_reti hR dX0_points_61 rfl
def MX0_points (σ : Sto) (ρ : Rho) (a0 : Nat) : Option (Int32) :=
  Option.bind (MX0_kind σ ρ a0) fun c1 =>
  if c1 = (0 : Int32) then
    Option.bind (MX2_points ((σ a0 1))) fun c2 =>
    some c2
  else
  if c1 = (1 : Int32) then
    BX0_points_55 σ ρ a0
  else
  if c1 = (2 : Int32) then
    some (((2 : Int32) * (σ a0 1)) + (1 : Int32))
  else
  if c1 = (3 : Int32) then
    some (1 : Int32)
  else
  BX0_points_55 σ ρ a0
set_option maxHeartbeats 4000000 in
set_option maxRecDepth 100000 in
theorem c_X0_points (E : EX) {n : Nat} {σ : Sto} {ρ : Rho} (a0 : Nat) (h0 : Sh n a0 0) (res : Int32) (hM : MX0_points σ ρ a0 = some res) : CTi E yX0_points cX0_points 1 (some .int) 5 [.ref (eb E + a0)] n σ ρ res σ ρ := by
  refine ct_i (by decide +kernel) rfl (Nat.le_of_ble_eq_true rfl) (fun X hE hml hC hR => ?_)
  subst hE
  show G X 0 0 n σ ρ 0 [(0, vr X a0)] []
  replace hC : Cx X cX0_points RX0 5 := hC
  unfold MX0_points at hM
  refine g_aload_n hC dX0_points_0 rfl 0 rfl ?_
  refine g_callVi (As := []) (st' := []) (k := a0) (L' := 4) hC Y_X0_kind I_X0_kind k_875 ⟨by decide, by decide⟩ h0 (ci := 0) (by decide) rfl dX0_points_1 rfl rfl rfl (Nat.le_of_ble_eq_true rfl) ⟨Nat.zero_le _, Nat.zero_le _⟩ hM (fun c hc => c_X0_kind (xE X) a0 h0 c hc) (fun c1 hM => ?_)
  refine g_ite hM (fun hx0 hM => ?_) (fun hx0 hM => ?_)
  · refine g_tswK (tgt := 36) hC dX0_points_4 rfl hx0 (z := 0) (by decide) (by decide) (by decide) rfl (by decide) ?_
    refine g_aload_n hC dX0_points_36 rfl 0 rfl ?_
    refine fg_0_1 hC h0 k_325 dX0_points_37 rfl ?_
    refine g_callSi (As := [.int ((σ a0 1))]) (st' := []) (L' := 0) hC Y_X2_points k_552 k_876 ⟨by decide, by decide⟩ dX0_points_40 rfl rfl rfl (Nat.le_of_ble_eq_true rfl) ⟨Nat.zero_le _, Nat.zero_le _⟩ hM (fun c hc => c_X2_points (xE X) ((σ a0 1)) c hc) (fun c2 hM => ?_)
    cases hM
    exact g_reti hR dX0_points_43 rfl
  refine g_ite hM (fun hx1 hM => ?_) (fun hx1 hM => ?_)
  · refine g_tswK (tgt := 55) hC dX0_points_4 rfl hx1 (z := 1) (by decide) (by decide) (by decide) rfl (by decide) ?_
    exact g_sub [0] ((bX0_points_55 hC hml hR a0 h0 )  hM) rfl
  refine g_ite hM (fun hx2 hM => ?_) (fun hx2 hM => ?_)
  · refine g_tswK (tgt := 44) hC dX0_points_4 rfl hx2 (z := 2) (by decide) (by decide) (by decide) rfl (by decide) ?_
    refine g_iconst (v := 2) hC dX0_points_44 rfl ic_2 ?_
    refine g_aload_n hC dX0_points_45 rfl 0 rfl ?_
    refine fg_0_1 hC h0 k_325 dX0_points_46 rfl ?_
    refine g_imul hC dX0_points_49 rfl ?_
    refine g_iconst (v := 1) hC dX0_points_50 rfl ic_1 ?_
    refine g_iadd hC dX0_points_51 rfl ?_
    cases hM
    exact g_reti hR dX0_points_52 rfl
  refine g_ite hM (fun hx3 hM => ?_) (fun hx3 hM => ?_)
  · refine g_tswK (tgt := 53) hC dX0_points_4 rfl hx3 (z := 3) (by decide) (by decide) (by decide) rfl (by decide) ?_
    refine g_iconst (v := 1) hC dX0_points_53 rfl ic_1 ?_
    cases hM
    exact g_reti hR dX0_points_54 rfl
  replace hx0 := lv_neT hx0 (a := 0) (by decide)
  replace hx1 := lv_neT hx1 (a := 1) (by decide)
  replace hx2 := lv_neT hx2 (a := 2) (by decide)
  replace hx3 := lv_neT hx3 (a := 3) (by decide)
  refine g_tswD (tgt := 55) hC dX0_points_4 rfl (by omega) (by decide) ?_
  exact g_sub [0] ((bX0_points_55 hC hml hR a0 h0 )  hM) rfl
def MX0_lines (σ : Sto) (ρ : Rho) (a0 : Nat) : Option (Int32) :=
  Option.bind (MX0_kind σ ρ a0) fun c1 =>
  if c1 = (0 : Int32) then
    Option.bind (MX2_points ((σ a0 1))) fun c2 =>
    some c2
  else
  if c1 = (1 : Int32) then
    some (1 : Int32)
  else
  if c1 = (2 : Int32) then
    some (2 : Int32)
  else
  some (0 : Int32)
set_option maxHeartbeats 4000000 in
set_option maxRecDepth 100000 in
theorem c_X0_lines (E : EX) {n : Nat} {σ : Sto} {ρ : Rho} (a0 : Nat) (h0 : Sh n a0 0) (res : Int32) (hM : MX0_lines σ ρ a0 = some res) : CTi E yX0_lines cX0_lines 1 (some .int) 5 [.ref (eb E + a0)] n σ ρ res σ ρ := by
  refine ct_i (by decide +kernel) rfl (Nat.le_of_ble_eq_true rfl) (fun X hE hml hC hR => ?_)
  subst hE
  show G X 0 0 n σ ρ 0 [(0, vr X a0)] []
  replace hC : Cx X cX0_lines RX0 5 := hC
  unfold MX0_lines at hM
  refine g_aload_n hC dX0_lines_0 rfl 0 rfl ?_
  refine g_callVi (As := []) (st' := []) (k := a0) (L' := 4) hC Y_X0_kind I_X0_kind k_875 ⟨by decide, by decide⟩ h0 (ci := 0) (by decide) rfl dX0_lines_1 rfl rfl rfl (Nat.le_of_ble_eq_true rfl) ⟨Nat.zero_le _, Nat.zero_le _⟩ hM (fun c hc => c_X0_kind (xE X) a0 h0 c hc) (fun c1 hM => ?_)
  refine g_ite hM (fun hx0 hM => ?_) (fun hx0 hM => ?_)
  · refine g_tswK (tgt := 32) hC dX0_lines_4 rfl hx0 (z := 0) (by decide) (by decide) (by decide) rfl (by decide) ?_
    refine g_aload_n hC dX0_lines_32 rfl 0 rfl ?_
    refine fg_0_1 hC h0 k_325 dX0_lines_33 rfl ?_
    refine g_callSi (As := [.int ((σ a0 1))]) (st' := []) (L' := 0) hC Y_X2_points k_552 k_876 ⟨by decide, by decide⟩ dX0_lines_36 rfl rfl rfl (Nat.le_of_ble_eq_true rfl) ⟨Nat.zero_le _, Nat.zero_le _⟩ hM (fun c hc => c_X2_points (xE X) ((σ a0 1)) c hc) (fun c2 hM => ?_)
    cases hM
    exact g_reti hR dX0_lines_39 rfl
  refine g_ite hM (fun hx1 hM => ?_) (fun hx1 hM => ?_)
  · refine g_tswK (tgt := 40) hC dX0_lines_4 rfl hx1 (z := 1) (by decide) (by decide) (by decide) rfl (by decide) ?_
    refine g_iconst (v := 1) hC dX0_lines_40 rfl ic_1 ?_
    cases hM
    exact g_reti hR dX0_lines_41 rfl
  refine g_ite hM (fun hx2 hM => ?_) (fun hx2 hM => ?_)
  · refine g_tswK (tgt := 42) hC dX0_lines_4 rfl hx2 (z := 2) (by decide) (by decide) (by decide) rfl (by decide) ?_
    refine g_iconst (v := 2) hC dX0_lines_42 rfl ic_2 ?_
    cases hM
    exact g_reti hR dX0_lines_43 rfl
  replace hx0 := lv_neT hx0 (a := 0) (by decide)
  replace hx1 := lv_neT hx1 (a := 1) (by decide)
  replace hx2 := lv_neT hx2 (a := 2) (by decide)
  refine g_tswD (tgt := 44) hC dX0_lines_4 rfl (by omega) (by decide) ?_
  refine g_iconst (v := 0) hC dX0_lines_44 rfl ic_0 ?_
  cases hM
  exact g_reti hR dX0_lines_45 rfl
def BX0_zeros_52 (σ : Sto) (a0 : Nat) (a1 : Int32) (a2 : Int32) (a3 : Int32) (v4 : Int32) (v5 : Int32) (v6 : Int32) : Option (Int32) :=
  Option.bind (MX2_rest (((v5 * v5) - (((4 : Int32) * v4) * v6))) ((σ a0 1))) fun c1 =>
  bn c1 fun y2 =>
  if y2 = 0 then
    some (1 : Int32)
  else
    Option.bind (MX2_isSquare y2 ((σ a0 1))) fun c3 =>
    if c3 = 0 then
      some (0 : Int32)
    else
      some (2 : Int32)
set_option maxHeartbeats 4000000 in
set_option maxRecDepth 100000 in
theorem bX0_zeros_52 {X : CX} {n : Nat} {ρ : Rho} {σ : Sto} {res : Int32} (hC : Cx X cX0_zeros RX0 3) (hml : (xc X).maxLocals = 8) (hR : RtT (some .int) X cX0_zeros n res σ ρ) (a0 : Nat) (a1 : Int32) (a2 : Int32) (a3 : Int32) (h0 : Sh n a0 0) : ∀ (v4 : Int32) (v5 : Int32) (v6 : Int32), BX0_zeros_52 σ a0 a1 a2 a3 v4 v5 v6 = some res → G X 0 0 n σ ρ 52 [(0, vr X a0), (1, .int a1), (2, .int a2), (3, .int a3), (4, .int v4), (5, .int v5), (6, .int v6)] [] := by
  intro v4 v5 v6 hM
  unfold BX0_zeros_52 at hM
  refine g_iload hC dX0_zeros_52 rfl 5 rfl ?_
  refine g_iload hC dX0_zeros_54 rfl 5 rfl ?_
  refine g_imul hC dX0_zeros_56 rfl ?_
  refine g_iconst (v := 4) hC dX0_zeros_57 rfl ic_4 ?_
  refine g_iload hC dX0_zeros_58 rfl 4 rfl ?_
  refine g_imul hC dX0_zeros_60 rfl ?_
  refine g_iload hC dX0_zeros_61 rfl 6 rfl ?_
  refine g_imul hC dX0_zeros_63 rfl ?_
  refine g_isub hC dX0_zeros_64 rfl ?_
  refine g_aload_n hC dX0_zeros_65 rfl 0 rfl ?_
  refine fg_0_1 hC h0 k_325 dX0_zeros_66 rfl ?_
  refine g_callSi (As := [.int (((v5 * v5) - (((4 : Int32) * v4) * v6))), .int ((σ a0 1))]) (st' := []) (L' := 1) hC Y_X2_rest k_699 k_717 ⟨by decide, by decide⟩ dX0_zeros_69 rfl rfl rfl (Nat.le_of_ble_eq_true rfl) ⟨Nat.zero_le _, Nat.zero_le _⟩ hM (fun c hc => c_X2_rest (xE X) (((v5 * v5) - (((4 : Int32) * v4) * v6))) ((σ a0 1)) c hc) (fun c1 hM => ?_)
  refine g_istore hC (fun y2 => [(7, .int y2), (0, vr X a0), (1, .int a1), (2, .int a2), (3, .int a3), (4, .int v4), (5, .int v5), (6, .int v6)]) dX0_zeros_72 rfl hM hml (by decide) (fun _ => rfl) (fun y2 hM => ?_)
  refine g_iload hC dX0_zeros_74 rfl 0 rfl ?_
  refine g_if_ne (tgt := 81) hC dX0_zeros_76 rfl (by decide) hM (fun hM => ?_) (fun hM => ?_)
  · refine g_iload hC dX0_zeros_81 rfl 0 rfl ?_
    refine g_aload_n hC dX0_zeros_83 rfl 1 rfl ?_
    refine fg_0_1 hC h0 k_325 dX0_zeros_84 rfl ?_
    refine g_callSi (As := [.int y2, .int ((σ a0 1))]) (st' := []) (L' := 2) hC Y_X2_isSquare k_727 k_726 ⟨by decide, by decide⟩ dX0_zeros_87 rfl rfl rfl (Nat.le_of_ble_eq_true rfl) ⟨Nat.zero_le _, Nat.zero_le _⟩ hM (fun c hc => c_X2_isSquare (xE X) y2 ((σ a0 1)) c hc) (fun c3 hM => ?_)
    refine g_if_eq (tgt := 97) hC dX0_zeros_90 rfl (by decide) hM (fun hM => ?_) (fun hM => ?_)
    · refine g_iconst (v := 0) hC dX0_zeros_97 rfl ic_0 ?_
      cases hM
      exact g_reti hR dX0_zeros_98 rfl
    · refine g_iconst (v := 2) hC dX0_zeros_93 rfl ic_2 ?_
      refine g_goto (tgt := 98) hC dX0_zeros_94 rfl (by decide) ?_
      cases hM
      exact g_reti hR dX0_zeros_98 rfl
  · refine g_iconst (v := 1) hC dX0_zeros_79 rfl ic_1 ?_
    cases hM
    exact g_reti hR dX0_zeros_80 rfl
def MX0_zeros (σ : Sto) (a0 : Nat) (a1 : Int32) (a2 : Int32) (a3 : Int32) : Option (Int32) :=
  Option.bind (MX2_rest a1 ((σ a0 1))) fun c1 =>
  bn c1 fun y2 =>
  Option.bind (MX2_rest a2 ((σ a0 1))) fun c3 =>
  bn c3 fun y4 =>
  Option.bind (MX2_rest a3 ((σ a0 1))) fun c5 =>
  bn c5 fun y6 =>
  if y2 = 0 then
    if y4 = 0 then
      if y6 = 0 then
        some ((σ a0 1) + (1 : Int32))
      else
        BX0_zeros_52 σ a0 a1 a2 a3 y2 y4 y6
    else
      BX0_zeros_52 σ a0 a1 a2 a3 y2 y4 y6
  else
    BX0_zeros_52 σ a0 a1 a2 a3 y2 y4 y6
set_option maxHeartbeats 4000000 in
set_option maxRecDepth 100000 in
theorem c_X0_zeros (E : EX) {n : Nat} {ρ : Rho} {σ : Sto} (a0 : Nat) (h0 : Sh n a0 0) (a1 : Int32) (a2 : Int32) (a3 : Int32) (res : Int32) (hM : MX0_zeros σ a0 a1 a2 a3 = some res) : CTi E yX0_zeros cX0_zeros 8 (some .int) 3 [.ref (eb E + a0), .int a1, .int a2, .int a3] n σ ρ res σ ρ := by
  refine ct_i (by decide +kernel) rfl (Nat.le_of_ble_eq_true rfl) (fun X hE hml hC hR => ?_)
  subst hE
  show G X 0 0 n σ ρ 0 [(0, vr X a0), (1, .int a1), (2, .int a2), (3, .int a3)] []
  replace hC : Cx X cX0_zeros RX0 3 := hC
  unfold MX0_zeros at hM
  refine g_iload_n hC dX0_zeros_0 rfl 1 rfl ?_
  refine g_aload_n hC dX0_zeros_1 rfl 0 rfl ?_
  refine fg_0_1 hC h0 k_325 dX0_zeros_2 rfl ?_
  refine g_callSi (As := [.int a1, .int ((σ a0 1))]) (st' := []) (L' := 1) hC Y_X2_rest k_699 k_717 ⟨by decide, by decide⟩ dX0_zeros_5 rfl rfl rfl (Nat.le_of_ble_eq_true rfl) ⟨Nat.zero_le _, Nat.zero_le _⟩ hM (fun c hc => c_X2_rest (xE X) a1 ((σ a0 1)) c hc) (fun c1 hM => ?_)
  refine g_istore hC (fun y2 => [(4, .int y2), (0, vr X a0), (1, .int a1), (2, .int a2), (3, .int a3)]) dX0_zeros_8 rfl hM hml (by decide) (fun _ => rfl) (fun y2 hM => ?_)
  refine g_iload_n hC dX0_zeros_10 rfl 3 rfl ?_
  refine g_aload_n hC dX0_zeros_11 rfl 1 rfl ?_
  refine fg_0_1 hC h0 k_325 dX0_zeros_12 rfl ?_
  refine g_callSi (As := [.int a2, .int ((σ a0 1))]) (st' := []) (L' := 1) hC Y_X2_rest k_699 k_717 ⟨by decide, by decide⟩ dX0_zeros_15 rfl rfl rfl (Nat.le_of_ble_eq_true rfl) ⟨Nat.zero_le _, Nat.zero_le _⟩ hM (fun c hc => c_X2_rest (xE X) a2 ((σ a0 1)) c hc) (fun c3 hM => ?_)
  refine g_istore hC (fun y4 => [(5, .int y4), (4, .int y2), (0, vr X a0), (1, .int a1), (2, .int a2), (3, .int a3)]) dX0_zeros_18 rfl hM hml (by decide) (fun _ => rfl) (fun y4 hM => ?_)
  refine g_iload_n hC dX0_zeros_20 rfl 5 rfl ?_
  refine g_aload_n hC dX0_zeros_21 rfl 2 rfl ?_
  refine fg_0_1 hC h0 k_325 dX0_zeros_22 rfl ?_
  refine g_callSi (As := [.int a3, .int ((σ a0 1))]) (st' := []) (L' := 1) hC Y_X2_rest k_699 k_717 ⟨by decide, by decide⟩ dX0_zeros_25 rfl rfl rfl (Nat.le_of_ble_eq_true rfl) ⟨Nat.zero_le _, Nat.zero_le _⟩ hM (fun c hc => c_X2_rest (xE X) a3 ((σ a0 1)) c hc) (fun c5 hM => ?_)
  refine g_istore hC (fun y6 => [(6, .int y6), (5, .int y4), (4, .int y2), (0, vr X a0), (1, .int a1), (2, .int a2), (3, .int a3)]) dX0_zeros_28 rfl hM hml (by decide) (fun _ => rfl) (fun y6 hM => ?_)
  refine g_iload hC dX0_zeros_30 rfl 2 rfl ?_
  refine g_if_ne (tgt := 52) hC dX0_zeros_32 rfl (by decide) hM (fun hM => ?_) (fun hM => ?_)
  · exact g_sub [3, 4, 5, 6, 2, 1, 0] ((bX0_zeros_52 hC hml hR a0 a1 a2 a3 h0 ) _ _ _ hM) rfl
  · refine g_iload hC dX0_zeros_35 rfl 1 rfl ?_
    refine g_if_ne (tgt := 52) hC dX0_zeros_37 rfl (by decide) hM (fun hM => ?_) (fun hM => ?_)
    · exact g_sub [3, 4, 5, 6, 2, 1, 0] ((bX0_zeros_52 hC hml hR a0 a1 a2 a3 h0 ) _ _ _ hM) rfl
    · refine g_iload hC dX0_zeros_40 rfl 0 rfl ?_
      refine g_if_ne (tgt := 52) hC dX0_zeros_42 rfl (by decide) hM (fun hM => ?_) (fun hM => ?_)
      · exact g_sub [3, 4, 5, 6, 2, 1, 0] ((bX0_zeros_52 hC hml hR a0 a1 a2 a3 h0 ) _ _ _ hM) rfl
      · refine g_aload_n hC dX0_zeros_45 rfl 3 rfl ?_
        refine fg_0_1 hC h0 k_325 dX0_zeros_46 rfl ?_
        refine g_iconst (v := 1) hC dX0_zeros_49 rfl ic_1 ?_
        refine g_iadd hC dX0_zeros_50 rfl ?_
        cases hM
        exact g_reti hR dX0_zeros_51 rfl
def MX0_crossings (σ : Sto) (ρ : Rho) (a0 : Nat) (a1 : Nat) : Option (Int32) :=
  bn ((σ a1 1)) fun y1 =>
  bn ((σ a1 2)) fun y2 =>
  if (σ a1 0) = 0 then
    if y1 = 0 then
      Option.bind (ρ a0 0) fun j3 =>
      Option.bind (ρ a0 0) fun j4 =>
      Option.bind (ρ a0 0) fun j5 =>
      Option.bind (MX0_zeros σ a0 ((σ j3 0)) ((σ j4 5)) ((σ j5 1))) fun c6 =>
      some c6
    else
      Option.bind (ρ a0 0) fun j7 =>
      Option.bind (ρ a0 0) fun j8 =>
      Option.bind (ρ a0 0) fun j9 =>
      Option.bind (ρ a0 0) fun j10 =>
      Option.bind (ρ a0 0) fun j11 =>
      Option.bind (ρ a0 0) fun j12 =>
      Option.bind (MX0_zeros σ a0 ((σ j7 0)) (((σ j8 4) - ((σ j9 5) * y2))) ((((((σ j10 1) * y2) * y2) + (σ j11 2)) - ((σ j12 3) * y2)))) fun c13 =>
      some c13
  else
    Option.bind (ρ a0 0) fun j14 =>
    Option.bind (ρ a0 0) fun j15 =>
    Option.bind (ρ a0 0) fun j16 =>
    Option.bind (ρ a0 0) fun j17 =>
    Option.bind (ρ a0 0) fun j18 =>
    Option.bind (ρ a0 0) fun j19 =>
    Option.bind (ρ a0 0) fun j20 =>
    Option.bind (ρ a0 0) fun j21 =>
    Option.bind (ρ a0 0) fun j22 =>
    Option.bind (ρ a0 0) fun j23 =>
    Option.bind (MX0_zeros σ a0 ((((((σ j14 0) * y1) * y1) + (σ j15 1)) - ((σ j16 5) * y1))) ((((((((2 : Int32) * (σ j17 0)) * y1) * y2) + (σ j18 3)) - ((σ j19 4) * y1)) - ((σ j20 5) * y2))) ((((((σ j21 0) * y2) * y2) + (σ j22 2)) - ((σ j23 4) * y2)))) fun c24 =>
    some c24
set_option maxHeartbeats 4000000 in
set_option maxRecDepth 100000 in
theorem c_X0_crossings (E : EX) {n : Nat} {σ : Sto} {ρ : Rho} (a0 : Nat) (h0 : Sh n a0 0) (a1 : Nat) (h1 : Sh n a1 9) (res : Int32) (hM : MX0_crossings σ ρ a0 a1 = some res) : CTi E yX0_crossings cX0_crossings 4 (some .int) 4 [.ref (eb E + a0), .ref (eb E + a1)] n σ ρ res σ ρ := by
  refine ct_i (by decide +kernel) rfl (Nat.le_of_ble_eq_true rfl) (fun X hE hml hC hR => ?_)
  subst hE
  show G X 0 0 n σ ρ 0 [(0, vr X a0), (1, vr X a1)] []
  replace hC : Cx X cX0_crossings RX0 4 := hC
  unfold MX0_crossings at hM
  refine g_aload_n hC dX0_crossings_0 rfl 1 rfl ?_
  refine fg_9_1 hC h1 k_266 dX0_crossings_1 rfl ?_
  refine g_istore_n hC (fun y1 => [(2, .int y1), (0, vr X a0), (1, vr X a1)]) dX0_crossings_4 rfl hM hml (by decide) (fun _ => rfl) (fun y1 hM => ?_)
  refine g_aload_n hC dX0_crossings_5 rfl 2 rfl ?_
  refine fg_9_2 hC h1 k_268 dX0_crossings_6 rfl ?_
  refine g_istore_n hC (fun y2 => [(3, .int y2), (2, .int y1), (0, vr X a0), (1, vr X a1)]) dX0_crossings_9 rfl hM hml (by decide) (fun _ => rfl) (fun y2 hM => ?_)
  refine g_aload_n hC dX0_crossings_10 rfl 3 rfl ?_
  refine fg_9_0 hC h1 k_264 dX0_crossings_11 rfl ?_
  refine g_if_eq (tgt := 121) hC dX0_crossings_14 rfl (by decide) hM (fun hM => ?_) (fun hM => ?_)
  · refine g_iload_n hC dX0_crossings_121 rfl 1 rfl ?_
    refine g_if_eq (tgt := 183) hC dX0_crossings_122 rfl (by decide) hM (fun hM => ?_) (fun hM => ?_)
    · refine g_aload_n hC dX0_crossings_183 rfl 2 rfl ?_
      refine g_aload_n hC dX0_crossings_184 rfl 2 rfl ?_
      refine fg_0_0 hC h0 k_321 dX0_crossings_185 rfl hM (fun j3 hj3 hM => ?_)
      refine fg_2_0 hC hj3 k_232 dX0_crossings_188 rfl ?_
      refine g_aload_n hC dX0_crossings_191 rfl 2 rfl ?_
      refine fg_0_0 hC h0 k_321 dX0_crossings_192 rfl hM (fun j4 hj4 hM => ?_)
      refine fg_2_5 hC hj4 k_242 dX0_crossings_195 rfl ?_
      refine g_aload_n hC dX0_crossings_198 rfl 2 rfl ?_
      refine fg_0_0 hC h0 k_321 dX0_crossings_199 rfl hM (fun j5 hj5 hM => ?_)
      refine fg_2_1 hC hj5 k_234 dX0_crossings_202 rfl ?_
      refine g_callVi (As := [.int ((σ j3 0)), .int ((σ j4 5)), .int ((σ j5 1))]) (st' := []) (k := a0) (L' := 3) hC Y_X0_zeros I_X0_zeros k_929 ⟨by decide, by decide⟩ h0 (ci := 0) (by decide) rfl dX0_crossings_205 rfl rfl rfl (Nat.le_of_ble_eq_true rfl) ⟨Nat.zero_le _, Nat.zero_le _⟩ hM (fun c hc => c_X0_zeros (xE X) a0 h0 ((σ j3 0)) ((σ j4 5)) ((σ j5 1)) c hc) (fun c6 hM => ?_)
      cases hM
      exact g_reti hR dX0_crossings_208 rfl
    · refine g_aload_n hC dX0_crossings_125 rfl 2 rfl ?_
      refine g_aload_n hC dX0_crossings_126 rfl 2 rfl ?_
      refine fg_0_0 hC h0 k_321 dX0_crossings_127 rfl hM (fun j7 hj7 hM => ?_)
      refine fg_2_0 hC hj7 k_232 dX0_crossings_130 rfl ?_
      refine g_aload_n hC dX0_crossings_133 rfl 2 rfl ?_
      refine fg_0_0 hC h0 k_321 dX0_crossings_134 rfl hM (fun j8 hj8 hM => ?_)
      refine fg_2_4 hC hj8 k_240 dX0_crossings_137 rfl ?_
      refine g_aload_n hC dX0_crossings_140 rfl 2 rfl ?_
      refine fg_0_0 hC h0 k_321 dX0_crossings_141 rfl hM (fun j9 hj9 hM => ?_)
      refine fg_2_5 hC hj9 k_242 dX0_crossings_144 rfl ?_
      refine g_iload_n hC dX0_crossings_147 rfl 0 rfl ?_
      refine g_imul hC dX0_crossings_148 rfl ?_
      refine g_isub hC dX0_crossings_149 rfl ?_
      refine g_aload_n hC dX0_crossings_150 rfl 2 rfl ?_
      refine fg_0_0 hC h0 k_321 dX0_crossings_151 rfl hM (fun j10 hj10 hM => ?_)
      refine fg_2_1 hC hj10 k_234 dX0_crossings_154 rfl ?_
      refine g_iload_n hC dX0_crossings_157 rfl 0 rfl ?_
      refine g_imul hC dX0_crossings_158 rfl ?_
      refine g_iload_n hC dX0_crossings_159 rfl 0 rfl ?_
      refine g_imul hC dX0_crossings_160 rfl ?_
      refine g_aload_n hC dX0_crossings_161 rfl 2 rfl ?_
      refine fg_0_0 hC h0 k_321 dX0_crossings_162 rfl hM (fun j11 hj11 hM => ?_)
      refine fg_2_2 hC hj11 k_236 dX0_crossings_165 rfl ?_
      refine g_iadd hC dX0_crossings_168 rfl ?_
      refine g_aload_n hC dX0_crossings_169 rfl 2 rfl ?_
      refine fg_0_0 hC h0 k_321 dX0_crossings_170 rfl hM (fun j12 hj12 hM => ?_)
      refine fg_2_3 hC hj12 k_238 dX0_crossings_173 rfl ?_
      refine g_iload_n hC dX0_crossings_176 rfl 0 rfl ?_
      refine g_imul hC dX0_crossings_177 rfl ?_
      refine g_isub hC dX0_crossings_178 rfl ?_
      refine g_callVi (As := [.int ((σ j7 0)), .int (((σ j8 4) - ((σ j9 5) * y2))), .int ((((((σ j10 1) * y2) * y2) + (σ j11 2)) - ((σ j12 3) * y2)))]) (st' := []) (k := a0) (L' := 3) hC Y_X0_zeros I_X0_zeros k_929 ⟨by decide, by decide⟩ h0 (ci := 0) (by decide) rfl dX0_crossings_179 rfl rfl rfl (Nat.le_of_ble_eq_true rfl) ⟨Nat.zero_le _, Nat.zero_le _⟩ hM (fun c hc => c_X0_zeros (xE X) a0 h0 ((σ j7 0)) (((σ j8 4) - ((σ j9 5) * y2))) ((((((σ j10 1) * y2) * y2) + (σ j11 2)) - ((σ j12 3) * y2))) c hc) (fun c13 hM => ?_)
      cases hM
      exact g_reti hR dX0_crossings_182 rfl
  · refine g_aload_n hC dX0_crossings_17 rfl 2 rfl ?_
    refine g_aload_n hC dX0_crossings_18 rfl 2 rfl ?_
    refine fg_0_0 hC h0 k_321 dX0_crossings_19 rfl hM (fun j14 hj14 hM => ?_)
    refine fg_2_0 hC hj14 k_232 dX0_crossings_22 rfl ?_
    refine g_iload_n hC dX0_crossings_25 rfl 1 rfl ?_
    refine g_imul hC dX0_crossings_26 rfl ?_
    refine g_iload_n hC dX0_crossings_27 rfl 1 rfl ?_
    refine g_imul hC dX0_crossings_28 rfl ?_
    refine g_aload_n hC dX0_crossings_29 rfl 2 rfl ?_
    refine fg_0_0 hC h0 k_321 dX0_crossings_30 rfl hM (fun j15 hj15 hM => ?_)
    refine fg_2_1 hC hj15 k_234 dX0_crossings_33 rfl ?_
    refine g_iadd hC dX0_crossings_36 rfl ?_
    refine g_aload_n hC dX0_crossings_37 rfl 2 rfl ?_
    refine fg_0_0 hC h0 k_321 dX0_crossings_38 rfl hM (fun j16 hj16 hM => ?_)
    refine fg_2_5 hC hj16 k_242 dX0_crossings_41 rfl ?_
    refine g_iload_n hC dX0_crossings_44 rfl 1 rfl ?_
    refine g_imul hC dX0_crossings_45 rfl ?_
    refine g_isub hC dX0_crossings_46 rfl ?_
    refine g_iconst (v := 2) hC dX0_crossings_47 rfl ic_2 ?_
    refine g_aload_n hC dX0_crossings_48 rfl 2 rfl ?_
    refine fg_0_0 hC h0 k_321 dX0_crossings_49 rfl hM (fun j17 hj17 hM => ?_)
    refine fg_2_0 hC hj17 k_232 dX0_crossings_52 rfl ?_
    refine g_imul hC dX0_crossings_55 rfl ?_
    refine g_iload_n hC dX0_crossings_56 rfl 1 rfl ?_
    refine g_imul hC dX0_crossings_57 rfl ?_
    refine g_iload_n hC dX0_crossings_58 rfl 0 rfl ?_
    refine g_imul hC dX0_crossings_59 rfl ?_
    refine g_aload_n hC dX0_crossings_60 rfl 2 rfl ?_
    refine fg_0_0 hC h0 k_321 dX0_crossings_61 rfl hM (fun j18 hj18 hM => ?_)
    refine fg_2_3 hC hj18 k_238 dX0_crossings_64 rfl ?_
    refine g_iadd hC dX0_crossings_67 rfl ?_
    refine g_aload_n hC dX0_crossings_68 rfl 2 rfl ?_
    refine fg_0_0 hC h0 k_321 dX0_crossings_69 rfl hM (fun j19 hj19 hM => ?_)
    refine fg_2_4 hC hj19 k_240 dX0_crossings_72 rfl ?_
    refine g_iload_n hC dX0_crossings_75 rfl 1 rfl ?_
    refine g_imul hC dX0_crossings_76 rfl ?_
    refine g_isub hC dX0_crossings_77 rfl ?_
    refine g_aload_n hC dX0_crossings_78 rfl 2 rfl ?_
    refine fg_0_0 hC h0 k_321 dX0_crossings_79 rfl hM (fun j20 hj20 hM => ?_)
    refine fg_2_5 hC hj20 k_242 dX0_crossings_82 rfl ?_
    refine g_iload_n hC dX0_crossings_85 rfl 0 rfl ?_
    refine g_imul hC dX0_crossings_86 rfl ?_
    refine g_isub hC dX0_crossings_87 rfl ?_
    refine g_aload_n hC dX0_crossings_88 rfl 2 rfl ?_
    refine fg_0_0 hC h0 k_321 dX0_crossings_89 rfl hM (fun j21 hj21 hM => ?_)
    refine fg_2_0 hC hj21 k_232 dX0_crossings_92 rfl ?_
    refine g_iload_n hC dX0_crossings_95 rfl 0 rfl ?_
    refine g_imul hC dX0_crossings_96 rfl ?_
    refine g_iload_n hC dX0_crossings_97 rfl 0 rfl ?_
    refine g_imul hC dX0_crossings_98 rfl ?_
    refine g_aload_n hC dX0_crossings_99 rfl 2 rfl ?_
    refine fg_0_0 hC h0 k_321 dX0_crossings_100 rfl hM (fun j22 hj22 hM => ?_)
    refine fg_2_2 hC hj22 k_236 dX0_crossings_103 rfl ?_
    refine g_iadd hC dX0_crossings_106 rfl ?_
    refine g_aload_n hC dX0_crossings_107 rfl 2 rfl ?_
    refine fg_0_0 hC h0 k_321 dX0_crossings_108 rfl hM (fun j23 hj23 hM => ?_)
    refine fg_2_4 hC hj23 k_240 dX0_crossings_111 rfl ?_
    refine g_iload_n hC dX0_crossings_114 rfl 0 rfl ?_
    refine g_imul hC dX0_crossings_115 rfl ?_
    refine g_isub hC dX0_crossings_116 rfl ?_
    refine g_callVi (As := [.int ((((((σ j14 0) * y1) * y1) + (σ j15 1)) - ((σ j16 5) * y1))), .int ((((((((2 : Int32) * (σ j17 0)) * y1) * y2) + (σ j18 3)) - ((σ j19 4) * y1)) - ((σ j20 5) * y2))), .int ((((((σ j21 0) * y2) * y2) + (σ j22 2)) - ((σ j23 4) * y2)))]) (st' := []) (k := a0) (L' := 3) hC Y_X0_zeros I_X0_zeros k_929 ⟨by decide, by decide⟩ h0 (ci := 0) (by decide) rfl dX0_crossings_117 rfl rfl rfl (Nat.le_of_ble_eq_true rfl) ⟨Nat.zero_le _, Nat.zero_le _⟩ hM (fun c hc => c_X0_zeros (xE X) a0 h0 ((((((σ j14 0) * y1) * y1) + (σ j15 1)) - ((σ j16 5) * y1))) ((((((((2 : Int32) * (σ j17 0)) * y1) * y2) + (σ j18 3)) - ((σ j19 4) * y1)) - ((σ j20 5) * y2))) ((((((σ j21 0) * y2) * y2) + (σ j22 2)) - ((σ j23 4) * y2))) c hc) (fun c24 hM => ?_)
    cases hM
    exact g_reti hR dX0_crossings_120 rfl
def MX3_nth (σ : Sto) (a0 : Nat) (a1 : Int32) : Option (Int32) :=
  if a1 = (0 : Int32) then
    some (σ a0 0)
  else
  if a1 = (1 : Int32) then
    some (σ a0 1)
  else
  if a1 = (2 : Int32) then
    some (σ a0 2)
  else
  if a1 = (3 : Int32) then
    some (σ a0 3)
  else
  if a1 = (4 : Int32) then
    some (σ a0 4)
  else
  some (σ a0 5)
set_option maxHeartbeats 4000000 in
set_option maxRecDepth 100000 in
theorem c_X3_nth (E : EX) {n : Nat} {ρ : Rho} {σ : Sto} (a0 : Nat) (h0 : Sh n a0 2) (a1 : Int32) (res : Int32) (hM : MX3_nth σ a0 a1 = some res) : CTi E yX3_nth cX3_nth 2 (some .int) 0 [.ref (eb E + a0), .int a1] n σ ρ res σ ρ := by
  refine ct_i (by decide +kernel) rfl (Nat.le_of_ble_eq_true rfl) (fun X hE hml hC hR => ?_)
  subst hE
  show G X 0 0 n σ ρ 0 [(0, vr X a0), (1, .int a1)] []
  replace hC : Cx X cX3_nth RX3 0 := hC
  unfold MX3_nth at hM
  refine g_iload_n hC dX3_nth_0 rfl 1 rfl ?_
  refine g_ite hM (fun hx0 hM => ?_) (fun hx0 hM => ?_)
  · refine g_tswK (tgt := 36) hC dX3_nth_1 rfl hx0 (z := 0) (by decide) (by decide) (by decide) rfl (by decide) ?_
    refine g_aload_n hC dX3_nth_36 rfl 0 rfl ?_
    refine fg_2_0 hC h0 k_231 dX3_nth_37 rfl ?_
    cases hM
    exact g_reti hR dX3_nth_40 rfl
  refine g_ite hM (fun hx1 hM => ?_) (fun hx1 hM => ?_)
  · refine g_tswK (tgt := 41) hC dX3_nth_1 rfl hx1 (z := 1) (by decide) (by decide) (by decide) rfl (by decide) ?_
    refine g_aload_n hC dX3_nth_41 rfl 0 rfl ?_
    refine fg_2_1 hC h0 k_233 dX3_nth_42 rfl ?_
    cases hM
    exact g_reti hR dX3_nth_45 rfl
  refine g_ite hM (fun hx2 hM => ?_) (fun hx2 hM => ?_)
  · refine g_tswK (tgt := 46) hC dX3_nth_1 rfl hx2 (z := 2) (by decide) (by decide) (by decide) rfl (by decide) ?_
    refine g_aload_n hC dX3_nth_46 rfl 0 rfl ?_
    refine fg_2_2 hC h0 k_235 dX3_nth_47 rfl ?_
    cases hM
    exact g_reti hR dX3_nth_50 rfl
  refine g_ite hM (fun hx3 hM => ?_) (fun hx3 hM => ?_)
  · refine g_tswK (tgt := 51) hC dX3_nth_1 rfl hx3 (z := 3) (by decide) (by decide) (by decide) rfl (by decide) ?_
    refine g_aload_n hC dX3_nth_51 rfl 0 rfl ?_
    refine fg_2_3 hC h0 k_237 dX3_nth_52 rfl ?_
    cases hM
    exact g_reti hR dX3_nth_55 rfl
  refine g_ite hM (fun hx4 hM => ?_) (fun hx4 hM => ?_)
  · refine g_tswK (tgt := 56) hC dX3_nth_1 rfl hx4 (z := 4) (by decide) (by decide) (by decide) rfl (by decide) ?_
    refine g_aload_n hC dX3_nth_56 rfl 0 rfl ?_
    refine fg_2_4 hC h0 k_239 dX3_nth_57 rfl ?_
    cases hM
    exact g_reti hR dX3_nth_60 rfl
  replace hx0 := lv_neT hx0 (a := 0) (by decide)
  replace hx1 := lv_neT hx1 (a := 1) (by decide)
  replace hx2 := lv_neT hx2 (a := 2) (by decide)
  replace hx3 := lv_neT hx3 (a := 3) (by decide)
  replace hx4 := lv_neT hx4 (a := 4) (by decide)
  refine g_tswD (tgt := 61) hC dX3_nth_1 rfl (by omega) (by decide) ?_
  refine g_aload_n hC dX3_nth_61 rfl 0 rfl ?_
  refine fg_2_5 hC h0 k_241 dX3_nth_62 rfl ?_
  cases hM
  exact g_reti hR dX3_nth_65 rfl
def BX0_isUnlike_75 (σ : Sto) (ρ : Rho) (a0 : Nat) (a1 : Nat) (rec : Int32 → Option (Int32)) (v2 : Int32) : Option (Int32) :=
  bn (v2 + (1 : Int32)) fun y1 =>
  rec y1
set_option maxHeartbeats 4000000 in
set_option maxRecDepth 100000 in
theorem bX0_isUnlike_75 {X : CX} {n : Nat} {σ : Sto} {ρ : Rho} {res : Int32} (hC : Cx X cX0_isUnlike RX0 2) (hml : (xc X).maxLocals = 5) (hR : RtT (some .boolean) X cX0_isUnlike n res σ ρ) (a0 : Nat) (a1 : Nat) (h0 : Sh n a0 0) (h1 : Sh n a1 0) (rec : Int32 → Option (Int32)) (ih : ∀ (v2 : Int32), rec v2 = some res → G X 0 0 n σ ρ 2 [(0, vr X a0), (1, vr X a1), (2, .int v2)] []) : ∀ (v2 : Int32), BX0_isUnlike_75 σ ρ a0 a1 rec v2 = some res → G X 0 0 n σ ρ 75 [(0, vr X a0), (1, vr X a1), (2, .int v2)] [] := by
  intro v2 hM
  unfold BX0_isUnlike_75 at hM
  refine g_iinc (v := 1) hC (fun y1 => [(2, .int y1), (0, vr X a0), (1, vr X a1)]) dX0_isUnlike_75 rfl hM (j := 2) rfl ic_1 hml (by decide) (fun _ => rfl) (fun y1 hM => ?_)
  refine g_goto (tgt := 2) hC dX0_isUnlike_78 rfl (by decide) ?_
  exact g_sub [1, 2, 0] (ih _ hM) rfl
def FX0_isUnlike_12 (σ : Sto) (ρ : Rho) (a0 : Nat) (a1 : Nat) (k75 : Int32 → Option (Int32)) (rec : Int32 → Int32 → Option (Int32)) (v2 : Int32) (v3 : Int32) : Option (Int32) :=
  if (6 : Int32) ≤ v3 then
    k75 v2
  else
    Option.bind (ρ a0 0) fun j1 =>
    Option.bind (MX3_nth σ j1 v2) fun c2 =>
    Option.bind (ρ a1 0) fun j3 =>
    Option.bind (MX3_nth σ j3 v3) fun c4 =>
    Option.bind (ρ a0 0) fun j5 =>
    Option.bind (MX3_nth σ j5 v3) fun c6 =>
    Option.bind (ρ a1 0) fun j7 =>
    Option.bind (MX3_nth σ j7 v2) fun c8 =>
    bn (((c2 * c4) - (c6 * c8))) fun y9 =>
    Option.bind (MX2_rest y9 ((σ a0 1))) fun c10 =>
    if c10 = 0 then
      bn (v3 + (1 : Int32)) fun y11 =>
      rec v2 y11
    else
      zr ((1 : Int32)) (some (1 : Int32))
set_option maxHeartbeats 4000000 in
set_option maxRecDepth 100000 in
theorem bX0_isUnlike_12 {X : CX} {n : Nat} {σ : Sto} {ρ : Rho} {res : Int32} (hC : Cx X cX0_isUnlike RX0 2) (hml : (xc X).maxLocals = 5) (hR : RtT (some .boolean) X cX0_isUnlike n res σ ρ) (a0 : Nat) (a1 : Nat) (h0 : Sh n a0 0) (h1 : Sh n a1 0) (k75 : Int32 → Option (Int32)) (hk75 : ∀ (v2 : Int32), k75 v2 = some res → G X 0 0 n σ ρ 75 [(0, vr X a0), (1, vr X a1), (2, .int v2)] []) (fu : Nat) : ∀ (v2 : Int32) (v3 : Int32), fixN (fun _ _ => none) (FX0_isUnlike_12 σ ρ a0 a1 k75) fu v2 v3 = some res → G X 0 0 n σ ρ 12 [(0, vr X a0), (1, vr X a1), (2, .int v2), (3, .int v3)] [] := by
  refine fixN_ind (P := fun (f : Int32 → Int32 → Option (Int32)) => ∀ (v2 : Int32) (v3 : Int32), f v2 v3 = some res → G X 0 0 n σ ρ 12 [(0, vr X a0), (1, vr X a1), (2, .int v2), (3, .int v3)] []) ?_ ?_ fu
  · intro v2 v3 hM; cases hM
  · intro rec ih v2 v3 hM
    unfold FX0_isUnlike_12 at hM
    refine g_iload_n hC dX0_isUnlike_12 rfl 3 rfl ?_
    refine g_bipush (v := 6) hC dX0_isUnlike_13 rfl ib_6 ?_
    refine g_icmp_ge (tgt := 75) hC dX0_isUnlike_15 rfl (by decide) hM (fun hM => ?_) (fun hM => ?_)
    · exact g_sub [0, 1, 2] (hk75 _ hM) rfl
    · refine g_aload_n hC dX0_isUnlike_18 rfl 0 rfl ?_
      refine fg_0_0 hC h0 k_321 dX0_isUnlike_19 rfl hM (fun j1 hj1 hM => ?_)
      refine g_iload_n hC dX0_isUnlike_22 rfl 2 rfl ?_
      refine g_callVi (As := [.int v2]) (st' := []) (k := j1) (L' := 0) hC Y_X3_nth I_X3_nth k_983 ⟨by decide, by decide⟩ hj1 (ci := 2) (by decide) rfl dX0_isUnlike_23 rfl rfl rfl (Nat.le_of_ble_eq_true rfl) ⟨Nat.zero_le _, Nat.zero_le _⟩ hM (fun c hc => c_X3_nth (xE X) j1 hj1 v2 c hc) (fun c2 hM => ?_)
      refine g_aload_n hC dX0_isUnlike_26 rfl 1 rfl ?_
      refine fg_0_0 hC h1 k_321 dX0_isUnlike_27 rfl hM (fun j3 hj3 hM => ?_)
      refine g_iload_n hC dX0_isUnlike_30 rfl 3 rfl ?_
      refine g_callVi (As := [.int v3]) (st' := [.int c2]) (k := j3) (L' := 0) hC Y_X3_nth I_X3_nth k_983 ⟨by decide, by decide⟩ hj3 (ci := 2) (by decide) rfl dX0_isUnlike_31 rfl rfl rfl (Nat.le_of_ble_eq_true rfl) ⟨Nat.zero_le _, Nat.zero_le _⟩ hM (fun c hc => c_X3_nth (xE X) j3 hj3 v3 c hc) (fun c4 hM => ?_)
      refine g_imul hC dX0_isUnlike_34 rfl ?_
      refine g_aload_n hC dX0_isUnlike_35 rfl 0 rfl ?_
      refine fg_0_0 hC h0 k_321 dX0_isUnlike_36 rfl hM (fun j5 hj5 hM => ?_)
      refine g_iload_n hC dX0_isUnlike_39 rfl 3 rfl ?_
      refine g_callVi (As := [.int v3]) (st' := [.int ((c2 * c4))]) (k := j5) (L' := 0) hC Y_X3_nth I_X3_nth k_983 ⟨by decide, by decide⟩ hj5 (ci := 2) (by decide) rfl dX0_isUnlike_40 rfl rfl rfl (Nat.le_of_ble_eq_true rfl) ⟨Nat.zero_le _, Nat.zero_le _⟩ hM (fun c hc => c_X3_nth (xE X) j5 hj5 v3 c hc) (fun c6 hM => ?_)
      refine g_aload_n hC dX0_isUnlike_43 rfl 1 rfl ?_
      refine fg_0_0 hC h1 k_321 dX0_isUnlike_44 rfl hM (fun j7 hj7 hM => ?_)
      refine g_iload_n hC dX0_isUnlike_47 rfl 2 rfl ?_
      refine g_callVi (As := [.int v2]) (st' := [.int c6, .int ((c2 * c4))]) (k := j7) (L' := 0) hC Y_X3_nth I_X3_nth k_983 ⟨by decide, by decide⟩ hj7 (ci := 2) (by decide) rfl dX0_isUnlike_48 rfl rfl rfl (Nat.le_of_ble_eq_true rfl) ⟨Nat.zero_le _, Nat.zero_le _⟩ hM (fun c hc => c_X3_nth (xE X) j7 hj7 v2 c hc) (fun c8 hM => ?_)
      refine g_imul hC dX0_isUnlike_51 rfl ?_
      refine g_isub hC dX0_isUnlike_52 rfl ?_
      refine g_istore hC (fun y9 => [(4, .int y9), (0, vr X a0), (1, vr X a1), (2, .int v2), (3, .int v3)]) dX0_isUnlike_53 rfl hM hml (by decide) (fun _ => rfl) (fun y9 hM => ?_)
      refine g_iload hC dX0_isUnlike_55 rfl 0 rfl ?_
      refine g_aload_n hC dX0_isUnlike_57 rfl 1 rfl ?_
      refine fg_0_1 hC h0 k_325 dX0_isUnlike_58 rfl ?_
      refine g_callSi (As := [.int y9, .int ((σ a0 1))]) (st' := []) (L' := 1) hC Y_X2_rest k_699 k_717 ⟨by decide, by decide⟩ dX0_isUnlike_61 rfl rfl rfl (Nat.le_of_ble_eq_true rfl) ⟨Nat.zero_le _, Nat.zero_le _⟩ hM (fun c hc => c_X2_rest (xE X) y9 ((σ a0 1)) c hc) (fun c10 hM => ?_)
      refine g_if_eq (tgt := 69) hC dX0_isUnlike_64 rfl (by decide) hM (fun hM => ?_) (fun hM => ?_)
      · refine g_iinc (v := 1) hC (fun y11 => [(3, .int y11), (4, .int y9), (0, vr X a0), (1, vr X a1), (2, .int v2)]) dX0_isUnlike_69 rfl hM (j := 4) rfl ic_1 hml (by decide) (fun _ => rfl) (fun y11 hM => ?_)
        refine g_goto (tgt := 12) hC dX0_isUnlike_72 rfl (by decide) ?_
        exact g_sub [2, 3, 4, 0] (ih _ _ hM) rfl
      · refine g_iconst (v := 1) hC dX0_isUnlike_67 rfl ic_1 ?_
        exact g_retz hM dX0_isUnlike_68 rfl (fun h => by cases h; exact hR)
def FX0_isUnlike_2 (σ : Sto) (ρ : Rho) (a0 : Nat) (a1 : Nat) (rec : Int32 → Option (Int32)) (v2 : Int32) : Option (Int32) :=
  if (6 : Int32) ≤ v2 then
    zr ((0 : Int32)) (some (0 : Int32))
  else
    bn ((v2 + (1 : Int32))) fun y1 =>
    fixN (fun _ _ => none) (FX0_isUnlike_12 σ ρ a0 a1 (BX0_isUnlike_75 σ ρ a0 a1 rec)) FU v2 y1
set_option maxHeartbeats 4000000 in
set_option maxRecDepth 100000 in
theorem bX0_isUnlike_2 {X : CX} {n : Nat} {σ : Sto} {ρ : Rho} {res : Int32} (hC : Cx X cX0_isUnlike RX0 2) (hml : (xc X).maxLocals = 5) (hR : RtT (some .boolean) X cX0_isUnlike n res σ ρ) (a0 : Nat) (a1 : Nat) (h0 : Sh n a0 0) (h1 : Sh n a1 0) (fu : Nat) : ∀ (v2 : Int32), fixN (fun _ => none) (FX0_isUnlike_2 σ ρ a0 a1) fu v2 = some res → G X 0 0 n σ ρ 2 [(0, vr X a0), (1, vr X a1), (2, .int v2)] [] := by
  refine fixN_ind (P := fun (f : Int32 → Option (Int32)) => ∀ (v2 : Int32), f v2 = some res → G X 0 0 n σ ρ 2 [(0, vr X a0), (1, vr X a1), (2, .int v2)] []) ?_ ?_ fu
  · intro v2 hM; cases hM
  · intro rec ih v2 hM
    unfold FX0_isUnlike_2 at hM
    refine g_iload_n hC dX0_isUnlike_2 rfl 2 rfl ?_
    refine g_bipush (v := 6) hC dX0_isUnlike_3 rfl ib_6 ?_
    refine g_icmp_ge (tgt := 81) hC dX0_isUnlike_5 rfl (by decide) hM (fun hM => ?_) (fun hM => ?_)
    · refine g_iconst (v := 0) hC dX0_isUnlike_81 rfl ic_0 ?_
      exact g_retz hM dX0_isUnlike_82 rfl (fun h => by cases h; exact hR)
    · refine g_iload_n hC dX0_isUnlike_8 rfl 2 rfl ?_
      refine g_iconst (v := 1) hC dX0_isUnlike_9 rfl ic_1 ?_
      refine g_iadd hC dX0_isUnlike_10 rfl ?_
      refine g_istore_n hC (fun y1 => [(3, .int y1), (0, vr X a0), (1, vr X a1), (2, .int v2)]) dX0_isUnlike_11 rfl hM hml (by decide) (fun _ => rfl) (fun y1 hM => ?_)
      exact g_sub [1, 2, 3, 0] ((bX0_isUnlike_12 hC hml hR a0 a1 h0 h1 (BX0_isUnlike_75 σ ρ a0 a1 rec) (bX0_isUnlike_75 hC hml hR a0 a1 h0 h1 rec ih ) FU) _ _ hM) rfl
def MX0_isUnlike (σ : Sto) (ρ : Rho) (a0 : Nat) (a1 : Nat) : Option (Int32) :=
  bn ((0 : Int32)) fun y1 =>
  fixN (fun _ => none) (FX0_isUnlike_2 σ ρ a0 a1) FU y1
set_option maxHeartbeats 4000000 in
set_option maxRecDepth 100000 in
theorem c_X0_isUnlike (E : EX) {n : Nat} {σ : Sto} {ρ : Rho} (a0 : Nat) (h0 : Sh n a0 0) (a1 : Nat) (h1 : Sh n a1 0) (res : Int32) (hM : MX0_isUnlike σ ρ a0 a1 = some res) : CTi E yX0_isUnlike cX0_isUnlike 5 (some .boolean) 2 [.ref (eb E + a0), .ref (eb E + a1)] n σ ρ res σ ρ := by
  refine ct_i (by decide +kernel) rfl (Nat.le_of_ble_eq_true rfl) (fun X hE hml hC hR => ?_)
  subst hE
  show G X 0 0 n σ ρ 0 [(0, vr X a0), (1, vr X a1)] []
  replace hC : Cx X cX0_isUnlike RX0 2 := hC
  unfold MX0_isUnlike at hM
  refine g_iconst (v := 0) hC dX0_isUnlike_0 rfl ic_0 ?_
  refine g_istore_n hC (fun y1 => [(2, .int y1), (0, vr X a0), (1, vr X a1)]) dX0_isUnlike_1 rfl hM hml (by decide) (fun _ => rfl) (fun y1 hM => ?_)
  exact g_sub [1, 2, 0] ((bX0_isUnlike_2 hC hml hR a0 a1 h0 h1  FU) _ hM) rfl
def MX10_init (a0 : Nat) : Option (Unit) :=
  some ()
set_option maxHeartbeats 4000000 in
set_option maxRecDepth 100000 in
theorem c_X10_init (E : EX) {n : Nat} {σ : Sto} {ρ : Rho} (a0 : Nat) (h0 : Sh n a0 9) (res : Unit) (hM : MX10_init a0 = some res) : CTv E yX10_init cX10_init 1 1 0 0 [.ref (eb E + a0)] n σ ρ σ ρ := by
  refine ct_v (by decide +kernel) (Nat.le_of_ble_eq_true rfl) (fun X hE hml hin hRm hC hR => ?_)
  subst hE
  show G X 0 0 n σ ρ 0 [(0, vr X a0)] []
  replace hC : Cx X cX10_init RX10 1 := hC
  unfold MX10_init at hM
  refine g_aload_n hC dX10_init_0 rfl 0 rfl ?_
  refine g_objInit hC k_262 k_117 k_118 (by decide) dX10_init_1 rfl (Nat.le_of_ble_eq_true rfl) ?_
  cases hM
  exact g_retv hR dX10_init_4 rfl
def MX3_change (σ : Sto) (a0 : Nat) (a1 : Int32) (a2 : Int32) : Option (Sto) :=
  if a1 = (0 : Int32) then
    bn (su σ a0 0 a2) fun σ1 =>
    some σ1
  else
  if a1 = (1 : Int32) then
    bn (su σ a0 1 a2) fun σ2 =>
    some σ2
  else
  if a1 = (2 : Int32) then
    bn (su σ a0 2 a2) fun σ3 =>
    some σ3
  else
  if a1 = (3 : Int32) then
    bn (su σ a0 3 a2) fun σ4 =>
    some σ4
  else
  if a1 = (4 : Int32) then
    bn (su σ a0 4 a2) fun σ5 =>
    some σ5
  else
  bn (su σ a0 5 a2) fun σ6 =>
  some σ6
set_option maxHeartbeats 4000000 in
set_option maxRecDepth 100000 in
theorem c_X3_change (E : EX) {n : Nat} {ρ : Rho} {σ : Sto} (a0 : Nat) (h0 : Sh n a0 2) (a1 : Int32) (a2 : Int32) (res : Sto) (hM : MX3_change σ a0 a1 a2 = some res) : CTv E yX3_change cX3_change 3 0 0 0 [.ref (eb E + a0), .int a1, .int a2] n σ ρ res ρ := by
  refine ct_v (by decide +kernel) (Nat.le_of_ble_eq_true rfl) (fun X hE hml hin hRm hC hR => ?_)
  subst hE
  show G X 0 0 n σ ρ 0 [(0, vr X a0), (1, .int a1), (2, .int a2)] []
  replace hC : Cx X cX3_change RX3 0 := hC
  unfold MX3_change at hM
  refine g_iload_n hC dX3_change_0 rfl 1 rfl ?_
  refine g_ite hM (fun hx0 hM => ?_) (fun hx0 hM => ?_)
  · refine g_tswK (tgt := 36) hC dX3_change_1 rfl hx0 (z := 0) (by decide) (by decide) (by decide) rfl (by decide) ?_
    refine g_aload_n hC dX3_change_36 rfl 0 rfl ?_
    refine g_iload_n hC dX3_change_37 rfl 2 rfl ?_
    refine fp_2_0 hC h0 k_231 dX3_change_38 rfl hM (fun σ1 hM => ?_)
    refine g_goto (tgt := 81) hC dX3_change_41 rfl (by decide) ?_
    cases hM
    exact g_retv hR dX3_change_81 rfl
  refine g_ite hM (fun hx1 hM => ?_) (fun hx1 hM => ?_)
  · refine g_tswK (tgt := 44) hC dX3_change_1 rfl hx1 (z := 1) (by decide) (by decide) (by decide) rfl (by decide) ?_
    refine g_aload_n hC dX3_change_44 rfl 0 rfl ?_
    refine g_iload_n hC dX3_change_45 rfl 2 rfl ?_
    refine fp_2_1 hC h0 k_233 dX3_change_46 rfl hM (fun σ2 hM => ?_)
    refine g_goto (tgt := 81) hC dX3_change_49 rfl (by decide) ?_
    cases hM
    exact g_retv hR dX3_change_81 rfl
  refine g_ite hM (fun hx2 hM => ?_) (fun hx2 hM => ?_)
  · refine g_tswK (tgt := 52) hC dX3_change_1 rfl hx2 (z := 2) (by decide) (by decide) (by decide) rfl (by decide) ?_
    refine g_aload_n hC dX3_change_52 rfl 0 rfl ?_
    refine g_iload_n hC dX3_change_53 rfl 2 rfl ?_
    refine fp_2_2 hC h0 k_235 dX3_change_54 rfl hM (fun σ3 hM => ?_)
    refine g_goto (tgt := 81) hC dX3_change_57 rfl (by decide) ?_
    cases hM
    exact g_retv hR dX3_change_81 rfl
  refine g_ite hM (fun hx3 hM => ?_) (fun hx3 hM => ?_)
  · refine g_tswK (tgt := 60) hC dX3_change_1 rfl hx3 (z := 3) (by decide) (by decide) (by decide) rfl (by decide) ?_
    refine g_aload_n hC dX3_change_60 rfl 0 rfl ?_
    refine g_iload_n hC dX3_change_61 rfl 2 rfl ?_
    refine fp_2_3 hC h0 k_237 dX3_change_62 rfl hM (fun σ4 hM => ?_)
    refine g_goto (tgt := 81) hC dX3_change_65 rfl (by decide) ?_
    cases hM
    exact g_retv hR dX3_change_81 rfl
  refine g_ite hM (fun hx4 hM => ?_) (fun hx4 hM => ?_)
  · refine g_tswK (tgt := 68) hC dX3_change_1 rfl hx4 (z := 4) (by decide) (by decide) (by decide) rfl (by decide) ?_
    refine g_aload_n hC dX3_change_68 rfl 0 rfl ?_
    refine g_iload_n hC dX3_change_69 rfl 2 rfl ?_
    refine fp_2_4 hC h0 k_239 dX3_change_70 rfl hM (fun σ5 hM => ?_)
    refine g_goto (tgt := 81) hC dX3_change_73 rfl (by decide) ?_
    cases hM
    exact g_retv hR dX3_change_81 rfl
  replace hx0 := lv_neT hx0 (a := 0) (by decide)
  replace hx1 := lv_neT hx1 (a := 1) (by decide)
  replace hx2 := lv_neT hx2 (a := 2) (by decide)
  replace hx3 := lv_neT hx3 (a := 3) (by decide)
  replace hx4 := lv_neT hx4 (a := 4) (by decide)
  refine g_tswD (tgt := 76) hC dX3_change_1 rfl (by omega) (by decide) ?_
  refine g_aload_n hC dX3_change_76 rfl 0 rfl ?_
  refine g_iload_n hC dX3_change_77 rfl 2 rfl ?_
  refine fp_2_5 hC h0 k_241 dX3_change_78 rfl hM (fun σ6 hM => ?_)
  cases hM
  exact g_retv hR dX3_change_81 rfl
