def BX11_twist_16 (ρ : Rho) (a0 : Nat) (a1 : Int32) (a2 : Int32) (σ : Sto) : Option (Int32 × Sto) :=
  Option.bind (MX11_refuse σ ρ a0 ((1 : Int32)) ((0 : Int32))) fun c1 =>
  some (c1.1, c1.2)
set_option maxHeartbeats 4000000 in
set_option maxRecDepth 100000 in
theorem bX11_twist_16 {X : CX} {n : Nat} {ρ : Rho} {res : Int32 × Sto} (hC : Cx X cX11_twist RX11 4) (hml : (xc X).maxLocals = 3) (hR : RtT (some .int) X cX11_twist n res.1 res.2 ρ) (a0 : Nat) (a1 : Int32) (a2 : Int32) (h0 : Sh n a0 10) : ∀ (σ : Sto), BX11_twist_16 ρ a0 a1 a2 σ = some res → G X 0 0 n σ ρ 16 [(0, vr X a0), (1, .int a1), (2, .int a2)] [] := by
  intro σ hM
  unfold BX11_twist_16 at hM
  refine g_aload_n hC dX11_twist_16 rfl 0 rfl ?_
  refine g_iconst (v := 1) hC dX11_twist_17 rfl ic_1 ?_
  refine g_iconst (v := 0) hC dX11_twist_18 rfl ic_0 ?_
  refine g_callVi (As := [.int ((1 : Int32)), .int ((0 : Int32))]) (st' := []) (k := a0) (L' := 0) hC Y_X11_refuse I_X11_refuse k_637 ⟨by decide, by decide⟩ h0 (ci := 10) (by decide) rfl dX11_twist_19 rfl rfl rfl (Nat.le_of_ble_eq_true rfl) ⟨Nat.zero_le _, Nat.zero_le _⟩ hM (fun c hc => c_X11_refuse (xE X) a0 h0 ((1 : Int32)) ((0 : Int32)) c hc) (fun c1 hM => ?_)
  cases hM
  exact g_reti hR dX11_twist_22 rfl
def MX11_twist (σ : Sto) (ρ : Rho) (a0 : Nat) (a1 : Int32) (a2 : Int32) : Option (Int32 × Sto) :=
  Option.bind (MX11_isConic a1) fun c1 =>
  if c1 = 0 then
    BX11_twist_16 ρ a0 a1 a2 σ
  else
    if a2 < 0 then
      BX11_twist_16 ρ a0 a1 a2 σ
    else
      if a2 ≤ (2 : Int32) then
        Option.bind (ρ a0 0) fun j2 =>
        Option.bind (ρ j2 0) fun j3 =>
        Option.bind (ρ a0 9) fun j4 =>
        Option.bind (MX8_read σ ρ j3 a1 j4) fun c5 =>
        Option.bind (ρ a0 10) fun j6 =>
        Option.bind (ρ a0 9) fun j7 =>
        Option.bind (MX3_copy c5 j6 j7) fun c8 =>
        Option.bind (ρ a0 9) fun j9 =>
        Option.bind (MX3_twisted c8 j9 a2) fun c10 =>
        Option.bind (ρ a0 9) fun j11 =>
        Option.bind (ρ a0 10) fun j12 =>
        Option.bind (MX3_isLike c10 j11 j12) fun c13 =>
        if c13 = 0 then
          Option.bind (ρ a0 9) fun j14 =>
          Option.bind (MX11_become c10 ρ a0 a1 j14) fun c15 =>
          some (c15.1, c15.2)
        else
          Option.bind (MX11_refuse c10 ρ a0 ((2 : Int32)) ((0 : Int32))) fun c16 =>
          some (c16.1, c16.2)
      else
        BX11_twist_16 ρ a0 a1 a2 σ
set_option maxHeartbeats 4000000 in
set_option maxRecDepth 100000 in
theorem c_X11_twist (E : EX) {n : Nat} {σ : Sto} {ρ : Rho} (a0 : Nat) (h0 : Sh n a0 10) (a1 : Int32) (a2 : Int32) (res : Int32 × Sto) (hM : MX11_twist σ ρ a0 a1 a2 = some res) : CTi E yX11_twist cX11_twist 3 (some .int) 4 [.ref (eb E + a0), .int a1, .int a2] n σ ρ res.1 res.2 ρ := by
  refine ct_i (by decide +kernel) rfl (Nat.le_of_ble_eq_true rfl) (fun X hE hml hC hR => ?_)
  subst hE
  show G X 0 0 n σ ρ 0 [(0, vr X a0), (1, .int a1), (2, .int a2)] []
  replace hC : Cx X cX11_twist RX11 4 := hC
  unfold MX11_twist at hM
  refine g_iload_n hC dX11_twist_0 rfl 1 rfl ?_
  refine g_callSi (As := [.int a1]) (st' := []) (L' := 0) hC Y_X11_isConic k_559 k_658 ⟨by decide, by decide⟩ dX11_twist_1 rfl rfl rfl (Nat.le_of_ble_eq_true rfl) ⟨Nat.zero_le _, Nat.zero_le _⟩ hM (fun c hc => c_X11_isConic (xE X) a1 c hc) (fun c1 hM => ?_)
  refine g_if_eq (tgt := 16) hC dX11_twist_4 rfl (by decide) hM (fun hM => ?_) (fun hM => ?_)
  · exact g_sub [0, 1, 2] ((bX11_twist_16 hC hml hR a0 a1 a2 h0 ) _ hM) rfl
  · refine g_iload_n hC dX11_twist_7 rfl 2 rfl ?_
    refine g_if_lt (tgt := 16) hC dX11_twist_8 rfl (by decide) hM (fun hM => ?_) (fun hM => ?_)
    · exact g_sub [0, 1, 2] ((bX11_twist_16 hC hml hR a0 a1 a2 h0 ) _ hM) rfl
    · refine g_iload_n hC dX11_twist_11 rfl 2 rfl ?_
      refine g_iconst (v := 2) hC dX11_twist_12 rfl ic_2 ?_
      refine g_icmp_le (tgt := 23) hC dX11_twist_13 rfl (by decide) hM (fun hM => ?_) (fun hM => ?_)
      · refine g_aload_n hC dX11_twist_23 rfl 0 rfl ?_
        refine fg_10_0 hC h0 k_380 dX11_twist_24 rfl hM (fun j2 hj2 hM => ?_)
        refine fg_3_0 hC hj2 k_172 dX11_twist_27 rfl hM (fun j3 hj3 hM => ?_)
        refine g_iload_n hC dX11_twist_30 rfl 1 rfl ?_
        refine g_aload_n hC dX11_twist_31 rfl 0 rfl ?_
        refine fg_10_9 hC h0 k_389 dX11_twist_32 rfl hM (fun j4 hj4 hM => ?_)
        refine g_callVv0 (As := [.int a1, vr X j4]) (st' := []) (k := j3) (L' := 1) hC Y_X8_read I_X8_read k_663 ⟨by decide, by decide⟩ hj3 (ci := 7) (by decide) rfl dX11_twist_35 rfl rfl rfl (Nat.le_of_ble_eq_true rfl) ⟨Nat.zero_le _, Nat.zero_le _⟩ hM (fun c hc => c_X8_read (xE X) j3 hj3 a1 j4 hj4 c hc) (fun c5 hM => ?_)
        refine g_aload_n hC dX11_twist_38 rfl 0 rfl ?_
        refine fg_10_10 hC h0 k_390 dX11_twist_39 rfl hM (fun j6 hj6 hM => ?_)
        refine g_aload_n hC dX11_twist_42 rfl 0 rfl ?_
        refine fg_10_9 hC h0 k_389 dX11_twist_43 rfl hM (fun j7 hj7 hM => ?_)
        refine g_callVv0 (As := [vr X j7]) (st' := []) (k := j6) (L' := 1) hC Y_X3_copy I_X3_copy k_739 ⟨by decide, by decide⟩ hj6 (ci := 2) (by decide) rfl dX11_twist_46 rfl rfl rfl (Nat.le_of_ble_eq_true rfl) ⟨Nat.zero_le _, Nat.zero_le _⟩ hM (fun c hc => c_X3_copy (xE X) j6 hj6 j7 hj7 c hc) (fun c8 hM => ?_)
        refine g_aload_n hC dX11_twist_49 rfl 0 rfl ?_
        refine fg_10_9 hC h0 k_389 dX11_twist_50 rfl hM (fun j9 hj9 hM => ?_)
        refine g_iload_n hC dX11_twist_53 rfl 2 rfl ?_
        refine g_callVv0 (As := [.int a2]) (st' := []) (k := j9) (L' := 1) hC Y_X3_twisted I_X3_twisted k_743 ⟨by decide, by decide⟩ hj9 (ci := 2) (by decide) rfl dX11_twist_54 rfl rfl rfl (Nat.le_of_ble_eq_true rfl) ⟨Nat.zero_le _, Nat.zero_le _⟩ hM (fun c hc => c_X3_twisted (xE X) j9 hj9 a2 c hc) (fun c10 hM => ?_)
        refine g_aload_n hC dX11_twist_57 rfl 0 rfl ?_
        refine fg_10_9 hC h0 k_389 dX11_twist_58 rfl hM (fun j11 hj11 hM => ?_)
        refine g_aload_n hC dX11_twist_61 rfl 0 rfl ?_
        refine fg_10_10 hC h0 k_390 dX11_twist_62 rfl hM (fun j12 hj12 hM => ?_)
        refine g_callVi (As := [vr X j12]) (st' := []) (k := j11) (L' := 0) hC Y_X3_isLike I_X3_isLike k_747 ⟨by decide, by decide⟩ hj11 (ci := 2) (by decide) rfl dX11_twist_65 rfl rfl rfl (Nat.le_of_ble_eq_true rfl) ⟨Nat.zero_le _, Nat.zero_le _⟩ hM (fun c hc => c_X3_isLike (xE X) j11 hj11 j12 hj12 c hc) (fun c13 hM => ?_)
        refine g_if_eq (tgt := 78) hC dX11_twist_68 rfl (by decide) hM (fun hM => ?_) (fun hM => ?_)
        · refine g_aload_n hC dX11_twist_78 rfl 0 rfl ?_
          refine g_iload_n hC dX11_twist_79 rfl 1 rfl ?_
          refine g_aload_n hC dX11_twist_80 rfl 0 rfl ?_
          refine fg_10_9 hC h0 k_389 dX11_twist_81 rfl hM (fun j14 hj14 hM => ?_)
          refine g_callVi (As := [.int a1, vr X j14]) (st' := []) (k := a0) (L' := 3) hC Y_X11_become I_X11_become k_670 ⟨by decide, by decide⟩ h0 (ci := 10) (by decide) rfl dX11_twist_84 rfl rfl rfl (Nat.le_of_ble_eq_true rfl) ⟨Nat.zero_le _, Nat.zero_le _⟩ hM (fun c hc => c_X11_become (xE X) a0 h0 a1 j14 hj14 c hc) (fun c15 hM => ?_)
          cases hM
          exact g_reti hR dX11_twist_87 rfl
        · refine g_aload_n hC dX11_twist_71 rfl 0 rfl ?_
          refine g_iconst (v := 2) hC dX11_twist_72 rfl ic_2 ?_
          refine g_iconst (v := 0) hC dX11_twist_73 rfl ic_0 ?_
          refine g_callVi (As := [.int ((2 : Int32)), .int ((0 : Int32))]) (st' := []) (k := a0) (L' := 0) hC Y_X11_refuse I_X11_refuse k_637 ⟨by decide, by decide⟩ h0 (ci := 10) (by decide) rfl dX11_twist_74 rfl rfl rfl (Nat.le_of_ble_eq_true rfl) ⟨Nat.zero_le _, Nat.zero_le _⟩ hM (fun c hc => c_X11_refuse (xE X) a0 h0 ((2 : Int32)) ((0 : Int32)) c hc) (fun c16 hM => ?_)
          cases hM
          exact g_reti hR dX11_twist_77 rfl
      · exact g_sub [0, 1, 2] ((bX11_twist_16 hC hml hR a0 a1 a2 h0 ) _ hM) rfl
def BX11_through_60 (a0 : Nat) (a1 : Int32) (σ : Sto) (ρ : Rho) (t0 : Nat) (t1 : Int32) (t2 : Int32) : Option (Int32 × Sto × Rho) :=
  Option.bind (MX11_refuse σ ρ t0 t1 t2) fun c1 =>
  some (c1.1, c1.2, ρ)
set_option maxHeartbeats 4000000 in
set_option maxRecDepth 100000 in
theorem bX11_through_60 {X : CX} {n : Nat} {res : Int32 × Sto × Rho} (hC : Cx X cX11_through RX11 6) (hml : (xc X).maxLocals = 2) (hR : RtT (some .int) X cX11_through n res.1 res.2.1 res.2.2) (a0 : Nat) (a1 : Int32) (h0 : Sh n a0 10) : ∀ (σ : Sto) (ρ : Rho) (t0 : Nat) (t1 : Int32) (t2 : Int32) (ht0 : Sh n t0 10), BX11_through_60 a0 a1 σ ρ t0 t1 t2 = some res → G X 0 0 n σ ρ 60 [(0, vr X a0), (1, .int a1)] [.int t2, .int t1, vr X t0] := by
  intro σ ρ t0 t1 t2 ht0 hM
  unfold BX11_through_60 at hM
  refine g_callVi (As := [.int t1, .int t2]) (st' := []) (k := t0) (L' := 0) hC Y_X11_refuse I_X11_refuse k_637 ⟨by decide, by decide⟩ ht0 (ci := 10) (by decide) rfl dX11_through_60 rfl rfl rfl (Nat.le_of_ble_eq_true rfl) ⟨Nat.zero_le _, Nat.zero_le _⟩ hM (fun c hc => c_X11_refuse (xE X) t0 ht0 t1 t2 c hc) (fun c1 hM => ?_)
  cases hM
  exact g_reti hR dX11_through_63 rfl
def MX11_through (σ : Sto) (ρ : Rho) (a0 : Nat) (a1 : Int32) : Option (Int32 × Sto × Rho) :=
  Option.bind (MX11_isConic a1) fun c1 =>
  if c1 = 0 then
    Option.bind (MX11_refuse σ ρ a0 ((1 : Int32)) ((0 : Int32))) fun c13 =>
    some (c13.1, c13.2, ρ)
  else
    Option.bind (ρ a0 6) fun j2 =>
    Option.bind (ρ a0 0) fun j3 =>
    Option.bind (ρ j3 0) fun j4 =>
    Option.bind (MX1_gather σ ρ j2 j4) fun c5 =>
    Option.bind (c5.2 a0 6) fun j6 =>
    if (c5.1 j6 2) = (1 : Int32) then
      Option.bind (c5.2 a0 6) fun j7 =>
      Option.bind (c5.2 a0 9) fun j8 =>
      Option.bind (MX1_readOne c5.1 c5.2 j7 j8) fun c9 =>
      Option.bind (c5.2 a0 9) fun j10 =>
      Option.bind (MX11_become c9 c5.2 a0 a1 j10) fun c11 =>
      some (c11.1, c11.2, c5.2)
    else
      Option.bind (c5.2 a0 6) fun j12 =>
      if (c5.1 j12 2) ≤ (1 : Int32) then
        BX11_through_60 a0 a1 c5.1 c5.2 a0 ((10 : Int32)) ((12 : Int32))
      else
        BX11_through_60 a0 a1 c5.1 c5.2 a0 ((10 : Int32)) ((11 : Int32))
set_option maxHeartbeats 4000000 in
set_option maxRecDepth 100000 in
theorem c_X11_through (E : EX) {n : Nat} {σ : Sto} {ρ : Rho} (a0 : Nat) (h0 : Sh n a0 10) (a1 : Int32) (res : Int32 × Sto × Rho) (hM : MX11_through σ ρ a0 a1 = some res) : CTi E yX11_through cX11_through 2 (some .int) 6 [.ref (eb E + a0), .int a1] n σ ρ res.1 res.2.1 res.2.2 := by
  refine ct_i (by decide +kernel) rfl (Nat.le_of_ble_eq_true rfl) (fun X hE hml hC hR => ?_)
  subst hE
  show G X 0 0 n σ ρ 0 [(0, vr X a0), (1, .int a1)] []
  replace hC : Cx X cX11_through RX11 6 := hC
  unfold MX11_through at hM
  refine g_iload_n hC dX11_through_0 rfl 1 rfl ?_
  refine g_callSi (As := [.int a1]) (st' := []) (L' := 0) hC Y_X11_isConic k_559 k_658 ⟨by decide, by decide⟩ dX11_through_1 rfl rfl rfl (Nat.le_of_ble_eq_true rfl) ⟨Nat.zero_le _, Nat.zero_le _⟩ hM (fun c hc => c_X11_isConic (xE X) a1 c hc) (fun c1 hM => ?_)
  refine g_if_ne (tgt := 14) hC dX11_through_4 rfl (by decide) hM (fun hM => ?_) (fun hM => ?_)
  · refine g_aload_n hC dX11_through_14 rfl 0 rfl ?_
    refine fg_10_6 hC h0 k_386 dX11_through_15 rfl hM (fun j2 hj2 hM => ?_)
    refine g_aload_n hC dX11_through_18 rfl 0 rfl ?_
    refine fg_10_0 hC h0 k_380 dX11_through_19 rfl hM (fun j3 hj3 hM => ?_)
    refine fg_3_0 hC hj3 k_172 dX11_through_22 rfl hM (fun j4 hj4 hM => ?_)
    refine g_callVv0 (As := [vr X j4]) (st' := []) (k := j2) (L' := 5) hC Y_X1_gather I_X1_gather k_755 ⟨by decide, by decide⟩ hj2 (ci := 1) (by decide) rfl dX11_through_25 rfl rfl rfl (Nat.le_of_ble_eq_true rfl) ⟨Nat.zero_le _, Nat.zero_le _⟩ hM (fun c hc => c_X1_gather (xE X) j2 hj2 j4 hj4 c hc) (fun c5 hM => ?_)
    refine g_aload_n hC dX11_through_28 rfl 0 rfl ?_
    refine fg_10_6 hC h0 k_386 dX11_through_29 rfl hM (fun j6 hj6 hM => ?_)
    refine fg_1_2 hC hj6 k_366 dX11_through_32 rfl ?_
    refine g_iconst (v := 1) hC dX11_through_35 rfl ic_1 ?_
    refine g_icmp_eq (tgt := 64) hC dX11_through_36 rfl (by decide) hM (fun hM => ?_) (fun hM => ?_)
    · refine g_aload_n hC dX11_through_64 rfl 0 rfl ?_
      refine fg_10_6 hC h0 k_386 dX11_through_65 rfl hM (fun j7 hj7 hM => ?_)
      refine g_aload_n hC dX11_through_68 rfl 0 rfl ?_
      refine fg_10_9 hC h0 k_389 dX11_through_69 rfl hM (fun j8 hj8 hM => ?_)
      refine g_callVv0 (As := [vr X j8]) (st' := []) (k := j7) (L' := 3) hC Y_X1_readOne I_X1_readOne k_777 ⟨by decide, by decide⟩ hj7 (ci := 1) (by decide) rfl dX11_through_72 rfl rfl rfl (Nat.le_of_ble_eq_true rfl) ⟨Nat.zero_le _, Nat.zero_le _⟩ hM (fun c hc => c_X1_readOne (xE X) j7 hj7 j8 hj8 c hc) (fun c9 hM => ?_)
      refine g_aload_n hC dX11_through_75 rfl 0 rfl ?_
      refine g_iload_n hC dX11_through_76 rfl 1 rfl ?_
      refine g_aload_n hC dX11_through_77 rfl 0 rfl ?_
      refine fg_10_9 hC h0 k_389 dX11_through_78 rfl hM (fun j10 hj10 hM => ?_)
      refine g_callVi (As := [.int a1, vr X j10]) (st' := []) (k := a0) (L' := 3) hC Y_X11_become I_X11_become k_670 ⟨by decide, by decide⟩ h0 (ci := 10) (by decide) rfl dX11_through_81 rfl rfl rfl (Nat.le_of_ble_eq_true rfl) ⟨Nat.zero_le _, Nat.zero_le _⟩ hM (fun c hc => c_X11_become (xE X) a0 h0 a1 j10 hj10 c hc) (fun c11 hM => ?_)
      cases hM
      exact g_reti hR dX11_through_84 rfl
    · refine g_aload_n hC dX11_through_39 rfl 0 rfl ?_
      refine g_bipush (v := 10) hC dX11_through_40 rfl ib_10 ?_
      refine g_aload_n hC dX11_through_42 rfl 0 rfl ?_
      refine fg_10_6 hC h0 k_386 dX11_through_43 rfl hM (fun j12 hj12 hM => ?_)
      refine fg_1_2 hC hj12 k_366 dX11_through_46 rfl ?_
      refine g_iconst (v := 1) hC dX11_through_49 rfl ic_1 ?_
      refine g_icmp_le (tgt := 58) hC dX11_through_50 rfl (by decide) hM (fun hM => ?_) (fun hM => ?_)
      · refine g_bipush (v := 12) hC dX11_through_58 rfl ib_12 ?_
        exact g_sub [0, 1] ((bX11_through_60 hC hml hR a0 a1 h0 ) _ _ _ _ _ h0 hM) rfl
      · refine g_bipush (v := 11) hC dX11_through_53 rfl ib_11 ?_
        refine g_goto (tgt := 60) hC dX11_through_55 rfl (by decide) ?_
        exact g_sub [0, 1] ((bX11_through_60 hC hml hR a0 a1 h0 ) _ _ _ _ _ h0 hM) rfl
  · refine g_aload_n hC dX11_through_7 rfl 0 rfl ?_
    refine g_iconst (v := 1) hC dX11_through_8 rfl ic_1 ?_
    refine g_iconst (v := 0) hC dX11_through_9 rfl ic_0 ?_
    refine g_callVi (As := [.int ((1 : Int32)), .int ((0 : Int32))]) (st' := []) (k := a0) (L' := 0) hC Y_X11_refuse I_X11_refuse k_637 ⟨by decide, by decide⟩ h0 (ci := 10) (by decide) rfl dX11_through_10 rfl rfl rfl (Nat.le_of_ble_eq_true rfl) ⟨Nat.zero_le _, Nat.zero_le _⟩ hM (fun c hc => c_X11_refuse (xE X) a0 h0 ((1 : Int32)) ((0 : Int32)) c hc) (fun c13 hM => ?_)
    cases hM
    exact g_reti hR dX11_through_13 rfl
def BX11_mark_119 (ρ : Rho) (a0 : Nat) (a1 : Int32) (a2 : Int32) (σ : Sto) : Option (Int32 × Sto) :=
  Option.bind (MX11_accept σ ρ a0) fun c1 =>
  some (c1.1, c1.2)
set_option maxHeartbeats 4000000 in
set_option maxRecDepth 100000 in
theorem bX11_mark_119 {X : CX} {n : Nat} {ρ : Rho} {res : Int32 × Sto} (hC : Cx X cX11_mark RX11 3) (hml : (xc X).maxLocals = 3) (hR : RtT (some .int) X cX11_mark n res.1 res.2 ρ) (a0 : Nat) (a1 : Int32) (a2 : Int32) (h0 : Sh n a0 10) : ∀ (σ : Sto), BX11_mark_119 ρ a0 a1 a2 σ = some res → G X 0 0 n σ ρ 119 [(0, vr X a0), (1, .int a1), (2, .int a2)] [] := by
  intro σ hM
  unfold BX11_mark_119 at hM
  refine g_aload_n hC dX11_mark_119 rfl 0 rfl ?_
  refine g_callVi (As := []) (st' := []) (k := a0) (L' := 0) hC Y_X11_accept I_X11_accept k_650 ⟨by decide, by decide⟩ h0 (ci := 10) (by decide) rfl dX11_mark_120 rfl rfl rfl (Nat.le_of_ble_eq_true rfl) ⟨Nat.zero_le _, Nat.zero_le _⟩ hM (fun c hc => c_X11_accept (xE X) a0 h0 c hc) (fun c1 hM => ?_)
  cases hM
  exact g_reti hR dX11_mark_123 rfl
def BX11_mark_76 (ρ : Rho) (a0 : Nat) (a1 : Int32) (a2 : Int32) (σ : Sto) : Option (Int32 × Sto) :=
  Option.bind (ρ a0 1) fun j1 =>
  Option.bind (ρ a0 0) fun j2 =>
  Option.bind (ρ j2 0) fun j3 =>
  Option.bind (MX5_keep σ ρ j1 j3) fun c4 =>
  if a2 = 0 then
    Option.bind (ρ a0 0) fun j5 =>
    Option.bind (ρ j5 0) fun j6 =>
    Option.bind (MX8_addMark c4 ρ j6 a1) fun c7 =>
    BX11_mark_119 ρ a0 a1 a2 c7
  else
    Option.bind (ρ a0 0) fun j8 =>
    Option.bind (ρ j8 0) fun j9 =>
    Option.bind (MX8_dropMark c4 ρ j9 a1) fun c10 =>
    BX11_mark_119 ρ a0 a1 a2 c10
set_option maxHeartbeats 4000000 in
set_option maxRecDepth 100000 in
theorem bX11_mark_76 {X : CX} {n : Nat} {ρ : Rho} {res : Int32 × Sto} (hC : Cx X cX11_mark RX11 3) (hml : (xc X).maxLocals = 3) (hR : RtT (some .int) X cX11_mark n res.1 res.2 ρ) (a0 : Nat) (a1 : Int32) (a2 : Int32) (h0 : Sh n a0 10) : ∀ (σ : Sto), BX11_mark_76 ρ a0 a1 a2 σ = some res → G X 0 0 n σ ρ 76 [(0, vr X a0), (1, .int a1), (2, .int a2)] [] := by
  intro σ hM
  unfold BX11_mark_76 at hM
  refine g_aload_n hC dX11_mark_76 rfl 0 rfl ?_
  refine fg_10_1 hC h0 k_381 dX11_mark_77 rfl hM (fun j1 hj1 hM => ?_)
  refine g_aload_n hC dX11_mark_80 rfl 0 rfl ?_
  refine fg_10_0 hC h0 k_380 dX11_mark_81 rfl hM (fun j2 hj2 hM => ?_)
  refine fg_3_0 hC hj2 k_172 dX11_mark_84 rfl hM (fun j3 hj3 hM => ?_)
  refine g_callVv0 (As := [vr X j3]) (st' := []) (k := j1) (L' := 2) hC Y_X5_keep I_X5_keep k_641 ⟨by decide, by decide⟩ hj1 (ci := 4) (by decide) rfl dX11_mark_87 rfl rfl rfl (Nat.le_of_ble_eq_true rfl) ⟨Nat.zero_le _, Nat.zero_le _⟩ hM (fun c hc => c_X5_keep (xE X) j1 hj1 j3 hj3 c hc) (fun c4 hM => ?_)
  refine g_iload_n hC dX11_mark_90 rfl 2 rfl ?_
  refine g_if_eq (tgt := 108) hC dX11_mark_91 rfl (by decide) hM (fun hM => ?_) (fun hM => ?_)
  · refine g_aload_n hC dX11_mark_108 rfl 0 rfl ?_
    refine fg_10_0 hC h0 k_380 dX11_mark_109 rfl hM (fun j5 hj5 hM => ?_)
    refine fg_3_0 hC hj5 k_172 dX11_mark_112 rfl hM (fun j6 hj6 hM => ?_)
    refine g_iload_n hC dX11_mark_115 rfl 1 rfl ?_
    refine g_callVv0 (As := [.int a1]) (st' := []) (k := j6) (L' := 0) hC Y_X8_addMark I_X8_addMark k_796 ⟨by decide, by decide⟩ hj6 (ci := 7) (by decide) rfl dX11_mark_116 rfl rfl rfl (Nat.le_of_ble_eq_true rfl) ⟨Nat.zero_le _, Nat.zero_le _⟩ hM (fun c hc => c_X8_addMark (xE X) j6 hj6 a1 c hc) (fun c7 hM => ?_)
    exact g_sub [0, 1, 2] ((bX11_mark_119 hC hml hR a0 a1 a2 h0 ) _ hM) rfl
  · refine g_aload_n hC dX11_mark_94 rfl 0 rfl ?_
    refine fg_10_0 hC h0 k_380 dX11_mark_95 rfl hM (fun j8 hj8 hM => ?_)
    refine fg_3_0 hC hj8 k_172 dX11_mark_98 rfl hM (fun j9 hj9 hM => ?_)
    refine g_iload_n hC dX11_mark_101 rfl 1 rfl ?_
    refine g_callVv0 (As := [.int a1]) (st' := []) (k := j9) (L' := 0) hC Y_X8_dropMark I_X8_dropMark k_792 ⟨by decide, by decide⟩ hj9 (ci := 7) (by decide) rfl dX11_mark_102 rfl rfl rfl (Nat.le_of_ble_eq_true rfl) ⟨Nat.zero_le _, Nat.zero_le _⟩ hM (fun c hc => c_X8_dropMark (xE X) j9 hj9 a1 c hc) (fun c10 hM => ?_)
    refine g_goto (tgt := 119) hC dX11_mark_105 rfl (by decide) ?_
    exact g_sub [0, 1, 2] ((bX11_mark_119 hC hml hR a0 a1 a2 h0 ) _ hM) rfl
def MX11_mark (σ : Sto) (ρ : Rho) (a0 : Nat) (a1 : Int32) (a2 : Int32) : Option (Int32 × Sto) :=
  Option.bind (ρ a0 11) fun j1 =>
  Option.bind (ρ a0 0) fun j2 =>
  Option.bind (ρ j2 0) fun j3 =>
  Option.bind (MX10_take σ j1 a1 ((σ j3 0))) fun c4 =>
  if c4.1 = 0 then
    Option.bind (MX11_refuse c4.2 ρ a0 ((1 : Int32)) ((0 : Int32))) fun c12 =>
    some (c12.1, c12.2)
  else
    Option.bind (ρ a0 0) fun j5 =>
    Option.bind (ρ j5 0) fun j6 =>
    Option.bind (MX8_isMarked c4.2 ρ j6 a1) fun c7 =>
    if c7 = a2 then
      if a2 = 0 then
        Option.bind (ρ a0 0) fun j8 =>
        Option.bind (ρ j8 0) fun j9 =>
        if (c4.2 j9 1) < (8 : Int32) then
          BX11_mark_76 ρ a0 a1 a2 c4.2
        else
          Option.bind (MX11_refuse c4.2 ρ a0 ((3 : Int32)) ((0 : Int32))) fun c10 =>
          some (c10.1, c10.2)
      else
        BX11_mark_76 ρ a0 a1 a2 c4.2
    else
      Option.bind (MX11_refuse c4.2 ρ a0 ((2 : Int32)) ((0 : Int32))) fun c11 =>
      some (c11.1, c11.2)
set_option maxHeartbeats 4000000 in
set_option maxRecDepth 100000 in
theorem c_X11_mark (E : EX) {n : Nat} {σ : Sto} {ρ : Rho} (a0 : Nat) (h0 : Sh n a0 10) (a1 : Int32) (a2 : Int32) (res : Int32 × Sto) (hM : MX11_mark σ ρ a0 a1 a2 = some res) : CTi E yX11_mark cX11_mark 3 (some .int) 3 [.ref (eb E + a0), .int a1, .int a2] n σ ρ res.1 res.2 ρ := by
  refine ct_i (by decide +kernel) rfl (Nat.le_of_ble_eq_true rfl) (fun X hE hml hC hR => ?_)
  subst hE
  show G X 0 0 n σ ρ 0 [(0, vr X a0), (1, .int a1), (2, .int a2)] []
  replace hC : Cx X cX11_mark RX11 3 := hC
  unfold MX11_mark at hM
  refine g_aload_n hC dX11_mark_0 rfl 0 rfl ?_
  refine fg_10_11 hC h0 k_391 dX11_mark_1 rfl hM (fun j1 hj1 hM => ?_)
  refine g_iload_n hC dX11_mark_4 rfl 1 rfl ?_
  refine g_aload_n hC dX11_mark_5 rfl 0 rfl ?_
  refine fg_10_0 hC h0 k_380 dX11_mark_6 rfl hM (fun j2 hj2 hM => ?_)
  refine fg_3_0 hC hj2 k_172 dX11_mark_9 rfl hM (fun j3 hj3 hM => ?_)
  refine fg_7_0 hC hj3 k_138 dX11_mark_12 rfl ?_
  refine g_callVi (As := [.int a1, .int ((σ j3 0))]) (st' := []) (k := j1) (L' := 1) hC Y_X10_take I_X10_take k_790 ⟨by decide, by decide⟩ hj1 (ci := 9) (by decide) rfl dX11_mark_15 rfl rfl rfl (Nat.le_of_ble_eq_true rfl) ⟨Nat.zero_le _, Nat.zero_le _⟩ hM (fun c hc => c_X10_take (xE X) j1 hj1 a1 ((σ j3 0)) c hc) (fun c4 hM => ?_)
  refine g_if_ne (tgt := 28) hC dX11_mark_18 rfl (by decide) hM (fun hM => ?_) (fun hM => ?_)
  · refine g_aload_n hC dX11_mark_28 rfl 0 rfl ?_
    refine fg_10_0 hC h0 k_380 dX11_mark_29 rfl hM (fun j5 hj5 hM => ?_)
    refine fg_3_0 hC hj5 k_172 dX11_mark_32 rfl hM (fun j6 hj6 hM => ?_)
    refine g_iload_n hC dX11_mark_35 rfl 1 rfl ?_
    refine g_callVi (As := [.int a1]) (st' := []) (k := j6) (L' := 1) hC Y_X8_isMarked I_X8_isMarked k_791 ⟨by decide, by decide⟩ hj6 (ci := 7) (by decide) rfl dX11_mark_36 rfl rfl rfl (Nat.le_of_ble_eq_true rfl) ⟨Nat.zero_le _, Nat.zero_le _⟩ hM (fun c hc => c_X8_isMarked (xE X) j6 hj6 a1 c hc) (fun c7 hM => ?_)
    refine g_iload_n hC dX11_mark_39 rfl 2 rfl ?_
    refine g_icmp_eq (tgt := 50) hC dX11_mark_40 rfl (by decide) hM (fun hM => ?_) (fun hM => ?_)
    · refine g_iload_n hC dX11_mark_50 rfl 2 rfl ?_
      refine g_if_ne (tgt := 76) hC dX11_mark_51 rfl (by decide) hM (fun hM => ?_) (fun hM => ?_)
      · exact g_sub [0, 1, 2] ((bX11_mark_76 hC hml hR a0 a1 a2 h0 ) _ hM) rfl
      · refine g_aload_n hC dX11_mark_54 rfl 0 rfl ?_
        refine fg_10_0 hC h0 k_380 dX11_mark_55 rfl hM (fun j8 hj8 hM => ?_)
        refine fg_3_0 hC hj8 k_172 dX11_mark_58 rfl hM (fun j9 hj9 hM => ?_)
        refine fg_7_1 hC hj9 k_143 dX11_mark_61 rfl ?_
        refine g_bipush (v := 8) hC dX11_mark_64 rfl ib_8 ?_
        refine g_icmp_lt (tgt := 76) hC dX11_mark_66 rfl (by decide) hM (fun hM => ?_) (fun hM => ?_)
        · exact g_sub [0, 1, 2] ((bX11_mark_76 hC hml hR a0 a1 a2 h0 ) _ hM) rfl
        · refine g_aload_n hC dX11_mark_69 rfl 0 rfl ?_
          refine g_iconst (v := 3) hC dX11_mark_70 rfl ic_3 ?_
          refine g_iconst (v := 0) hC dX11_mark_71 rfl ic_0 ?_
          refine g_callVi (As := [.int ((3 : Int32)), .int ((0 : Int32))]) (st' := []) (k := a0) (L' := 0) hC Y_X11_refuse I_X11_refuse k_637 ⟨by decide, by decide⟩ h0 (ci := 10) (by decide) rfl dX11_mark_72 rfl rfl rfl (Nat.le_of_ble_eq_true rfl) ⟨Nat.zero_le _, Nat.zero_le _⟩ hM (fun c hc => c_X11_refuse (xE X) a0 h0 ((3 : Int32)) ((0 : Int32)) c hc) (fun c10 hM => ?_)
          cases hM
          exact g_reti hR dX11_mark_75 rfl
    · refine g_aload_n hC dX11_mark_43 rfl 0 rfl ?_
      refine g_iconst (v := 2) hC dX11_mark_44 rfl ic_2 ?_
      refine g_iconst (v := 0) hC dX11_mark_45 rfl ic_0 ?_
      refine g_callVi (As := [.int ((2 : Int32)), .int ((0 : Int32))]) (st' := []) (k := a0) (L' := 0) hC Y_X11_refuse I_X11_refuse k_637 ⟨by decide, by decide⟩ h0 (ci := 10) (by decide) rfl dX11_mark_46 rfl rfl rfl (Nat.le_of_ble_eq_true rfl) ⟨Nat.zero_le _, Nat.zero_le _⟩ hM (fun c hc => c_X11_refuse (xE X) a0 h0 ((2 : Int32)) ((0 : Int32)) c hc) (fun c11 hM => ?_)
      cases hM
      exact g_reti hR dX11_mark_49 rfl
  · refine g_aload_n hC dX11_mark_21 rfl 0 rfl ?_
    refine g_iconst (v := 1) hC dX11_mark_22 rfl ic_1 ?_
    refine g_iconst (v := 0) hC dX11_mark_23 rfl ic_0 ?_
    refine g_callVi (As := [.int ((1 : Int32)), .int ((0 : Int32))]) (st' := []) (k := a0) (L' := 0) hC Y_X11_refuse I_X11_refuse k_637 ⟨by decide, by decide⟩ h0 (ci := 10) (by decide) rfl dX11_mark_24 rfl rfl rfl (Nat.le_of_ble_eq_true rfl) ⟨Nat.zero_le _, Nat.zero_le _⟩ hM (fun c hc => c_X11_refuse (xE X) a0 h0 ((1 : Int32)) ((0 : Int32)) c hc) (fun c12 hM => ?_)
    cases hM
    exact g_reti hR dX11_mark_27 rfl
def MX11_why (σ : Sto) (ρ : Rho) (a0 : Nat) (a1 : Int32) : Option (Int32) :=
  if a1 = 0 then
    Option.bind (ρ a0 0) fun j2 =>
    some (σ j2 4)
  else
    if a1 = (1 : Int32) then
      Option.bind (ρ a0 0) fun j1 =>
      some (σ j1 5)
    else
      some (-1 : Int32)
set_option maxHeartbeats 4000000 in
set_option maxRecDepth 100000 in
theorem c_X11_why (E : EX) {n : Nat} {σ : Sto} {ρ : Rho} (a0 : Nat) (h0 : Sh n a0 10) (a1 : Int32) (res : Int32) (hM : MX11_why σ ρ a0 a1 = some res) : CTi E yX11_why cX11_why 2 (some .int) 0 [.ref (eb E + a0), .int a1] n σ ρ res σ ρ := by
  refine ct_i (by decide +kernel) rfl (Nat.le_of_ble_eq_true rfl) (fun X hE hml hC hR => ?_)
  subst hE
  show G X 0 0 n σ ρ 0 [(0, vr X a0), (1, .int a1)] []
  replace hC : Cx X cX11_why RX11 0 := hC
  unfold MX11_why at hM
  refine g_iload_n hC dX11_why_0 rfl 1 rfl ?_
  refine g_if_ne (tgt := 12) hC dX11_why_1 rfl (by decide) hM (fun hM => ?_) (fun hM => ?_)
  · refine g_iload_n hC dX11_why_12 rfl 1 rfl ?_
    refine g_iconst (v := 1) hC dX11_why_13 rfl ic_1 ?_
    refine g_icmp_ne (tgt := 27) hC dX11_why_14 rfl (by decide) hM (fun hM => ?_) (fun hM => ?_)
    · refine g_iconst (v := -1) hC dX11_why_27 rfl ic_m1 ?_
      obtain rfl := Option.some.inj hM
      exact g_reti hR dX11_why_28 rfl
    · refine g_aload_n hC dX11_why_17 rfl 0 rfl ?_
      refine fg_10_0 hC h0 k_380 dX11_why_18 rfl hM (fun j1 hj1 hM => ?_)
      refine fg_3_5 hC hj1 k_182 dX11_why_21 rfl ?_
      refine g_goto (tgt := 28) hC dX11_why_24 rfl (by decide) ?_
      cases hM
      exact g_reti hR dX11_why_28 rfl
  · refine g_aload_n hC dX11_why_4 rfl 0 rfl ?_
    refine fg_10_0 hC h0 k_380 dX11_why_5 rfl hM (fun j2 hj2 hM => ?_)
    refine fg_3_4 hC hj2 k_180 dX11_why_8 rfl ?_
    cases hM
    exact g_reti hR dX11_why_11 rfl
def MX11_undo (σ : Sto) (ρ : Rho) (a0 : Nat) : Option (Int32 × Sto) :=
  Option.bind (ρ a0 1) fun j1 =>
  Option.bind (ρ a0 0) fun j2 =>
  Option.bind (ρ j2 0) fun j3 =>
  Option.bind (MX5_giveBack σ ρ j1 j3) fun c4 =>
  if c4.1 = 0 then
    some ((-1 : Int32), c4.2)
  else
    Option.bind (ρ a0 1) fun j5 =>
    some ((c4.2 j5 2), c4.2)
set_option maxHeartbeats 4000000 in
set_option maxRecDepth 100000 in
theorem c_X11_undo (E : EX) {n : Nat} {σ : Sto} {ρ : Rho} (a0 : Nat) (h0 : Sh n a0 10) (res : Int32 × Sto) (hM : MX11_undo σ ρ a0 = some res) : CTi E yX11_undo cX11_undo 1 (some .int) 3 [.ref (eb E + a0)] n σ ρ res.1 res.2 ρ := by
  refine ct_i (by decide +kernel) rfl (Nat.le_of_ble_eq_true rfl) (fun X hE hml hC hR => ?_)
  subst hE
  show G X 0 0 n σ ρ 0 [(0, vr X a0)] []
  replace hC : Cx X cX11_undo RX11 3 := hC
  unfold MX11_undo at hM
  refine g_aload_n hC dX11_undo_0 rfl 0 rfl ?_
  refine fg_10_1 hC h0 k_381 dX11_undo_1 rfl hM (fun j1 hj1 hM => ?_)
  refine g_aload_n hC dX11_undo_4 rfl 0 rfl ?_
  refine fg_10_0 hC h0 k_380 dX11_undo_5 rfl hM (fun j2 hj2 hM => ?_)
  refine fg_3_0 hC hj2 k_172 dX11_undo_8 rfl hM (fun j3 hj3 hM => ?_)
  refine g_callVi (As := [vr X j3]) (st' := []) (k := j1) (L' := 2) hC Y_X5_giveBack I_X5_giveBack k_805 ⟨by decide, by decide⟩ hj1 (ci := 4) (by decide) rfl dX11_undo_11 rfl rfl rfl (Nat.le_of_ble_eq_true rfl) ⟨Nat.zero_le _, Nat.zero_le _⟩ hM (fun c hc => c_X5_giveBack (xE X) j1 hj1 j3 hj3 c hc) (fun c4 hM => ?_)
  refine g_if_eq (tgt := 27) hC dX11_undo_14 rfl (by decide) hM (fun hM => ?_) (fun hM => ?_)
  · refine g_iconst (v := -1) hC dX11_undo_27 rfl ic_m1 ?_
    obtain rfl := Option.some.inj hM
    exact g_reti hR dX11_undo_28 rfl
  · refine g_aload_n hC dX11_undo_17 rfl 0 rfl ?_
    refine fg_10_1 hC h0 k_381 dX11_undo_18 rfl hM (fun j5 hj5 hM => ?_)
    refine fg_4_2 hC hj5 k_208 dX11_undo_21 rfl ?_
    refine g_goto (tgt := 28) hC dX11_undo_24 rfl (by decide) ?_
    cases hM
    exact g_reti hR dX11_undo_28 rfl
def BX11_properConics_39 (ρ : Rho) (a0 : Nat) (rec : Sto → Int32 → Int32 → Option (Int32 × Sto)) (σ : Sto) (v1 : Int32) (v2 : Int32) : Option (Int32 × Sto) :=
  bn (v2 + (1 : Int32)) fun y1 =>
  rec σ v1 y1
set_option maxHeartbeats 4000000 in
set_option maxRecDepth 100000 in
theorem bX11_properConics_39 {X : CX} {n : Nat} {ρ : Rho} {res : Int32 × Sto} (hC : Cx X cX11_properConics RX11 5) (hml : (xc X).maxLocals = 3) (hR : RtT (some .int) X cX11_properConics n res.1 res.2 ρ) (a0 : Nat) (h0 : Sh n a0 10) (rec : Sto → Int32 → Int32 → Option (Int32 × Sto)) (ih : ∀ (σ : Sto) (v1 : Int32) (v2 : Int32), rec σ v1 v2 = some res → G X 0 0 n σ ρ 4 [(0, vr X a0), (1, .int v1), (2, .int v2)] []) : ∀ (σ : Sto) (v1 : Int32) (v2 : Int32), BX11_properConics_39 ρ a0 rec σ v1 v2 = some res → G X 0 0 n σ ρ 39 [(0, vr X a0), (1, .int v1), (2, .int v2)] [] := by
  intro σ v1 v2 hM
  unfold BX11_properConics_39 at hM
  refine g_iinc (v := 1) hC (fun y1 => [(2, .int y1), (0, vr X a0), (1, .int v1)]) dX11_properConics_39 rfl hM (j := 2) rfl ic_1 hml (by decide) (fun _ => rfl) (fun y1 hM => ?_)
  refine g_goto (tgt := 4) hC dX11_properConics_42 rfl (by decide) ?_
  exact g_sub [1, 2, 0] (ih _ _ _ hM) rfl
def FX11_properConics_4 (ρ : Rho) (a0 : Nat) (rec : Sto → Int32 → Int32 → Option (Int32 × Sto)) (σ : Sto) (v1 : Int32) (v2 : Int32) : Option (Int32 × Sto) :=
  if (6 : Int32) ≤ v2 then
    some (v1, σ)
  else
    Option.bind (ρ a0 7) fun j1 =>
    Option.bind (ρ a0 0) fun j2 =>
    Option.bind (ρ j2 0) fun j3 =>
    Option.bind (MX0_take σ ρ j1 j3 v2) fun c4 =>
    Option.bind (ρ a0 7) fun j5 =>
    Option.bind (MX0_kind c4 ρ j5) fun c6 =>
    if c6 = (4 : Int32) then
      bn (v1 + (1 : Int32)) fun y7 =>
      BX11_properConics_39 ρ a0 rec c4 y7 v2
    else
      BX11_properConics_39 ρ a0 rec c4 v1 v2
set_option maxHeartbeats 4000000 in
set_option maxRecDepth 100000 in
theorem bX11_properConics_4 {X : CX} {n : Nat} {ρ : Rho} {res : Int32 × Sto} (hC : Cx X cX11_properConics RX11 5) (hml : (xc X).maxLocals = 3) (hR : RtT (some .int) X cX11_properConics n res.1 res.2 ρ) (a0 : Nat) (h0 : Sh n a0 10) (fu : Nat) : ∀ (σ : Sto) (v1 : Int32) (v2 : Int32), fixN (fun _ _ _ => none) (FX11_properConics_4 ρ a0) fu σ v1 v2 = some res → G X 0 0 n σ ρ 4 [(0, vr X a0), (1, .int v1), (2, .int v2)] [] := by
  refine fixN_ind (P := fun (f : Sto → Int32 → Int32 → Option (Int32 × Sto)) => ∀ (σ : Sto) (v1 : Int32) (v2 : Int32), f σ v1 v2 = some res → G X 0 0 n σ ρ 4 [(0, vr X a0), (1, .int v1), (2, .int v2)] []) ?_ ?_ fu
  · intro σ v1 v2 hM; cases hM
  · intro rec ih σ v1 v2 hM
    unfold FX11_properConics_4 at hM
    refine g_iload_n hC dX11_properConics_4 rfl 2 rfl ?_
    refine g_bipush (v := 6) hC dX11_properConics_5 rfl ib_6 ?_
    refine g_icmp_ge (tgt := 45) hC dX11_properConics_7 rfl (by decide) hM (fun hM => ?_) (fun hM => ?_)
    · refine g_iload_n hC dX11_properConics_45 rfl 1 rfl ?_
      cases hM
      exact g_reti hR dX11_properConics_46 rfl
    · refine g_aload_n hC dX11_properConics_10 rfl 0 rfl ?_
      refine fg_10_7 hC h0 k_387 dX11_properConics_11 rfl hM (fun j1 hj1 hM => ?_)
      refine g_aload_n hC dX11_properConics_14 rfl 0 rfl ?_
      refine fg_10_0 hC h0 k_380 dX11_properConics_15 rfl hM (fun j2 hj2 hM => ?_)
      refine fg_3_0 hC hj2 k_172 dX11_properConics_18 rfl hM (fun j3 hj3 hM => ?_)
      refine g_iload_n hC dX11_properConics_21 rfl 2 rfl ?_
      refine g_callVv0 (As := [vr X j3, .int v2]) (st' := []) (k := j1) (L' := 3) hC Y_X0_take I_X0_take k_689 ⟨by decide, by decide⟩ hj1 (ci := 0) (by decide) rfl dX11_properConics_22 rfl rfl rfl (Nat.le_of_ble_eq_true rfl) ⟨Nat.zero_le _, Nat.zero_le _⟩ hM (fun c hc => c_X0_take (xE X) j1 hj1 j3 hj3 v2 c hc) (fun c4 hM => ?_)
      refine g_aload_n hC dX11_properConics_25 rfl 0 rfl ?_
      refine fg_10_7 hC h0 k_387 dX11_properConics_26 rfl hM (fun j5 hj5 hM => ?_)
      refine g_callVi (As := []) (st' := []) (k := j5) (L' := 4) hC Y_X0_kind I_X0_kind k_704 ⟨by decide, by decide⟩ hj5 (ci := 0) (by decide) rfl dX11_properConics_29 rfl rfl rfl (Nat.le_of_ble_eq_true rfl) ⟨Nat.zero_le _, Nat.zero_le _⟩ hM (fun c hc => c_X0_kind (xE X) j5 hj5 c hc) (fun c6 hM => ?_)
      refine g_iconst (v := 4) hC dX11_properConics_32 rfl ic_4 ?_
      refine g_icmp_ne (tgt := 39) hC dX11_properConics_33 rfl (by decide) hM (fun hM => ?_) (fun hM => ?_)
      · exact g_sub [0, 1, 2] ((bX11_properConics_39 hC hml hR a0 h0 rec ih ) _ _ _ hM) rfl
      · refine g_iinc (v := 1) hC (fun y7 => [(1, .int y7), (0, vr X a0), (2, .int v2)]) dX11_properConics_36 rfl hM (j := 1) rfl ic_1 hml (by decide) (fun _ => rfl) (fun y7 hM => ?_)
        exact g_sub [1, 0, 2] ((bX11_properConics_39 hC hml hR a0 h0 rec ih ) _ _ _ hM) rfl
def MX11_properConics (σ : Sto) (ρ : Rho) (a0 : Nat) : Option (Int32 × Sto) :=
  bn ((0 : Int32)) fun y1 =>
  bn ((0 : Int32)) fun y2 =>
  fixN (fun _ _ _ => none) (FX11_properConics_4 ρ a0) FU σ y1 y2
set_option maxHeartbeats 4000000 in
set_option maxRecDepth 100000 in
theorem c_X11_properConics (E : EX) {n : Nat} {σ : Sto} {ρ : Rho} (a0 : Nat) (h0 : Sh n a0 10) (res : Int32 × Sto) (hM : MX11_properConics σ ρ a0 = some res) : CTi E yX11_properConics cX11_properConics 3 (some .int) 5 [.ref (eb E + a0)] n σ ρ res.1 res.2 ρ := by
  refine ct_i (by decide +kernel) rfl (Nat.le_of_ble_eq_true rfl) (fun X hE hml hC hR => ?_)
  subst hE
  show G X 0 0 n σ ρ 0 [(0, vr X a0)] []
  replace hC : Cx X cX11_properConics RX11 5 := hC
  unfold MX11_properConics at hM
  refine g_iconst (v := 0) hC dX11_properConics_0 rfl ic_0 ?_
  refine g_istore_n hC (fun y1 => [(1, .int y1), (0, vr X a0)]) dX11_properConics_1 rfl hM hml (by decide) (fun _ => rfl) (fun y1 hM => ?_)
  refine g_iconst (v := 0) hC dX11_properConics_2 rfl ic_0 ?_
  refine g_istore_n hC (fun y2 => [(2, .int y2), (1, .int y1), (0, vr X a0)]) dX11_properConics_3 rfl hM hml (by decide) (fun _ => rfl) (fun y2 hM => ?_)
  exact g_sub [2, 1, 0] ((bX11_properConics_4 hC hml hR a0 h0  FU) _ _ _ hM) rfl
def BX11_isInLine_166 (ρ : Rho) (a0 : Nat) (a1 : Int32) (rec : Sto → Int32 → Int32 → Option (Int32 × Sto)) (σ : Sto) (v2 : Int32) (v3 : Int32) : Option (Int32 × Sto) :=
  bn (v3 + (1 : Int32)) fun y1 =>
  rec σ v2 y1
set_option maxHeartbeats 4000000 in
set_option maxRecDepth 100000 in
theorem bX11_isInLine_166 {X : CX} {n : Nat} {ρ : Rho} {res : Int32 × Sto} (hC : Cx X cX11_isInLine RX11 3) (hml : (xc X).maxLocals = 5) (hR : RtT (some .boolean) X cX11_isInLine n res.1 res.2 ρ) (a0 : Nat) (a1 : Int32) (h0 : Sh n a0 10) (rec : Sto → Int32 → Int32 → Option (Int32 × Sto)) (ih : ∀ (σ : Sto) (v2 : Int32) (v3 : Int32), rec σ v2 v3 = some res → G X 0 0 n σ ρ 13 [(0, vr X a0), (1, .int a1), (2, .int v2), (3, .int v3)] []) : ∀ (σ : Sto) (v2 : Int32) (v3 : Int32), BX11_isInLine_166 ρ a0 a1 rec σ v2 v3 = some res → G X 0 0 n σ ρ 166 [(0, vr X a0), (1, .int a1), (2, .int v2), (3, .int v3)] [] := by
  intro σ v2 v3 hM
  unfold BX11_isInLine_166 at hM
  refine g_iinc (v := 1) hC (fun y1 => [(3, .int y1), (0, vr X a0), (1, .int a1), (2, .int v2)]) dX11_isInLine_166 rfl hM (j := 3) rfl ic_1 hml (by decide) (fun _ => rfl) (fun y1 hM => ?_)
  refine g_goto (tgt := 13) hC dX11_isInLine_169 rfl (by decide) ?_
  exact g_sub [1, 2, 3, 0] (ih _ _ _ hM) rfl
def BX11_isInLine_160 (ρ : Rho) (a0 : Nat) (a1 : Int32) (rec : Sto → Int32 → Int32 → Int32 → Option (Int32 × Sto)) (k166 : Sto → Int32 → Int32 → Option (Int32 × Sto)) (σ : Sto) (v2 : Int32) (v3 : Int32) (v4 : Int32) : Option (Int32 × Sto) :=
  bn (v4 + (1 : Int32)) fun y1 =>
  rec σ v2 v3 y1
set_option maxHeartbeats 4000000 in
set_option maxRecDepth 100000 in
theorem bX11_isInLine_160 {X : CX} {n : Nat} {ρ : Rho} {res : Int32 × Sto} (hC : Cx X cX11_isInLine RX11 3) (hml : (xc X).maxLocals = 5) (hR : RtT (some .boolean) X cX11_isInLine n res.1 res.2 ρ) (a0 : Nat) (a1 : Int32) (h0 : Sh n a0 10) (rec : Sto → Int32 → Int32 → Int32 → Option (Int32 × Sto)) (ih : ∀ (σ : Sto) (v2 : Int32) (v3 : Int32) (v4 : Int32), rec σ v2 v3 v4 = some res → G X 0 0 n σ ρ 99 [(0, vr X a0), (1, .int a1), (2, .int v2), (3, .int v3), (4, .int v4)] []) (k166 : Sto → Int32 → Int32 → Option (Int32 × Sto)) (hk166 : ∀ (σ : Sto) (v2 : Int32) (v3 : Int32), k166 σ v2 v3 = some res → G X 0 0 n σ ρ 166 [(0, vr X a0), (1, .int a1), (2, .int v2), (3, .int v3)] []) : ∀ (σ : Sto) (v2 : Int32) (v3 : Int32) (v4 : Int32), BX11_isInLine_160 ρ a0 a1 rec k166 σ v2 v3 v4 = some res → G X 0 0 n σ ρ 160 [(0, vr X a0), (1, .int a1), (2, .int v2), (3, .int v3), (4, .int v4)] [] := by
  intro σ v2 v3 v4 hM
  unfold BX11_isInLine_160 at hM
  refine g_iinc (v := 1) hC (fun y1 => [(4, .int y1), (0, vr X a0), (1, .int a1), (2, .int v2), (3, .int v3)]) dX11_isInLine_160 rfl hM (j := 4) rfl ic_1 hml (by decide) (fun _ => rfl) (fun y1 hM => ?_)
  refine g_goto (tgt := 99) hC dX11_isInLine_163 rfl (by decide) ?_
  exact g_sub [1, 2, 3, 4, 0] (ih _ _ _ _ hM) rfl
def FX11_isInLine_99 (ρ : Rho) (a0 : Nat) (a1 : Int32) (k166 : Sto → Int32 → Int32 → Option (Int32 × Sto)) (rec : Sto → Int32 → Int32 → Int32 → Option (Int32 × Sto)) (σ : Sto) (v2 : Int32) (v3 : Int32) (v4 : Int32) : Option (Int32 × Sto) :=
  Option.bind (ρ a0 0) fun j1 =>
  Option.bind (ρ j1 0) fun j2 =>
  if (σ j2 1) ≤ v4 then
    k166 σ v2 v3
  else
    if v4 = a1 then
      BX11_isInLine_160 ρ a0 a1 rec k166 σ v2 v3 v4
    else
      Option.bind (ρ a0 12) fun j3 =>
      Option.bind (ρ a0 0) fun j4 =>
      Option.bind (ρ j4 0) fun j5 =>
      Option.bind (MX8_markAt σ ρ j5 v4) fun c6 =>
      Option.bind (MX10_take σ j3 c6 v2) fun c7 =>
      if c7.1 = 0 then
        BX11_isInLine_160 ρ a0 a1 rec k166 c7.2 v2 v3 v4
      else
        Option.bind (ρ a0 13) fun j8 =>
        Option.bind (ρ a0 12) fun j9 =>
        Option.bind (MX10_isOn c7.2 j8 j9 v2) fun c10 =>
        if c10 = 0 then
          BX11_isInLine_160 ρ a0 a1 rec k166 c7.2 v2 v3 v4
        else
          zr ((1 : Int32)) (some ((1 : Int32), c7.2))
set_option maxHeartbeats 4000000 in
set_option maxRecDepth 100000 in
theorem bX11_isInLine_99 {X : CX} {n : Nat} {ρ : Rho} {res : Int32 × Sto} (hC : Cx X cX11_isInLine RX11 3) (hml : (xc X).maxLocals = 5) (hR : RtT (some .boolean) X cX11_isInLine n res.1 res.2 ρ) (a0 : Nat) (a1 : Int32) (h0 : Sh n a0 10) (k166 : Sto → Int32 → Int32 → Option (Int32 × Sto)) (hk166 : ∀ (σ : Sto) (v2 : Int32) (v3 : Int32), k166 σ v2 v3 = some res → G X 0 0 n σ ρ 166 [(0, vr X a0), (1, .int a1), (2, .int v2), (3, .int v3)] []) (fu : Nat) : ∀ (σ : Sto) (v2 : Int32) (v3 : Int32) (v4 : Int32), fixN (fun _ _ _ _ => none) (FX11_isInLine_99 ρ a0 a1 k166) fu σ v2 v3 v4 = some res → G X 0 0 n σ ρ 99 [(0, vr X a0), (1, .int a1), (2, .int v2), (3, .int v3), (4, .int v4)] [] := by
  refine fixN_ind (P := fun (f : Sto → Int32 → Int32 → Int32 → Option (Int32 × Sto)) => ∀ (σ : Sto) (v2 : Int32) (v3 : Int32) (v4 : Int32), f σ v2 v3 v4 = some res → G X 0 0 n σ ρ 99 [(0, vr X a0), (1, .int a1), (2, .int v2), (3, .int v3), (4, .int v4)] []) ?_ ?_ fu
  · intro σ v2 v3 v4 hM; cases hM
  · intro rec ih σ v2 v3 v4 hM
    unfold FX11_isInLine_99 at hM
    refine g_iload hC dX11_isInLine_99 rfl 4 rfl ?_
    refine g_aload_n hC dX11_isInLine_101 rfl 0 rfl ?_
    refine fg_10_0 hC h0 k_380 dX11_isInLine_102 rfl hM (fun j1 hj1 hM => ?_)
    refine fg_3_0 hC hj1 k_172 dX11_isInLine_105 rfl hM (fun j2 hj2 hM => ?_)
    refine fg_7_1 hC hj2 k_143 dX11_isInLine_108 rfl ?_
    refine g_icmp_ge (tgt := 166) hC dX11_isInLine_111 rfl (by decide) hM (fun hM => ?_) (fun hM => ?_)
    · exact g_sub [0, 1, 2, 3] (hk166 _ _ _ hM) rfl
    · refine g_iload hC dX11_isInLine_114 rfl 4 rfl ?_
      refine g_iload_n hC dX11_isInLine_116 rfl 1 rfl ?_
      refine g_icmp_eq (tgt := 160) hC dX11_isInLine_117 rfl (by decide) hM (fun hM => ?_) (fun hM => ?_)
      · exact g_sub [0, 1, 2, 3, 4] ((bX11_isInLine_160 hC hml hR a0 a1 h0 rec ih k166 hk166) _ _ _ _ hM) rfl
      · refine g_aload_n hC dX11_isInLine_120 rfl 0 rfl ?_
        refine fg_10_12 hC h0 k_392 dX11_isInLine_121 rfl hM (fun j3 hj3 hM => ?_)
        refine g_aload_n hC dX11_isInLine_124 rfl 0 rfl ?_
        refine fg_10_0 hC h0 k_380 dX11_isInLine_125 rfl hM (fun j4 hj4 hM => ?_)
        refine fg_3_0 hC hj4 k_172 dX11_isInLine_128 rfl hM (fun j5 hj5 hM => ?_)
        refine g_iload hC dX11_isInLine_131 rfl 4 rfl ?_
        refine g_callVi (As := [.int v4]) (st' := [vr X j3]) (k := j5) (L' := 0) hC Y_X8_markAt I_X8_markAt k_826 ⟨by decide, by decide⟩ hj5 (ci := 7) (by decide) rfl dX11_isInLine_133 rfl rfl rfl (Nat.le_of_ble_eq_true rfl) ⟨Nat.zero_le _, Nat.zero_le _⟩ hM (fun c hc => c_X8_markAt (xE X) j5 hj5 v4 c hc) (fun c6 hM => ?_)
        refine g_iload_n hC dX11_isInLine_136 rfl 2 rfl ?_
        refine g_callVi (As := [.int c6, .int v2]) (st' := []) (k := j3) (L' := 1) hC Y_X10_take I_X10_take k_790 ⟨by decide, by decide⟩ hj3 (ci := 9) (by decide) rfl dX11_isInLine_137 rfl rfl rfl (Nat.le_of_ble_eq_true rfl) ⟨Nat.zero_le _, Nat.zero_le _⟩ hM (fun c hc => c_X10_take (xE X) j3 hj3 c6 v2 c hc) (fun c7 hM => ?_)
        refine g_if_eq (tgt := 160) hC dX11_isInLine_140 rfl (by decide) hM (fun hM => ?_) (fun hM => ?_)
        · exact g_sub [0, 1, 2, 3, 4] ((bX11_isInLine_160 hC hml hR a0 a1 h0 rec ih k166 hk166) _ _ _ _ hM) rfl
        · refine g_aload_n hC dX11_isInLine_143 rfl 0 rfl ?_
          refine fg_10_13 hC h0 k_393 dX11_isInLine_144 rfl hM (fun j8 hj8 hM => ?_)
          refine g_aload_n hC dX11_isInLine_147 rfl 0 rfl ?_
          refine fg_10_12 hC h0 k_392 dX11_isInLine_148 rfl hM (fun j9 hj9 hM => ?_)
          refine g_iload_n hC dX11_isInLine_151 rfl 2 rfl ?_
          refine g_callVi (As := [vr X j9, .int v2]) (st' := []) (k := j8) (L' := 2) hC Y_X10_isOn I_X10_isOn k_831 ⟨by decide, by decide⟩ hj8 (ci := 9) (by decide) rfl dX11_isInLine_152 rfl rfl rfl (Nat.le_of_ble_eq_true rfl) ⟨Nat.zero_le _, Nat.zero_le _⟩ hM (fun c hc => c_X10_isOn (xE X) j8 hj8 j9 hj9 v2 c hc) (fun c10 hM => ?_)
          refine g_if_eq (tgt := 160) hC dX11_isInLine_155 rfl (by decide) hM (fun hM => ?_) (fun hM => ?_)
          · exact g_sub [0, 1, 2, 3, 4] ((bX11_isInLine_160 hC hml hR a0 a1 h0 rec ih k166 hk166) _ _ _ _ hM) rfl
          · refine g_iconst (v := 1) hC dX11_isInLine_158 rfl ic_1 ?_
            exact g_retz hM dX11_isInLine_159 rfl (fun h => by cases h; exact hR)
def FX11_isInLine_13 (ρ : Rho) (a0 : Nat) (a1 : Int32) (rec : Sto → Int32 → Int32 → Option (Int32 × Sto)) (σ : Sto) (v2 : Int32) (v3 : Int32) : Option (Int32 × Sto) :=
  Option.bind (ρ a0 0) fun j1 =>
  Option.bind (ρ j1 0) fun j2 =>
  if (σ j2 1) ≤ v3 then
    zr ((0 : Int32)) (some ((0 : Int32), σ))
  else
    if v3 = a1 then
      BX11_isInLine_166 ρ a0 a1 rec σ v2 v3
    else
      Option.bind (ρ a0 11) fun j3 =>
      Option.bind (ρ a0 0) fun j4 =>
      Option.bind (ρ j4 0) fun j5 =>
      Option.bind (MX8_markAt σ ρ j5 a1) fun c6 =>
      Option.bind (MX10_take σ j3 c6 v2) fun c7 =>
      if c7.1 = 0 then
        BX11_isInLine_166 ρ a0 a1 rec c7.2 v2 v3
      else
        Option.bind (ρ a0 12) fun j8 =>
        Option.bind (ρ a0 0) fun j9 =>
        Option.bind (ρ j9 0) fun j10 =>
        Option.bind (MX8_markAt c7.2 ρ j10 v3) fun c11 =>
        Option.bind (MX10_take c7.2 j8 c11 v2) fun c12 =>
        if c12.1 = 0 then
          BX11_isInLine_166 ρ a0 a1 rec c12.2 v2 v3
        else
          Option.bind (ρ a0 13) fun j13 =>
          Option.bind (ρ a0 11) fun j14 =>
          Option.bind (ρ a0 12) fun j15 =>
          Option.bind (MX10_cross c12.2 j13 j14 j15) fun c16 =>
          bn ((v3 + (1 : Int32))) fun y17 =>
          fixN (fun _ _ _ _ => none) (FX11_isInLine_99 ρ a0 a1 (BX11_isInLine_166 ρ a0 a1 rec)) FU c16 v2 v3 y17
set_option maxHeartbeats 4000000 in
set_option maxRecDepth 100000 in
theorem bX11_isInLine_13 {X : CX} {n : Nat} {ρ : Rho} {res : Int32 × Sto} (hC : Cx X cX11_isInLine RX11 3) (hml : (xc X).maxLocals = 5) (hR : RtT (some .boolean) X cX11_isInLine n res.1 res.2 ρ) (a0 : Nat) (a1 : Int32) (h0 : Sh n a0 10) (fu : Nat) : ∀ (σ : Sto) (v2 : Int32) (v3 : Int32), fixN (fun _ _ _ => none) (FX11_isInLine_13 ρ a0 a1) fu σ v2 v3 = some res → G X 0 0 n σ ρ 13 [(0, vr X a0), (1, .int a1), (2, .int v2), (3, .int v3)] [] := by
  refine fixN_ind (P := fun (f : Sto → Int32 → Int32 → Option (Int32 × Sto)) => ∀ (σ : Sto) (v2 : Int32) (v3 : Int32), f σ v2 v3 = some res → G X 0 0 n σ ρ 13 [(0, vr X a0), (1, .int a1), (2, .int v2), (3, .int v3)] []) ?_ ?_ fu
  · intro σ v2 v3 hM; cases hM
  · intro rec ih σ v2 v3 hM
    unfold FX11_isInLine_13 at hM
    refine g_iload_n hC dX11_isInLine_13 rfl 3 rfl ?_
    refine g_aload_n hC dX11_isInLine_14 rfl 0 rfl ?_
    refine fg_10_0 hC h0 k_380 dX11_isInLine_15 rfl hM (fun j1 hj1 hM => ?_)
    refine fg_3_0 hC hj1 k_172 dX11_isInLine_18 rfl hM (fun j2 hj2 hM => ?_)
    refine fg_7_1 hC hj2 k_143 dX11_isInLine_21 rfl ?_
    refine g_icmp_ge (tgt := 172) hC dX11_isInLine_24 rfl (by decide) hM (fun hM => ?_) (fun hM => ?_)
    · refine g_iconst (v := 0) hC dX11_isInLine_172 rfl ic_0 ?_
      exact g_retz hM dX11_isInLine_173 rfl (fun h => by cases h; exact hR)
    · refine g_iload_n hC dX11_isInLine_27 rfl 3 rfl ?_
      refine g_iload_n hC dX11_isInLine_28 rfl 1 rfl ?_
      refine g_icmp_eq (tgt := 166) hC dX11_isInLine_29 rfl (by decide) hM (fun hM => ?_) (fun hM => ?_)
      · exact g_sub [0, 1, 2, 3] ((bX11_isInLine_166 hC hml hR a0 a1 h0 rec ih ) _ _ _ hM) rfl
      · refine g_aload_n hC dX11_isInLine_32 rfl 0 rfl ?_
        refine fg_10_11 hC h0 k_391 dX11_isInLine_33 rfl hM (fun j3 hj3 hM => ?_)
        refine g_aload_n hC dX11_isInLine_36 rfl 0 rfl ?_
        refine fg_10_0 hC h0 k_380 dX11_isInLine_37 rfl hM (fun j4 hj4 hM => ?_)
        refine fg_3_0 hC hj4 k_172 dX11_isInLine_40 rfl hM (fun j5 hj5 hM => ?_)
        refine g_iload_n hC dX11_isInLine_43 rfl 1 rfl ?_
        refine g_callVi (As := [.int a1]) (st' := [vr X j3]) (k := j5) (L' := 0) hC Y_X8_markAt I_X8_markAt k_826 ⟨by decide, by decide⟩ hj5 (ci := 7) (by decide) rfl dX11_isInLine_44 rfl rfl rfl (Nat.le_of_ble_eq_true rfl) ⟨Nat.zero_le _, Nat.zero_le _⟩ hM (fun c hc => c_X8_markAt (xE X) j5 hj5 a1 c hc) (fun c6 hM => ?_)
        refine g_iload_n hC dX11_isInLine_47 rfl 2 rfl ?_
        refine g_callVi (As := [.int c6, .int v2]) (st' := []) (k := j3) (L' := 1) hC Y_X10_take I_X10_take k_790 ⟨by decide, by decide⟩ hj3 (ci := 9) (by decide) rfl dX11_isInLine_48 rfl rfl rfl (Nat.le_of_ble_eq_true rfl) ⟨Nat.zero_le _, Nat.zero_le _⟩ hM (fun c hc => c_X10_take (xE X) j3 hj3 c6 v2 c hc) (fun c7 hM => ?_)
        refine g_if_eq (tgt := 166) hC dX11_isInLine_51 rfl (by decide) hM (fun hM => ?_) (fun hM => ?_)
        · exact g_sub [0, 1, 2, 3] ((bX11_isInLine_166 hC hml hR a0 a1 h0 rec ih ) _ _ _ hM) rfl
        · refine g_aload_n hC dX11_isInLine_54 rfl 0 rfl ?_
          refine fg_10_12 hC h0 k_392 dX11_isInLine_55 rfl hM (fun j8 hj8 hM => ?_)
          refine g_aload_n hC dX11_isInLine_58 rfl 0 rfl ?_
          refine fg_10_0 hC h0 k_380 dX11_isInLine_59 rfl hM (fun j9 hj9 hM => ?_)
          refine fg_3_0 hC hj9 k_172 dX11_isInLine_62 rfl hM (fun j10 hj10 hM => ?_)
          refine g_iload_n hC dX11_isInLine_65 rfl 3 rfl ?_
          refine g_callVi (As := [.int v3]) (st' := [vr X j8]) (k := j10) (L' := 0) hC Y_X8_markAt I_X8_markAt k_826 ⟨by decide, by decide⟩ hj10 (ci := 7) (by decide) rfl dX11_isInLine_66 rfl rfl rfl (Nat.le_of_ble_eq_true rfl) ⟨Nat.zero_le _, Nat.zero_le _⟩ hM (fun c hc => c_X8_markAt (xE X) j10 hj10 v3 c hc) (fun c11 hM => ?_)
          refine g_iload_n hC dX11_isInLine_69 rfl 2 rfl ?_
          refine g_callVi (As := [.int c11, .int v2]) (st' := []) (k := j8) (L' := 1) hC Y_X10_take I_X10_take k_790 ⟨by decide, by decide⟩ hj8 (ci := 9) (by decide) rfl dX11_isInLine_70 rfl rfl rfl (Nat.le_of_ble_eq_true rfl) ⟨Nat.zero_le _, Nat.zero_le _⟩ hM (fun c hc => c_X10_take (xE X) j8 hj8 c11 v2 c hc) (fun c12 hM => ?_)
          refine g_if_ne (tgt := 79) hC dX11_isInLine_73 rfl (by decide) hM (fun hM => ?_) (fun hM => ?_)
          · refine g_aload_n hC dX11_isInLine_79 rfl 0 rfl ?_
            refine fg_10_13 hC h0 k_393 dX11_isInLine_80 rfl hM (fun j13 hj13 hM => ?_)
            refine g_aload_n hC dX11_isInLine_83 rfl 0 rfl ?_
            refine fg_10_11 hC h0 k_391 dX11_isInLine_84 rfl hM (fun j14 hj14 hM => ?_)
            refine g_aload_n hC dX11_isInLine_87 rfl 0 rfl ?_
            refine fg_10_12 hC h0 k_392 dX11_isInLine_88 rfl hM (fun j15 hj15 hM => ?_)
            refine g_callVv0 (As := [vr X j14, vr X j15]) (st' := []) (k := j13) (L' := 1) hC Y_X10_cross I_X10_cross k_827 ⟨by decide, by decide⟩ hj13 (ci := 9) (by decide) rfl dX11_isInLine_91 rfl rfl rfl (Nat.le_of_ble_eq_true rfl) ⟨Nat.zero_le _, Nat.zero_le _⟩ hM (fun c hc => c_X10_cross (xE X) j13 hj13 j14 hj14 j15 hj15 c hc) (fun c16 hM => ?_)
            refine g_iload_n hC dX11_isInLine_94 rfl 3 rfl ?_
            refine g_iconst (v := 1) hC dX11_isInLine_95 rfl ic_1 ?_
            refine g_iadd hC dX11_isInLine_96 rfl ?_
            refine g_istore hC (fun y17 => [(4, .int y17), (0, vr X a0), (1, .int a1), (2, .int v2), (3, .int v3)]) dX11_isInLine_97 rfl hM hml (by decide) (fun _ => rfl) (fun y17 hM => ?_)
            exact g_sub [1, 2, 3, 4, 0] ((bX11_isInLine_99 hC hml hR a0 a1 h0 (BX11_isInLine_166 ρ a0 a1 rec) (bX11_isInLine_166 hC hml hR a0 a1 h0 rec ih ) FU) _ _ _ _ hM) rfl
          · refine g_goto (tgt := 166) hC dX11_isInLine_76 rfl (by decide) ?_
            exact g_sub [0, 1, 2, 3] ((bX11_isInLine_166 hC hml hR a0 a1 h0 rec ih ) _ _ _ hM) rfl
def MX11_isInLine (σ : Sto) (ρ : Rho) (a0 : Nat) (a1 : Int32) : Option (Int32 × Sto) :=
  Option.bind (ρ a0 0) fun j1 =>
  Option.bind (ρ j1 0) fun j2 =>
  bn ((σ j2 0)) fun y3 =>
  bn ((0 : Int32)) fun y4 =>
  fixN (fun _ _ _ => none) (FX11_isInLine_13 ρ a0 a1) FU σ y3 y4
set_option maxHeartbeats 4000000 in
set_option maxRecDepth 100000 in
theorem c_X11_isInLine (E : EX) {n : Nat} {σ : Sto} {ρ : Rho} (a0 : Nat) (h0 : Sh n a0 10) (a1 : Int32) (res : Int32 × Sto) (hM : MX11_isInLine σ ρ a0 a1 = some res) : CTi E yX11_isInLine cX11_isInLine 5 (some .boolean) 3 [.ref (eb E + a0), .int a1] n σ ρ res.1 res.2 ρ := by
  refine ct_i (by decide +kernel) rfl (Nat.le_of_ble_eq_true rfl) (fun X hE hml hC hR => ?_)
  subst hE
  show G X 0 0 n σ ρ 0 [(0, vr X a0), (1, .int a1)] []
  replace hC : Cx X cX11_isInLine RX11 3 := hC
  unfold MX11_isInLine at hM
  refine g_aload_n hC dX11_isInLine_0 rfl 0 rfl ?_
  refine fg_10_0 hC h0 k_380 dX11_isInLine_1 rfl hM (fun j1 hj1 hM => ?_)
  refine fg_3_0 hC hj1 k_172 dX11_isInLine_4 rfl hM (fun j2 hj2 hM => ?_)
  refine fg_7_0 hC hj2 k_138 dX11_isInLine_7 rfl ?_
  refine g_istore_n hC (fun y3 => [(2, .int y3), (0, vr X a0), (1, .int a1)]) dX11_isInLine_10 rfl hM hml (by decide) (fun _ => rfl) (fun y3 hM => ?_)
  refine g_iconst (v := 0) hC dX11_isInLine_11 rfl ic_0 ?_
  refine g_istore_n hC (fun y4 => [(3, .int y4), (2, .int y3), (0, vr X a0), (1, .int a1)]) dX11_isInLine_12 rfl hM hml (by decide) (fun _ => rfl) (fun y4 hM => ?_)
  exact g_sub [2, 3, 1, 0] ((bX11_isInLine_13 hC hml hR a0 a1 h0  FU) _ _ _ hM) rfl
def BX11_marksInLine_29 (ρ : Rho) (a0 : Nat) (rec : Sto → Int32 → Int32 → Option (Int32 × Sto)) (σ : Sto) (v1 : Int32) (v2 : Int32) : Option (Int32 × Sto) :=
  bn (v2 + (1 : Int32)) fun y1 =>
  rec σ v1 y1
set_option maxHeartbeats 4000000 in
set_option maxRecDepth 100000 in
theorem bX11_marksInLine_29 {X : CX} {n : Nat} {ρ : Rho} {res : Int32 × Sto} (hC : Cx X cX11_marksInLine RX11 4) (hml : (xc X).maxLocals = 3) (hR : RtT (some .int) X cX11_marksInLine n res.1 res.2 ρ) (a0 : Nat) (h0 : Sh n a0 10) (rec : Sto → Int32 → Int32 → Option (Int32 × Sto)) (ih : ∀ (σ : Sto) (v1 : Int32) (v2 : Int32), rec σ v1 v2 = some res → G X 0 0 n σ ρ 4 [(0, vr X a0), (1, .int v1), (2, .int v2)] []) : ∀ (σ : Sto) (v1 : Int32) (v2 : Int32), BX11_marksInLine_29 ρ a0 rec σ v1 v2 = some res → G X 0 0 n σ ρ 29 [(0, vr X a0), (1, .int v1), (2, .int v2)] [] := by
  intro σ v1 v2 hM
  unfold BX11_marksInLine_29 at hM
  refine g_iinc (v := 1) hC (fun y1 => [(2, .int y1), (0, vr X a0), (1, .int v1)]) dX11_marksInLine_29 rfl hM (j := 2) rfl ic_1 hml (by decide) (fun _ => rfl) (fun y1 hM => ?_)
  refine g_goto (tgt := 4) hC dX11_marksInLine_32 rfl (by decide) ?_
  exact g_sub [1, 2, 0] (ih _ _ _ hM) rfl
def FX11_marksInLine_4 (ρ : Rho) (a0 : Nat) (rec : Sto → Int32 → Int32 → Option (Int32 × Sto)) (σ : Sto) (v1 : Int32) (v2 : Int32) : Option (Int32 × Sto) :=
  Option.bind (ρ a0 0) fun j1 =>
  Option.bind (ρ j1 0) fun j2 =>
  if (σ j2 1) ≤ v2 then
    some (v1, σ)
  else
    Option.bind (MX11_isInLine σ ρ a0 v2) fun c3 =>
    if c3.1 = 0 then
      BX11_marksInLine_29 ρ a0 rec c3.2 v1 v2
    else
      bn (v1 + (1 : Int32)) fun y4 =>
      BX11_marksInLine_29 ρ a0 rec c3.2 y4 v2
set_option maxHeartbeats 4000000 in
set_option maxRecDepth 100000 in
theorem bX11_marksInLine_4 {X : CX} {n : Nat} {ρ : Rho} {res : Int32 × Sto} (hC : Cx X cX11_marksInLine RX11 4) (hml : (xc X).maxLocals = 3) (hR : RtT (some .int) X cX11_marksInLine n res.1 res.2 ρ) (a0 : Nat) (h0 : Sh n a0 10) (fu : Nat) : ∀ (σ : Sto) (v1 : Int32) (v2 : Int32), fixN (fun _ _ _ => none) (FX11_marksInLine_4 ρ a0) fu σ v1 v2 = some res → G X 0 0 n σ ρ 4 [(0, vr X a0), (1, .int v1), (2, .int v2)] [] := by
  refine fixN_ind (P := fun (f : Sto → Int32 → Int32 → Option (Int32 × Sto)) => ∀ (σ : Sto) (v1 : Int32) (v2 : Int32), f σ v1 v2 = some res → G X 0 0 n σ ρ 4 [(0, vr X a0), (1, .int v1), (2, .int v2)] []) ?_ ?_ fu
  · intro σ v1 v2 hM; cases hM
  · intro rec ih σ v1 v2 hM
    unfold FX11_marksInLine_4 at hM
    refine g_iload_n hC dX11_marksInLine_4 rfl 2 rfl ?_
    refine g_aload_n hC dX11_marksInLine_5 rfl 0 rfl ?_
    refine fg_10_0 hC h0 k_380 dX11_marksInLine_6 rfl hM (fun j1 hj1 hM => ?_)
    refine fg_3_0 hC hj1 k_172 dX11_marksInLine_9 rfl hM (fun j2 hj2 hM => ?_)
    refine fg_7_1 hC hj2 k_143 dX11_marksInLine_12 rfl ?_
    refine g_icmp_ge (tgt := 35) hC dX11_marksInLine_15 rfl (by decide) hM (fun hM => ?_) (fun hM => ?_)
    · refine g_iload_n hC dX11_marksInLine_35 rfl 1 rfl ?_
      cases hM
      exact g_reti hR dX11_marksInLine_36 rfl
    · refine g_aload_n hC dX11_marksInLine_18 rfl 0 rfl ?_
      refine g_iload_n hC dX11_marksInLine_19 rfl 2 rfl ?_
      refine g_callVi (As := [.int v2]) (st' := []) (k := a0) (L' := 3) hC Y_X11_isInLine I_X11_isInLine k_822 ⟨by decide, by decide⟩ h0 (ci := 10) (by decide) rfl dX11_marksInLine_20 rfl rfl rfl (Nat.le_of_ble_eq_true rfl) ⟨Nat.zero_le _, Nat.zero_le _⟩ hM (fun c hc => c_X11_isInLine (xE X) a0 h0 v2 c hc) (fun c3 hM => ?_)
      refine g_if_eq (tgt := 29) hC dX11_marksInLine_23 rfl (by decide) hM (fun hM => ?_) (fun hM => ?_)
      · exact g_sub [0, 1, 2] ((bX11_marksInLine_29 hC hml hR a0 h0 rec ih ) _ _ _ hM) rfl
      · refine g_iinc (v := 1) hC (fun y4 => [(1, .int y4), (0, vr X a0), (2, .int v2)]) dX11_marksInLine_26 rfl hM (j := 1) rfl ic_1 hml (by decide) (fun _ => rfl) (fun y4 hM => ?_)
        exact g_sub [1, 0, 2] ((bX11_marksInLine_29 hC hml hR a0 h0 rec ih ) _ _ _ hM) rfl
def MX11_marksInLine (σ : Sto) (ρ : Rho) (a0 : Nat) : Option (Int32 × Sto) :=
  bn ((0 : Int32)) fun y1 =>
  bn ((0 : Int32)) fun y2 =>
  fixN (fun _ _ _ => none) (FX11_marksInLine_4 ρ a0) FU σ y1 y2
set_option maxHeartbeats 4000000 in
set_option maxRecDepth 100000 in
theorem c_X11_marksInLine (E : EX) {n : Nat} {σ : Sto} {ρ : Rho} (a0 : Nat) (h0 : Sh n a0 10) (res : Int32 × Sto) (hM : MX11_marksInLine σ ρ a0 = some res) : CTi E yX11_marksInLine cX11_marksInLine 3 (some .int) 4 [.ref (eb E + a0)] n σ ρ res.1 res.2 ρ := by
  refine ct_i (by decide +kernel) rfl (Nat.le_of_ble_eq_true rfl) (fun X hE hml hC hR => ?_)
  subst hE
  show G X 0 0 n σ ρ 0 [(0, vr X a0)] []
  replace hC : Cx X cX11_marksInLine RX11 4 := hC
  unfold MX11_marksInLine at hM
  refine g_iconst (v := 0) hC dX11_marksInLine_0 rfl ic_0 ?_
  refine g_istore_n hC (fun y1 => [(1, .int y1), (0, vr X a0)]) dX11_marksInLine_1 rfl hM hml (by decide) (fun _ => rfl) (fun y1 hM => ?_)
  refine g_iconst (v := 0) hC dX11_marksInLine_2 rfl ic_0 ?_
  refine g_istore_n hC (fun y2 => [(2, .int y2), (1, .int y1), (0, vr X a0)]) dX11_marksInLine_3 rfl hM hml (by decide) (fun _ => rfl) (fun y2 hM => ?_)
  exact g_sub [2, 1, 0] ((bX11_marksInLine_4 hC hml hR a0 h0  FU) _ _ _ hM) rfl
