def MX11_pencil (σ : Sto) (ρ : Rho) (a0 : Nat) (a1 : Int32) (a2 : Int32) (a3 : Int32) : Option (Int32 × Sto) :=
  Option.bind (MX11_takePencil σ ρ a0 a1 a2) fun c1 =>
  if c1.1 = 0 then
    some ((-1 : Int32), c1.2)
  else
    if a3 < (3000 : Int32) then
      if a3 < (2000 : Int32) then
        if a3 < (1000 : Int32) then
          if a3 < (100 : Int32) then
            if a3 = (0 : Int32) then
              Option.bind (ρ a0 5) fun j2 =>
              Option.bind (MX6_sizeOfBase c1.2 ρ j2) fun c3 =>
              some (c3.1, c3.2)
            else
            if a3 = (1 : Int32) then
              Option.bind (ρ a0 5) fun j4 =>
              Option.bind (MX6_fallen c1.2 ρ j4) fun c5 =>
              some (c5.1, c5.2)
            else
            if a3 = (2 : Int32) then
              Option.bind (ρ a0 5) fun j6 =>
              Option.bind (MX6_touching c1.2 ρ j6) fun c7 =>
              some (c7.1, c7.2)
            else
            some ((-1 : Int32), c1.2)
          else
            Option.bind (ρ a0 5) fun j8 =>
            Option.bind (MX6_nthOfBase c1.2 ρ j8 ((a3 - (100 : Int32)))) fun c9 =>
            some (c9.1, c9.2)
        else
          Option.bind (ρ a0 5) fun j10 =>
          Option.bind (MX6_takeMember c1.2 ρ j10 ((a3 - (1000 : Int32)))) fun c11 =>
          if c11.1 = 0 then
            some ((-1 : Int32), c11.2)
          else
            Option.bind (ρ a0 5) fun j12 =>
            Option.bind (ρ j12 2) fun j13 =>
            Option.bind (MX0_kind c11.2 ρ j13) fun c14 =>
            some (c14, c11.2)
      else
        Option.bind (ρ a0 5) fun j15 =>
        Option.bind (MX6_takeMember c1.2 ρ j15 ((a3 - (2000 : Int32)))) fun c16 =>
        if c16.1 = 0 then
          some ((-1 : Int32), c16.2)
        else
          Option.bind (ρ a0 5) fun j17 =>
          Option.bind (ρ j17 2) fun j18 =>
          Option.bind (MX0_points c16.2 ρ j18) fun c19 =>
          some (c19, c16.2)
    else
      Option.bind (ρ a0 5) fun j20 =>
      Option.bind (MX6_takeMember c1.2 ρ j20 ((a3 - (3000 : Int32)))) fun c21 =>
      if c21.1 = 0 then
        some ((-1 : Int32), c21.2)
      else
        Option.bind (ρ a0 5) fun j22 =>
        Option.bind (ρ j22 2) fun j23 =>
        Option.bind (MX0_lines c21.2 ρ j23) fun c24 =>
        some (c24, c21.2)
set_option maxHeartbeats 4000000 in
set_option maxRecDepth 100000 in
theorem c_X11_pencil (E : EX) {n : Nat} {σ : Sto} {ρ : Rho} (a0 : Nat) (h0 : Sh n a0 10) (a1 : Int32) (a2 : Int32) (a3 : Int32) (res : Int32 × Sto) (hM : MX11_pencil σ ρ a0 a1 a2 a3 = some res) : CTi E yX11_pencil cX11_pencil 4 (some .int) 6 [.ref (eb E + a0), .int a1, .int a2, .int a3] n σ ρ res.1 res.2 ρ := by
  refine ct_i (by decide +kernel) rfl (Nat.le_of_ble_eq_true rfl) (fun X hE hml hC hR => ?_)
  subst hE
  show G X 0 0 n σ ρ 0 [(0, vr X a0), (1, .int a1), (2, .int a2), (3, .int a3)] []
  replace hC : Cx X cX11_pencil RX11 6 := hC
  unfold MX11_pencil at hM
  refine g_aload_n hC dX11_pencil_0 rfl 0 rfl ?_
  refine g_iload_n hC dX11_pencil_1 rfl 1 rfl ?_
  refine g_iload_n hC dX11_pencil_2 rfl 2 rfl ?_
  refine g_callVi (As := [.int a1, .int a2]) (st' := []) (k := a0) (L' := 5) hC Y_X11_takePencil I_X11_takePencil k_969 ⟨by decide, by decide⟩ h0 (ci := 10) (by decide) rfl dX11_pencil_3 rfl rfl rfl (Nat.le_of_ble_eq_true rfl) ⟨Nat.zero_le _, Nat.zero_le _⟩ hM (fun c hc => c_X11_takePencil (xE X) a0 h0 a1 a2 c hc) (fun c1 hM => ?_)
  refine g_if_ne (tgt := 11) hC dX11_pencil_6 rfl (by decide) hM (fun hM => ?_) (fun hM => ?_)
  · refine g_iload_n hC dX11_pencil_11 rfl 3 rfl ?_
    refine g_sipush (v := 3000) hC dX11_pencil_12 rfl is_3000 ?_
    refine g_icmp_lt (tgt := 48) hC dX11_pencil_15 rfl (by decide) hM (fun hM => ?_) (fun hM => ?_)
    · refine g_iload_n hC dX11_pencil_48 rfl 3 rfl ?_
      refine g_sipush (v := 2000) hC dX11_pencil_49 rfl is_2000 ?_
      refine g_icmp_lt (tgt := 85) hC dX11_pencil_52 rfl (by decide) hM (fun hM => ?_) (fun hM => ?_)
      · refine g_iload_n hC dX11_pencil_85 rfl 3 rfl ?_
        refine g_sipush (v := 1000) hC dX11_pencil_86 rfl is_1000 ?_
        refine g_icmp_lt (tgt := 122) hC dX11_pencil_89 rfl (by decide) hM (fun hM => ?_) (fun hM => ?_)
        · refine g_iload_n hC dX11_pencil_122 rfl 3 rfl ?_
          refine g_bipush (v := 100) hC dX11_pencil_123 rfl ib_100 ?_
          refine g_icmp_lt (tgt := 140) hC dX11_pencil_125 rfl (by decide) hM (fun hM => ?_) (fun hM => ?_)
          · refine g_iload_n hC dX11_pencil_140 rfl 3 rfl ?_
            refine g_ite hM (fun hx0 hM => ?_) (fun hx0 hM => ?_)
            · refine g_tswK (tgt := 168) hC dX11_pencil_141 rfl hx0 (z := 0) (by decide) (by decide) (by decide) rfl (by decide) ?_
              refine g_aload_n hC dX11_pencil_168 rfl 0 rfl ?_
              refine fg_10_5 hC h0 k_385 dX11_pencil_169 rfl hM (fun j2 hj2 hM => ?_)
              refine g_callVi (As := []) (st' := []) (k := j2) (L' := 4) hC Y_X6_sizeOfBase I_X6_sizeOfBase k_1006 ⟨by decide, by decide⟩ hj2 (ci := 5) (by decide) rfl dX11_pencil_172 rfl rfl rfl (Nat.le_of_ble_eq_true rfl) ⟨Nat.zero_le _, Nat.zero_le _⟩ hM (fun c hc => c_X6_sizeOfBase (xE X) j2 hj2 c hc) (fun c3 hM => ?_)
              cases hM
              exact g_reti hR dX11_pencil_175 rfl
            refine g_ite hM (fun hx1 hM => ?_) (fun hx1 hM => ?_)
            · refine g_tswK (tgt := 176) hC dX11_pencil_141 rfl hx1 (z := 1) (by decide) (by decide) (by decide) rfl (by decide) ?_
              refine g_aload_n hC dX11_pencil_176 rfl 0 rfl ?_
              refine fg_10_5 hC h0 k_385 dX11_pencil_177 rfl hM (fun j4 hj4 hM => ?_)
              refine g_callVi (As := []) (st' := []) (k := j4) (L' := 5) hC Y_X6_fallen I_X6_fallen k_1010 ⟨by decide, by decide⟩ hj4 (ci := 5) (by decide) rfl dX11_pencil_180 rfl rfl rfl (Nat.le_of_ble_eq_true rfl) ⟨Nat.zero_le _, Nat.zero_le _⟩ hM (fun c hc => c_X6_fallen (xE X) j4 hj4 c hc) (fun c5 hM => ?_)
              cases hM
              exact g_reti hR dX11_pencil_183 rfl
            refine g_ite hM (fun hx2 hM => ?_) (fun hx2 hM => ?_)
            · refine g_tswK (tgt := 184) hC dX11_pencil_141 rfl hx2 (z := 2) (by decide) (by decide) (by decide) rfl (by decide) ?_
              refine g_aload_n hC dX11_pencil_184 rfl 0 rfl ?_
              refine fg_10_5 hC h0 k_385 dX11_pencil_185 rfl hM (fun j6 hj6 hM => ?_)
              refine g_callVi (As := []) (st' := []) (k := j6) (L' := 5) hC Y_X6_touching I_X6_touching k_1016 ⟨by decide, by decide⟩ hj6 (ci := 5) (by decide) rfl dX11_pencil_188 rfl rfl rfl (Nat.le_of_ble_eq_true rfl) ⟨Nat.zero_le _, Nat.zero_le _⟩ hM (fun c hc => c_X6_touching (xE X) j6 hj6 c hc) (fun c7 hM => ?_)
              cases hM
              exact g_reti hR dX11_pencil_191 rfl
            replace hx0 := lv_neT hx0 (a := 0) (by decide)
            replace hx1 := lv_neT hx1 (a := 1) (by decide)
            replace hx2 := lv_neT hx2 (a := 2) (by decide)
            refine g_tswD (tgt := 192) hC dX11_pencil_141 rfl (by omega) (by decide) ?_
            refine g_iconst (v := -1) hC dX11_pencil_192 rfl ic_m1 ?_
            obtain rfl := Option.some.inj hM
            exact g_reti hR dX11_pencil_193 rfl
          · refine g_aload_n hC dX11_pencil_128 rfl 0 rfl ?_
            refine fg_10_5 hC h0 k_385 dX11_pencil_129 rfl hM (fun j8 hj8 hM => ?_)
            refine g_iload_n hC dX11_pencil_132 rfl 3 rfl ?_
            refine g_bipush (v := 100) hC dX11_pencil_133 rfl ib_100 ?_
            refine g_isub hC dX11_pencil_135 rfl ?_
            refine g_callVi (As := [.int ((a3 - (100 : Int32)))]) (st' := []) (k := j8) (L' := 4) hC Y_X6_nthOfBase I_X6_nthOfBase k_995 ⟨by decide, by decide⟩ hj8 (ci := 5) (by decide) rfl dX11_pencil_136 rfl rfl rfl (Nat.le_of_ble_eq_true rfl) ⟨Nat.zero_le _, Nat.zero_le _⟩ hM (fun c hc => c_X6_nthOfBase (xE X) j8 hj8 ((a3 - (100 : Int32))) c hc) (fun c9 hM => ?_)
            cases hM
            exact g_reti hR dX11_pencil_139 rfl
        · refine g_aload_n hC dX11_pencil_92 rfl 0 rfl ?_
          refine fg_10_5 hC h0 k_385 dX11_pencil_93 rfl hM (fun j10 hj10 hM => ?_)
          refine g_iload_n hC dX11_pencil_96 rfl 3 rfl ?_
          refine g_sipush (v := 1000) hC dX11_pencil_97 rfl is_1000 ?_
          refine g_isub hC dX11_pencil_100 rfl ?_
          refine g_callVi (As := [.int ((a3 - (1000 : Int32)))]) (st' := []) (k := j10) (L' := 4) hC Y_X6_takeMember I_X6_takeMember k_984 ⟨by decide, by decide⟩ hj10 (ci := 5) (by decide) rfl dX11_pencil_101 rfl rfl rfl (Nat.le_of_ble_eq_true rfl) ⟨Nat.zero_le _, Nat.zero_le _⟩ hM (fun c hc => c_X6_takeMember (xE X) j10 hj10 ((a3 - (1000 : Int32))) c hc) (fun c11 hM => ?_)
          refine g_if_eq (tgt := 120) hC dX11_pencil_104 rfl (by decide) hM (fun hM => ?_) (fun hM => ?_)
          · refine g_iconst (v := -1) hC dX11_pencil_120 rfl ic_m1 ?_
            obtain rfl := Option.some.inj hM
            exact g_reti hR dX11_pencil_121 rfl
          · refine g_aload_n hC dX11_pencil_107 rfl 0 rfl ?_
            refine fg_10_5 hC h0 k_385 dX11_pencil_108 rfl hM (fun j12 hj12 hM => ?_)
            refine fg_5_2 hC hj12 k_338 dX11_pencil_111 rfl hM (fun j13 hj13 hM => ?_)
            refine g_callVi (As := []) (st' := []) (k := j13) (L' := 4) hC Y_X0_kind I_X0_kind k_704 ⟨by decide, by decide⟩ hj13 (ci := 0) (by decide) rfl dX11_pencil_114 rfl rfl rfl (Nat.le_of_ble_eq_true rfl) ⟨Nat.zero_le _, Nat.zero_le _⟩ hM (fun c hc => c_X0_kind (xE X) j13 hj13 c hc) (fun c14 hM => ?_)
            refine g_goto (tgt := 121) hC dX11_pencil_117 rfl (by decide) ?_
            cases hM
            exact g_reti hR dX11_pencil_121 rfl
      · refine g_aload_n hC dX11_pencil_55 rfl 0 rfl ?_
        refine fg_10_5 hC h0 k_385 dX11_pencil_56 rfl hM (fun j15 hj15 hM => ?_)
        refine g_iload_n hC dX11_pencil_59 rfl 3 rfl ?_
        refine g_sipush (v := 2000) hC dX11_pencil_60 rfl is_2000 ?_
        refine g_isub hC dX11_pencil_63 rfl ?_
        refine g_callVi (As := [.int ((a3 - (2000 : Int32)))]) (st' := []) (k := j15) (L' := 4) hC Y_X6_takeMember I_X6_takeMember k_984 ⟨by decide, by decide⟩ hj15 (ci := 5) (by decide) rfl dX11_pencil_64 rfl rfl rfl (Nat.le_of_ble_eq_true rfl) ⟨Nat.zero_le _, Nat.zero_le _⟩ hM (fun c hc => c_X6_takeMember (xE X) j15 hj15 ((a3 - (2000 : Int32))) c hc) (fun c16 hM => ?_)
        refine g_if_eq (tgt := 83) hC dX11_pencil_67 rfl (by decide) hM (fun hM => ?_) (fun hM => ?_)
        · refine g_iconst (v := -1) hC dX11_pencil_83 rfl ic_m1 ?_
          obtain rfl := Option.some.inj hM
          exact g_reti hR dX11_pencil_84 rfl
        · refine g_aload_n hC dX11_pencil_70 rfl 0 rfl ?_
          refine fg_10_5 hC h0 k_385 dX11_pencil_71 rfl hM (fun j17 hj17 hM => ?_)
          refine fg_5_2 hC hj17 k_338 dX11_pencil_74 rfl hM (fun j18 hj18 hM => ?_)
          refine g_callVi (As := []) (st' := []) (k := j18) (L' := 5) hC Y_X0_points I_X0_points k_871 ⟨by decide, by decide⟩ hj18 (ci := 0) (by decide) rfl dX11_pencil_77 rfl rfl rfl (Nat.le_of_ble_eq_true rfl) ⟨Nat.zero_le _, Nat.zero_le _⟩ hM (fun c hc => c_X0_points (xE X) j18 hj18 c hc) (fun c19 hM => ?_)
          refine g_goto (tgt := 84) hC dX11_pencil_80 rfl (by decide) ?_
          cases hM
          exact g_reti hR dX11_pencil_84 rfl
    · refine g_aload_n hC dX11_pencil_18 rfl 0 rfl ?_
      refine fg_10_5 hC h0 k_385 dX11_pencil_19 rfl hM (fun j20 hj20 hM => ?_)
      refine g_iload_n hC dX11_pencil_22 rfl 3 rfl ?_
      refine g_sipush (v := 3000) hC dX11_pencil_23 rfl is_3000 ?_
      refine g_isub hC dX11_pencil_26 rfl ?_
      refine g_callVi (As := [.int ((a3 - (3000 : Int32)))]) (st' := []) (k := j20) (L' := 4) hC Y_X6_takeMember I_X6_takeMember k_984 ⟨by decide, by decide⟩ hj20 (ci := 5) (by decide) rfl dX11_pencil_27 rfl rfl rfl (Nat.le_of_ble_eq_true rfl) ⟨Nat.zero_le _, Nat.zero_le _⟩ hM (fun c hc => c_X6_takeMember (xE X) j20 hj20 ((a3 - (3000 : Int32))) c hc) (fun c21 hM => ?_)
      refine g_if_eq (tgt := 46) hC dX11_pencil_30 rfl (by decide) hM (fun hM => ?_) (fun hM => ?_)
      · refine g_iconst (v := -1) hC dX11_pencil_46 rfl ic_m1 ?_
        obtain rfl := Option.some.inj hM
        exact g_reti hR dX11_pencil_47 rfl
      · refine g_aload_n hC dX11_pencil_33 rfl 0 rfl ?_
        refine fg_10_5 hC h0 k_385 dX11_pencil_34 rfl hM (fun j22 hj22 hM => ?_)
        refine fg_5_2 hC hj22 k_338 dX11_pencil_37 rfl hM (fun j23 hj23 hM => ?_)
        refine g_callVi (As := []) (st' := []) (k := j23) (L' := 5) hC Y_X0_lines I_X0_lines k_877 ⟨by decide, by decide⟩ hj23 (ci := 0) (by decide) rfl dX11_pencil_40 rfl rfl rfl (Nat.le_of_ble_eq_true rfl) ⟨Nat.zero_le _, Nat.zero_le _⟩ hM (fun c hc => c_X0_lines (xE X) j23 hj23 c hc) (fun c24 hM => ?_)
        refine g_goto (tgt := 47) hC dX11_pencil_43 rfl (by decide) ?_
        cases hM
        exact g_reti hR dX11_pencil_47 rfl
  · refine g_iconst (v := -1) hC dX11_pencil_9 rfl ic_m1 ?_
    obtain rfl := Option.some.inj hM
    exact g_reti hR dX11_pencil_10 rfl
def MX11_member (σ : Sto) (ρ : Rho) (a0 : Nat) (a1 : Int32) (a2 : Int32) (a3 : Int32) (a4 : Int32) : Option (Int32 × Sto) :=
  Option.bind (MX11_isNumber a4) fun c1 =>
  if c1 = 0 then
    some ((-1 : Int32), σ)
  else
    Option.bind (MX11_takePencil σ ρ a0 a1 a2) fun c2 =>
    if c2.1 = 0 then
      some ((-1 : Int32), c2.2)
    else
      Option.bind (ρ a0 5) fun j3 =>
      Option.bind (MX6_takeMember c2.2 ρ j3 a3) fun c4 =>
      if c4.1 = 0 then
        some ((-1 : Int32), c4.2)
      else
        Option.bind (ρ a0 5) fun j5 =>
        Option.bind (ρ j5 2) fun j6 =>
        Option.bind (ρ j6 0) fun j7 =>
        Option.bind (MX3_nth c4.2 j7 a4) fun c8 =>
        some (c8, c4.2)
set_option maxHeartbeats 4000000 in
set_option maxRecDepth 100000 in
theorem c_X11_member (E : EX) {n : Nat} {σ : Sto} {ρ : Rho} (a0 : Nat) (h0 : Sh n a0 10) (a1 : Int32) (a2 : Int32) (a3 : Int32) (a4 : Int32) (res : Int32 × Sto) (hM : MX11_member σ ρ a0 a1 a2 a3 a4 = some res) : CTi E yX11_member cX11_member 5 (some .int) 6 [.ref (eb E + a0), .int a1, .int a2, .int a3, .int a4] n σ ρ res.1 res.2 ρ := by
  refine ct_i (by decide +kernel) rfl (Nat.le_of_ble_eq_true rfl) (fun X hE hml hC hR => ?_)
  subst hE
  show G X 0 0 n σ ρ 0 [(0, vr X a0), (1, .int a1), (2, .int a2), (3, .int a3), (4, .int a4)] []
  replace hC : Cx X cX11_member RX11 6 := hC
  unfold MX11_member at hM
  refine g_iload hC dX11_member_0 rfl 4 rfl ?_
  refine g_callSi (As := [.int a4]) (st' := []) (L' := 0) hC Y_X11_isNumber k_660 k_659 ⟨by decide, by decide⟩ dX11_member_2 rfl rfl rfl (Nat.le_of_ble_eq_true rfl) ⟨Nat.zero_le _, Nat.zero_le _⟩ hM (fun c hc => c_X11_isNumber (xE X) a4 c hc) (fun c1 hM => ?_)
  refine g_if_eq (tgt := 28) hC dX11_member_5 rfl (by decide) hM (fun hM => ?_) (fun hM => ?_)
  · refine g_iconst (v := -1) hC dX11_member_28 rfl ic_m1 ?_
    obtain rfl := Option.some.inj hM
    exact g_reti hR dX11_member_29 rfl
  · refine g_aload_n hC dX11_member_8 rfl 0 rfl ?_
    refine g_iload_n hC dX11_member_9 rfl 1 rfl ?_
    refine g_iload_n hC dX11_member_10 rfl 2 rfl ?_
    refine g_callVi (As := [.int a1, .int a2]) (st' := []) (k := a0) (L' := 5) hC Y_X11_takePencil I_X11_takePencil k_969 ⟨by decide, by decide⟩ h0 (ci := 10) (by decide) rfl dX11_member_11 rfl rfl rfl (Nat.le_of_ble_eq_true rfl) ⟨Nat.zero_le _, Nat.zero_le _⟩ hM (fun c hc => c_X11_takePencil (xE X) a0 h0 a1 a2 c hc) (fun c2 hM => ?_)
    refine g_if_eq (tgt := 28) hC dX11_member_14 rfl (by decide) hM (fun hM => ?_) (fun hM => ?_)
    · refine g_iconst (v := -1) hC dX11_member_28 rfl ic_m1 ?_
      obtain rfl := Option.some.inj hM
      exact g_reti hR dX11_member_29 rfl
    · refine g_aload_n hC dX11_member_17 rfl 0 rfl ?_
      refine fg_10_5 hC h0 k_385 dX11_member_18 rfl hM (fun j3 hj3 hM => ?_)
      refine g_iload_n hC dX11_member_21 rfl 3 rfl ?_
      refine g_callVi (As := [.int a3]) (st' := []) (k := j3) (L' := 4) hC Y_X6_takeMember I_X6_takeMember k_984 ⟨by decide, by decide⟩ hj3 (ci := 5) (by decide) rfl dX11_member_22 rfl rfl rfl (Nat.le_of_ble_eq_true rfl) ⟨Nat.zero_le _, Nat.zero_le _⟩ hM (fun c hc => c_X6_takeMember (xE X) j3 hj3 a3 c hc) (fun c4 hM => ?_)
      refine g_if_ne (tgt := 30) hC dX11_member_25 rfl (by decide) hM (fun hM => ?_) (fun hM => ?_)
      · refine g_aload_n hC dX11_member_30 rfl 0 rfl ?_
        refine fg_10_5 hC h0 k_385 dX11_member_31 rfl hM (fun j5 hj5 hM => ?_)
        refine fg_5_2 hC hj5 k_338 dX11_member_34 rfl hM (fun j6 hj6 hM => ?_)
        refine fg_0_0 hC hj6 k_324 dX11_member_37 rfl hM (fun j7 hj7 hM => ?_)
        refine g_iload hC dX11_member_40 rfl 4 rfl ?_
        refine g_callVi (As := [.int a4]) (st' := []) (k := j7) (L' := 0) hC Y_X3_nth I_X3_nth k_668 ⟨by decide, by decide⟩ hj7 (ci := 2) (by decide) rfl dX11_member_42 rfl rfl rfl (Nat.le_of_ble_eq_true rfl) ⟨Nat.zero_le _, Nat.zero_le _⟩ hM (fun c hc => c_X3_nth (xE X) j7 hj7 a4 c hc) (fun c8 hM => ?_)
        cases hM
        exact g_reti hR dX11_member_45 rfl
      · refine g_iconst (v := -1) hC dX11_member_28 rfl ic_m1 ?_
        obtain rfl := Option.some.inj hM
        exact g_reti hR dX11_member_29 rfl
def MX11_passing (σ : Sto) (ρ : Rho) (a0 : Nat) (a1 : Int32) (a2 : Int32) (a3 : Int32) : Option (Int32 × Sto) :=
  Option.bind (MX11_takePencil σ ρ a0 a1 a2) fun c1 =>
  if c1.1 = 0 then
    some ((-1 : Int32), c1.2)
  else
    Option.bind (ρ a0 11) fun j2 =>
    Option.bind (ρ a0 0) fun j3 =>
    Option.bind (ρ j3 0) fun j4 =>
    Option.bind (MX10_take c1.2 j2 a3 ((c1.2 j4 0))) fun c5 =>
    if c5.1 = 0 then
      some ((-1 : Int32), c5.2)
    else
      Option.bind (ρ a0 5) fun j6 =>
      Option.bind (ρ a0 11) fun j7 =>
      Option.bind (MX6_firstThrough c5.2 ρ j6 j7) fun c8 =>
      some (c8.1, c8.2)
set_option maxHeartbeats 4000000 in
set_option maxRecDepth 100000 in
theorem c_X11_passing (E : EX) {n : Nat} {σ : Sto} {ρ : Rho} (a0 : Nat) (h0 : Sh n a0 10) (a1 : Int32) (a2 : Int32) (a3 : Int32) (res : Int32 × Sto) (hM : MX11_passing σ ρ a0 a1 a2 a3 = some res) : CTi E yX11_passing cX11_passing 4 (some .int) 6 [.ref (eb E + a0), .int a1, .int a2, .int a3] n σ ρ res.1 res.2 ρ := by
  refine ct_i (by decide +kernel) rfl (Nat.le_of_ble_eq_true rfl) (fun X hE hml hC hR => ?_)
  subst hE
  show G X 0 0 n σ ρ 0 [(0, vr X a0), (1, .int a1), (2, .int a2), (3, .int a3)] []
  replace hC : Cx X cX11_passing RX11 6 := hC
  unfold MX11_passing at hM
  refine g_aload_n hC dX11_passing_0 rfl 0 rfl ?_
  refine g_iload_n hC dX11_passing_1 rfl 1 rfl ?_
  refine g_iload_n hC dX11_passing_2 rfl 2 rfl ?_
  refine g_callVi (As := [.int a1, .int a2]) (st' := []) (k := a0) (L' := 5) hC Y_X11_takePencil I_X11_takePencil k_969 ⟨by decide, by decide⟩ h0 (ci := 10) (by decide) rfl dX11_passing_3 rfl rfl rfl (Nat.le_of_ble_eq_true rfl) ⟨Nat.zero_le _, Nat.zero_le _⟩ hM (fun c hc => c_X11_takePencil (xE X) a0 h0 a1 a2 c hc) (fun c1 hM => ?_)
  refine g_if_eq (tgt := 30) hC dX11_passing_6 rfl (by decide) hM (fun hM => ?_) (fun hM => ?_)
  · refine g_iconst (v := -1) hC dX11_passing_30 rfl ic_m1 ?_
    obtain rfl := Option.some.inj hM
    exact g_reti hR dX11_passing_31 rfl
  · refine g_aload_n hC dX11_passing_9 rfl 0 rfl ?_
    refine fg_10_11 hC h0 k_391 dX11_passing_10 rfl hM (fun j2 hj2 hM => ?_)
    refine g_iload_n hC dX11_passing_13 rfl 3 rfl ?_
    refine g_aload_n hC dX11_passing_14 rfl 0 rfl ?_
    refine fg_10_0 hC h0 k_380 dX11_passing_15 rfl hM (fun j3 hj3 hM => ?_)
    refine fg_3_0 hC hj3 k_172 dX11_passing_18 rfl hM (fun j4 hj4 hM => ?_)
    refine fg_7_0 hC hj4 k_138 dX11_passing_21 rfl ?_
    refine g_callVi (As := [.int a3, .int ((c1.2 j4 0))]) (st' := []) (k := j2) (L' := 1) hC Y_X10_take I_X10_take k_790 ⟨by decide, by decide⟩ hj2 (ci := 9) (by decide) rfl dX11_passing_24 rfl rfl rfl (Nat.le_of_ble_eq_true rfl) ⟨Nat.zero_le _, Nat.zero_le _⟩ hM (fun c hc => c_X10_take (xE X) j2 hj2 a3 ((c1.2 j4 0)) c hc) (fun c5 hM => ?_)
    refine g_if_ne (tgt := 32) hC dX11_passing_27 rfl (by decide) hM (fun hM => ?_) (fun hM => ?_)
    · refine g_aload_n hC dX11_passing_32 rfl 0 rfl ?_
      refine fg_10_5 hC h0 k_385 dX11_passing_33 rfl hM (fun j6 hj6 hM => ?_)
      refine g_aload_n hC dX11_passing_36 rfl 0 rfl ?_
      refine fg_10_11 hC h0 k_391 dX11_passing_37 rfl hM (fun j7 hj7 hM => ?_)
      refine g_callVi (As := [vr X j7]) (st' := []) (k := j6) (L' := 5) hC Y_X6_firstThrough I_X6_firstThrough k_1034 ⟨by decide, by decide⟩ hj6 (ci := 5) (by decide) rfl dX11_passing_40 rfl rfl rfl (Nat.le_of_ble_eq_true rfl) ⟨Nat.zero_le _, Nat.zero_le _⟩ hM (fun c hc => c_X6_firstThrough (xE X) j6 hj6 j7 hj7 c hc) (fun c8 hM => ?_)
      cases hM
      exact g_reti hR dX11_passing_43 rfl
    · refine g_iconst (v := -1) hC dX11_passing_30 rfl ic_m1 ?_
      obtain rfl := Option.some.inj hM
      exact g_reti hR dX11_passing_31 rfl
def MX11_only (σ : Sto) (ρ : Rho) (a0 : Nat) (a1 : Int32) : Option (Int32 × Sto × Rho) :=
  Option.bind (ρ a0 6) fun j1 =>
  Option.bind (ρ a0 0) fun j2 =>
  Option.bind (ρ j2 0) fun j3 =>
  Option.bind (MX1_gather σ ρ j1 j3) fun c4 =>
  Option.bind (c4.2 a0 6) fun j5 =>
  if (c4.1 j5 2) = (1 : Int32) then
    Option.bind (MX11_isNumber a1) fun c6 =>
    if c6 = 0 then
      some ((-1 : Int32), c4.1, c4.2)
    else
      Option.bind (c4.2 a0 6) fun j7 =>
      Option.bind (c4.2 a0 9) fun j8 =>
      Option.bind (MX1_readOne c4.1 c4.2 j7 j8) fun c9 =>
      Option.bind (c4.2 a0 9) fun j10 =>
      Option.bind (MX3_nth c9 j10 a1) fun c11 =>
      some (c11, c9, c4.2)
  else
    some ((-1 : Int32), c4.1, c4.2)
set_option maxHeartbeats 4000000 in
set_option maxRecDepth 100000 in
theorem c_X11_only (E : EX) {n : Nat} {σ : Sto} {ρ : Rho} (a0 : Nat) (h0 : Sh n a0 10) (a1 : Int32) (res : Int32 × Sto × Rho) (hM : MX11_only σ ρ a0 a1 = some res) : CTi E yX11_only cX11_only 2 (some .int) 6 [.ref (eb E + a0), .int a1] n σ ρ res.1 res.2.1 res.2.2 := by
  refine ct_i (by decide +kernel) rfl (Nat.le_of_ble_eq_true rfl) (fun X hE hml hC hR => ?_)
  subst hE
  show G X 0 0 n σ ρ 0 [(0, vr X a0), (1, .int a1)] []
  replace hC : Cx X cX11_only RX11 6 := hC
  unfold MX11_only at hM
  refine g_aload_n hC dX11_only_0 rfl 0 rfl ?_
  refine fg_10_6 hC h0 k_386 dX11_only_1 rfl hM (fun j1 hj1 hM => ?_)
  refine g_aload_n hC dX11_only_4 rfl 0 rfl ?_
  refine fg_10_0 hC h0 k_380 dX11_only_5 rfl hM (fun j2 hj2 hM => ?_)
  refine fg_3_0 hC hj2 k_172 dX11_only_8 rfl hM (fun j3 hj3 hM => ?_)
  refine g_callVv0 (As := [vr X j3]) (st' := []) (k := j1) (L' := 5) hC Y_X1_gather I_X1_gather k_755 ⟨by decide, by decide⟩ hj1 (ci := 1) (by decide) rfl dX11_only_11 rfl rfl rfl (Nat.le_of_ble_eq_true rfl) ⟨Nat.zero_le _, Nat.zero_le _⟩ hM (fun c hc => c_X1_gather (xE X) j1 hj1 j3 hj3 c hc) (fun c4 hM => ?_)
  refine g_aload_n hC dX11_only_14 rfl 0 rfl ?_
  refine fg_10_6 hC h0 k_386 dX11_only_15 rfl hM (fun j5 hj5 hM => ?_)
  refine fg_1_2 hC hj5 k_366 dX11_only_18 rfl ?_
  refine g_iconst (v := 1) hC dX11_only_21 rfl ic_1 ?_
  refine g_icmp_ne (tgt := 32) hC dX11_only_22 rfl (by decide) hM (fun hM => ?_) (fun hM => ?_)
  · refine g_iconst (v := -1) hC dX11_only_32 rfl ic_m1 ?_
    obtain rfl := Option.some.inj hM
    exact g_reti hR dX11_only_33 rfl
  · refine g_iload_n hC dX11_only_25 rfl 1 rfl ?_
    refine g_callSi (As := [.int a1]) (st' := []) (L' := 0) hC Y_X11_isNumber k_660 k_659 ⟨by decide, by decide⟩ dX11_only_26 rfl rfl rfl (Nat.le_of_ble_eq_true rfl) ⟨Nat.zero_le _, Nat.zero_le _⟩ hM (fun c hc => c_X11_isNumber (xE X) a1 c hc) (fun c6 hM => ?_)
    refine g_if_ne (tgt := 34) hC dX11_only_29 rfl (by decide) hM (fun hM => ?_) (fun hM => ?_)
    · refine g_aload_n hC dX11_only_34 rfl 0 rfl ?_
      refine fg_10_6 hC h0 k_386 dX11_only_35 rfl hM (fun j7 hj7 hM => ?_)
      refine g_aload_n hC dX11_only_38 rfl 0 rfl ?_
      refine fg_10_9 hC h0 k_389 dX11_only_39 rfl hM (fun j8 hj8 hM => ?_)
      refine g_callVv0 (As := [vr X j8]) (st' := []) (k := j7) (L' := 3) hC Y_X1_readOne I_X1_readOne k_777 ⟨by decide, by decide⟩ hj7 (ci := 1) (by decide) rfl dX11_only_42 rfl rfl rfl (Nat.le_of_ble_eq_true rfl) ⟨Nat.zero_le _, Nat.zero_le _⟩ hM (fun c hc => c_X1_readOne (xE X) j7 hj7 j8 hj8 c hc) (fun c9 hM => ?_)
      refine g_aload_n hC dX11_only_45 rfl 0 rfl ?_
      refine fg_10_9 hC h0 k_389 dX11_only_46 rfl hM (fun j10 hj10 hM => ?_)
      refine g_iload_n hC dX11_only_49 rfl 1 rfl ?_
      refine g_callVi (As := [.int a1]) (st' := []) (k := j10) (L' := 0) hC Y_X3_nth I_X3_nth k_668 ⟨by decide, by decide⟩ hj10 (ci := 2) (by decide) rfl dX11_only_50 rfl rfl rfl (Nat.le_of_ble_eq_true rfl) ⟨Nat.zero_le _, Nat.zero_le _⟩ hM (fun c hc => c_X3_nth (xE X) j10 hj10 a1 c hc) (fun c11 hM => ?_)
      cases hM
      exact g_reti hR dX11_only_53 rfl
    · refine g_iconst (v := -1) hC dX11_only_32 rfl ic_m1 ?_
      obtain rfl := Option.some.inj hM
      exact g_reti hR dX11_only_33 rfl
def MX11_freed (σ : Sto) (ρ : Rho) (a0 : Nat) (a1 : Int32) : Option (Int32 × Sto × Rho) :=
  Option.bind (ρ a0 11) fun j1 =>
  Option.bind (ρ a0 0) fun j2 =>
  Option.bind (ρ j2 0) fun j3 =>
  Option.bind (MX10_take σ j1 a1 ((σ j3 0))) fun c4 =>
  if c4.1 = 0 then
    some ((-1 : Int32), c4.2, ρ)
  else
    Option.bind (ρ a0 0) fun j5 =>
    Option.bind (ρ j5 0) fun j6 =>
    Option.bind (MX8_isMarked c4.2 ρ j6 a1) fun c7 =>
    if c7 = 0 then
      Option.bind (ρ a0 6) fun j8 =>
      Option.bind (ρ a0 0) fun j9 =>
      Option.bind (ρ j9 0) fun j10 =>
      Option.bind (MX1_gather c4.2 ρ j8 j10) fun c11 =>
      Option.bind (c11.2 a0 6) fun j12 =>
      Option.bind (c11.2 a0 11) fun j13 =>
      Option.bind (MX1_isLessBy c11.1 c11.2 j12 j13) fun c14 =>
      if c14 = 0 then
        Option.bind (c11.2 a0 6) fun j15 =>
        some ((c11.1 j15 2), c11.1, c11.2)
      else
        Option.bind (c11.2 a0 6) fun j16 =>
        some (((c11.1 j16 2) - (1 : Int32)), c11.1, c11.2)
    else
      some ((-1 : Int32), c4.2, ρ)
set_option maxHeartbeats 4000000 in
set_option maxRecDepth 100000 in
theorem c_X11_freed (E : EX) {n : Nat} {σ : Sto} {ρ : Rho} (a0 : Nat) (h0 : Sh n a0 10) (a1 : Int32) (res : Int32 × Sto × Rho) (hM : MX11_freed σ ρ a0 a1 = some res) : CTi E yX11_freed cX11_freed 2 (some .int) 6 [.ref (eb E + a0), .int a1] n σ ρ res.1 res.2.1 res.2.2 := by
  refine ct_i (by decide +kernel) rfl (Nat.le_of_ble_eq_true rfl) (fun X hE hml hC hR => ?_)
  subst hE
  show G X 0 0 n σ ρ 0 [(0, vr X a0), (1, .int a1)] []
  replace hC : Cx X cX11_freed RX11 6 := hC
  unfold MX11_freed at hM
  refine g_aload_n hC dX11_freed_0 rfl 0 rfl ?_
  refine fg_10_11 hC h0 k_391 dX11_freed_1 rfl hM (fun j1 hj1 hM => ?_)
  refine g_iload_n hC dX11_freed_4 rfl 1 rfl ?_
  refine g_aload_n hC dX11_freed_5 rfl 0 rfl ?_
  refine fg_10_0 hC h0 k_380 dX11_freed_6 rfl hM (fun j2 hj2 hM => ?_)
  refine fg_3_0 hC hj2 k_172 dX11_freed_9 rfl hM (fun j3 hj3 hM => ?_)
  refine fg_7_0 hC hj3 k_138 dX11_freed_12 rfl ?_
  refine g_callVi (As := [.int a1, .int ((σ j3 0))]) (st' := []) (k := j1) (L' := 1) hC Y_X10_take I_X10_take k_790 ⟨by decide, by decide⟩ hj1 (ci := 9) (by decide) rfl dX11_freed_15 rfl rfl rfl (Nat.le_of_ble_eq_true rfl) ⟨Nat.zero_le _, Nat.zero_le _⟩ hM (fun c hc => c_X10_take (xE X) j1 hj1 a1 ((σ j3 0)) c hc) (fun c4 hM => ?_)
  refine g_if_eq (tgt := 35) hC dX11_freed_18 rfl (by decide) hM (fun hM => ?_) (fun hM => ?_)
  · refine g_iconst (v := -1) hC dX11_freed_35 rfl ic_m1 ?_
    obtain rfl := Option.some.inj hM
    exact g_reti hR dX11_freed_36 rfl
  · refine g_aload_n hC dX11_freed_21 rfl 0 rfl ?_
    refine fg_10_0 hC h0 k_380 dX11_freed_22 rfl hM (fun j5 hj5 hM => ?_)
    refine fg_3_0 hC hj5 k_172 dX11_freed_25 rfl hM (fun j6 hj6 hM => ?_)
    refine g_iload_n hC dX11_freed_28 rfl 1 rfl ?_
    refine g_callVi (As := [.int a1]) (st' := []) (k := j6) (L' := 1) hC Y_X8_isMarked I_X8_isMarked k_791 ⟨by decide, by decide⟩ hj6 (ci := 7) (by decide) rfl dX11_freed_29 rfl rfl rfl (Nat.le_of_ble_eq_true rfl) ⟨Nat.zero_le _, Nat.zero_le _⟩ hM (fun c hc => c_X8_isMarked (xE X) j6 hj6 a1 c hc) (fun c7 hM => ?_)
    refine g_if_eq (tgt := 37) hC dX11_freed_32 rfl (by decide) hM (fun hM => ?_) (fun hM => ?_)
    · refine g_aload_n hC dX11_freed_37 rfl 0 rfl ?_
      refine fg_10_6 hC h0 k_386 dX11_freed_38 rfl hM (fun j8 hj8 hM => ?_)
      refine g_aload_n hC dX11_freed_41 rfl 0 rfl ?_
      refine fg_10_0 hC h0 k_380 dX11_freed_42 rfl hM (fun j9 hj9 hM => ?_)
      refine fg_3_0 hC hj9 k_172 dX11_freed_45 rfl hM (fun j10 hj10 hM => ?_)
      refine g_callVv0 (As := [vr X j10]) (st' := []) (k := j8) (L' := 5) hC Y_X1_gather I_X1_gather k_755 ⟨by decide, by decide⟩ hj8 (ci := 1) (by decide) rfl dX11_freed_48 rfl rfl rfl (Nat.le_of_ble_eq_true rfl) ⟨Nat.zero_le _, Nat.zero_le _⟩ hM (fun c hc => c_X1_gather (xE X) j8 hj8 j10 hj10 c hc) (fun c11 hM => ?_)
      refine g_aload_n hC dX11_freed_51 rfl 0 rfl ?_
      refine fg_10_6 hC h0 k_386 dX11_freed_52 rfl hM (fun j12 hj12 hM => ?_)
      refine g_aload_n hC dX11_freed_55 rfl 0 rfl ?_
      refine fg_10_11 hC h0 k_391 dX11_freed_56 rfl hM (fun j13 hj13 hM => ?_)
      refine g_callVi (As := [vr X j13]) (st' := []) (k := j12) (L' := 4) hC Y_X1_isLessBy I_X1_isLessBy k_1046 ⟨by decide, by decide⟩ hj12 (ci := 1) (by decide) rfl dX11_freed_59 rfl rfl rfl (Nat.le_of_ble_eq_true rfl) ⟨Nat.zero_le _, Nat.zero_le _⟩ hM (fun c hc => c_X1_isLessBy (xE X) j12 hj12 j13 hj13 c hc) (fun c14 hM => ?_)
      refine g_if_eq (tgt := 77) hC dX11_freed_62 rfl (by decide) hM (fun hM => ?_) (fun hM => ?_)
      · refine g_aload_n hC dX11_freed_77 rfl 0 rfl ?_
        refine fg_10_6 hC h0 k_386 dX11_freed_78 rfl hM (fun j15 hj15 hM => ?_)
        refine fg_1_2 hC hj15 k_366 dX11_freed_81 rfl ?_
        cases hM
        exact g_reti hR dX11_freed_84 rfl
      · refine g_aload_n hC dX11_freed_65 rfl 0 rfl ?_
        refine fg_10_6 hC h0 k_386 dX11_freed_66 rfl hM (fun j16 hj16 hM => ?_)
        refine fg_1_2 hC hj16 k_366 dX11_freed_69 rfl ?_
        refine g_iconst (v := 1) hC dX11_freed_72 rfl ic_1 ?_
        refine g_isub hC dX11_freed_73 rfl ?_
        refine g_goto (tgt := 84) hC dX11_freed_74 rfl (by decide) ?_
        obtain rfl := Option.some.inj hM
        exact g_reti hR dX11_freed_84 rfl
    · refine g_iconst (v := -1) hC dX11_freed_35 rfl ic_m1 ?_
      obtain rfl := Option.some.inj hM
      exact g_reti hR dX11_freed_36 rfl
def BX11_useful_66 (a0 : Nat) (rec : Sto → Rho → Int32 → Int32 → Int32 → Option (Int32 × Sto × Rho)) (σ : Sto) (ρ : Rho) (v1 : Int32) (v2 : Int32) (v3 : Int32) : Option (Int32 × Sto × Rho) :=
  bn (v3 + (1 : Int32)) fun y1 =>
  rec σ ρ v1 v2 y1
set_option maxHeartbeats 4000000 in
set_option maxRecDepth 100000 in
theorem bX11_useful_66 {X : CX} {n : Nat} {res : Int32 × Sto × Rho} (hC : Cx X cX11_useful RX11 6) (hml : (xc X).maxLocals = 4) (hR : RtT (some .int) X cX11_useful n res.1 res.2.1 res.2.2) (a0 : Nat) (h0 : Sh n a0 10) (rec : Sto → Rho → Int32 → Int32 → Int32 → Option (Int32 × Sto × Rho)) (ih : ∀ (σ : Sto) (ρ : Rho) (v1 : Int32) (v2 : Int32) (v3 : Int32), rec σ ρ v1 v2 v3 = some res → G X 0 0 n σ ρ 29 [(0, vr X a0), (1, .int v1), (2, .int v2), (3, .int v3)] []) : ∀ (σ : Sto) (ρ : Rho) (v1 : Int32) (v2 : Int32) (v3 : Int32), BX11_useful_66 a0 rec σ ρ v1 v2 v3 = some res → G X 0 0 n σ ρ 66 [(0, vr X a0), (1, .int v1), (2, .int v2), (3, .int v3)] [] := by
  intro σ ρ v1 v2 v3 hM
  unfold BX11_useful_66 at hM
  refine g_iinc (v := 1) hC (fun y1 => [(3, .int y1), (0, vr X a0), (1, .int v1), (2, .int v2)]) dX11_useful_66 rfl hM (j := 3) rfl ic_1 hml (by decide) (fun _ => rfl) (fun y1 hM => ?_)
  refine g_goto (tgt := 29) hC dX11_useful_69 rfl (by decide) ?_
  exact g_sub [1, 2, 3, 0] (ih _ _ _ _ _ hM) rfl
def FX11_useful_29 (a0 : Nat) (rec : Sto → Rho → Int32 → Int32 → Int32 → Option (Int32 × Sto × Rho)) (σ : Sto) (ρ : Rho) (v1 : Int32) (v2 : Int32) (v3 : Int32) : Option (Int32 × Sto × Rho) :=
  Option.bind (MX2_points v1) fun c1 =>
  if c1 ≤ v3 then
    some (v2, σ, ρ)
  else
    Option.bind (ρ a0 11) fun j2 =>
    Option.bind (MX10_take σ j2 v3 v1) fun c3 =>
    if c3.1 = 0 then
      BX11_useful_66 a0 rec c3.2 ρ v1 v2 v3
    else
      Option.bind (ρ a0 6) fun j4 =>
      Option.bind (ρ a0 11) fun j5 =>
      Option.bind (MX1_isLessBy c3.2 ρ j4 j5) fun c6 =>
      if c6 = 0 then
        BX11_useful_66 a0 rec c3.2 ρ v1 v2 v3
      else
        bn (v2 + (1 : Int32)) fun y7 =>
        BX11_useful_66 a0 rec c3.2 ρ v1 y7 v3
set_option maxHeartbeats 4000000 in
set_option maxRecDepth 100000 in
theorem bX11_useful_29 {X : CX} {n : Nat} {res : Int32 × Sto × Rho} (hC : Cx X cX11_useful RX11 6) (hml : (xc X).maxLocals = 4) (hR : RtT (some .int) X cX11_useful n res.1 res.2.1 res.2.2) (a0 : Nat) (h0 : Sh n a0 10) (fu : Nat) : ∀ (σ : Sto) (ρ : Rho) (v1 : Int32) (v2 : Int32) (v3 : Int32), fixN (fun _ _ _ _ _ => none) (FX11_useful_29 a0) fu σ ρ v1 v2 v3 = some res → G X 0 0 n σ ρ 29 [(0, vr X a0), (1, .int v1), (2, .int v2), (3, .int v3)] [] := by
  refine fixN_ind (P := fun (f : Sto → Rho → Int32 → Int32 → Int32 → Option (Int32 × Sto × Rho)) => ∀ (σ : Sto) (ρ : Rho) (v1 : Int32) (v2 : Int32) (v3 : Int32), f σ ρ v1 v2 v3 = some res → G X 0 0 n σ ρ 29 [(0, vr X a0), (1, .int v1), (2, .int v2), (3, .int v3)] []) ?_ ?_ fu
  · intro σ ρ v1 v2 v3 hM; cases hM
  · intro rec ih σ ρ v1 v2 v3 hM
    unfold FX11_useful_29 at hM
    refine g_iload_n hC dX11_useful_29 rfl 3 rfl ?_
    refine g_iload_n hC dX11_useful_30 rfl 1 rfl ?_
    refine g_callSi (As := [.int v1]) (st' := [.int v3]) (L' := 0) hC Y_X2_points k_552 k_813 ⟨by decide, by decide⟩ dX11_useful_31 rfl rfl rfl (Nat.le_of_ble_eq_true rfl) ⟨Nat.zero_le _, Nat.zero_le _⟩ hM (fun c hc => c_X2_points (xE X) v1 c hc) (fun c1 hM => ?_)
    refine g_icmp_ge (tgt := 72) hC dX11_useful_34 rfl (by decide) hM (fun hM => ?_) (fun hM => ?_)
    · refine g_iload_n hC dX11_useful_72 rfl 2 rfl ?_
      cases hM
      exact g_reti hR dX11_useful_73 rfl
    · refine g_aload_n hC dX11_useful_37 rfl 0 rfl ?_
      refine fg_10_11 hC h0 k_391 dX11_useful_38 rfl hM (fun j2 hj2 hM => ?_)
      refine g_iload_n hC dX11_useful_41 rfl 3 rfl ?_
      refine g_iload_n hC dX11_useful_42 rfl 1 rfl ?_
      refine g_callVi (As := [.int v3, .int v1]) (st' := []) (k := j2) (L' := 1) hC Y_X10_take I_X10_take k_790 ⟨by decide, by decide⟩ hj2 (ci := 9) (by decide) rfl dX11_useful_43 rfl rfl rfl (Nat.le_of_ble_eq_true rfl) ⟨Nat.zero_le _, Nat.zero_le _⟩ hM (fun c hc => c_X10_take (xE X) j2 hj2 v3 v1 c hc) (fun c3 hM => ?_)
      refine g_if_eq (tgt := 66) hC dX11_useful_46 rfl (by decide) hM (fun hM => ?_) (fun hM => ?_)
      · exact g_sub [0, 1, 2, 3] ((bX11_useful_66 hC hml hR a0 h0 rec ih ) _ _ _ _ _ hM) rfl
      · refine g_aload_n hC dX11_useful_49 rfl 0 rfl ?_
        refine fg_10_6 hC h0 k_386 dX11_useful_50 rfl hM (fun j4 hj4 hM => ?_)
        refine g_aload_n hC dX11_useful_53 rfl 0 rfl ?_
        refine fg_10_11 hC h0 k_391 dX11_useful_54 rfl hM (fun j5 hj5 hM => ?_)
        refine g_callVi (As := [vr X j5]) (st' := []) (k := j4) (L' := 4) hC Y_X1_isLessBy I_X1_isLessBy k_1046 ⟨by decide, by decide⟩ hj4 (ci := 1) (by decide) rfl dX11_useful_57 rfl rfl rfl (Nat.le_of_ble_eq_true rfl) ⟨Nat.zero_le _, Nat.zero_le _⟩ hM (fun c hc => c_X1_isLessBy (xE X) j4 hj4 j5 hj5 c hc) (fun c6 hM => ?_)
        refine g_if_eq (tgt := 66) hC dX11_useful_60 rfl (by decide) hM (fun hM => ?_) (fun hM => ?_)
        · exact g_sub [0, 1, 2, 3] ((bX11_useful_66 hC hml hR a0 h0 rec ih ) _ _ _ _ _ hM) rfl
        · refine g_iinc (v := 1) hC (fun y7 => [(2, .int y7), (0, vr X a0), (1, .int v1), (3, .int v3)]) dX11_useful_63 rfl hM (j := 2) rfl ic_1 hml (by decide) (fun _ => rfl) (fun y7 hM => ?_)
          exact g_sub [1, 2, 0, 3] ((bX11_useful_66 hC hml hR a0 h0 rec ih ) _ _ _ _ _ hM) rfl
def MX11_useful (σ : Sto) (ρ : Rho) (a0 : Nat) : Option (Int32 × Sto × Rho) :=
  Option.bind (ρ a0 6) fun j1 =>
  Option.bind (ρ a0 0) fun j2 =>
  Option.bind (ρ j2 0) fun j3 =>
  Option.bind (MX1_gather σ ρ j1 j3) fun c4 =>
  Option.bind (c4.2 a0 0) fun j5 =>
  Option.bind (c4.2 j5 0) fun j6 =>
  bn ((c4.1 j6 0)) fun y7 =>
  bn ((0 : Int32)) fun y8 =>
  bn ((0 : Int32)) fun y9 =>
  fixN (fun _ _ _ _ _ => none) (FX11_useful_29 a0) FU c4.1 c4.2 y7 y8 y9
set_option maxHeartbeats 4000000 in
set_option maxRecDepth 100000 in
theorem c_X11_useful (E : EX) {n : Nat} {σ : Sto} {ρ : Rho} (a0 : Nat) (h0 : Sh n a0 10) (res : Int32 × Sto × Rho) (hM : MX11_useful σ ρ a0 = some res) : CTi E yX11_useful cX11_useful 4 (some .int) 6 [.ref (eb E + a0)] n σ ρ res.1 res.2.1 res.2.2 := by
  refine ct_i (by decide +kernel) rfl (Nat.le_of_ble_eq_true rfl) (fun X hE hml hC hR => ?_)
  subst hE
  show G X 0 0 n σ ρ 0 [(0, vr X a0)] []
  replace hC : Cx X cX11_useful RX11 6 := hC
  unfold MX11_useful at hM
  refine g_aload_n hC dX11_useful_0 rfl 0 rfl ?_
  refine fg_10_6 hC h0 k_386 dX11_useful_1 rfl hM (fun j1 hj1 hM => ?_)
  refine g_aload_n hC dX11_useful_4 rfl 0 rfl ?_
  refine fg_10_0 hC h0 k_380 dX11_useful_5 rfl hM (fun j2 hj2 hM => ?_)
  refine fg_3_0 hC hj2 k_172 dX11_useful_8 rfl hM (fun j3 hj3 hM => ?_)
  refine g_callVv0 (As := [vr X j3]) (st' := []) (k := j1) (L' := 5) hC Y_X1_gather I_X1_gather k_755 ⟨by decide, by decide⟩ hj1 (ci := 1) (by decide) rfl dX11_useful_11 rfl rfl rfl (Nat.le_of_ble_eq_true rfl) ⟨Nat.zero_le _, Nat.zero_le _⟩ hM (fun c hc => c_X1_gather (xE X) j1 hj1 j3 hj3 c hc) (fun c4 hM => ?_)
  refine g_aload_n hC dX11_useful_14 rfl 0 rfl ?_
  refine fg_10_0 hC h0 k_380 dX11_useful_15 rfl hM (fun j5 hj5 hM => ?_)
  refine fg_3_0 hC hj5 k_172 dX11_useful_18 rfl hM (fun j6 hj6 hM => ?_)
  refine fg_7_0 hC hj6 k_138 dX11_useful_21 rfl ?_
  refine g_istore_n hC (fun y7 => [(1, .int y7), (0, vr X a0)]) dX11_useful_24 rfl hM hml (by decide) (fun _ => rfl) (fun y7 hM => ?_)
  refine g_iconst (v := 0) hC dX11_useful_25 rfl ic_0 ?_
  refine g_istore_n hC (fun y8 => [(2, .int y8), (1, .int y7), (0, vr X a0)]) dX11_useful_26 rfl hM hml (by decide) (fun _ => rfl) (fun y8 hM => ?_)
  refine g_iconst (v := 0) hC dX11_useful_27 rfl ic_0 ?_
  refine g_istore_n hC (fun y9 => [(3, .int y9), (2, .int y8), (1, .int y7), (0, vr X a0)]) dX11_useful_28 rfl hM hml (by decide) (fun _ => rfl) (fun y9 hM => ?_)
  exact g_sub [3, 2, 1, 0] ((bX11_useful_29 hC hml hR a0 h0  FU) _ _ _ _ _ hM) rfl
def MX11_image (σ : Sto) (ρ : Rho) (a0 : Nat) (a1 : Int32) : Option (Int32 × Sto) :=
  if a1 < 0 then
    zr ((0 : Int32)) (some ((0 : Int32), σ))
  else
    if a1 < (3 : Int32) then
      Option.bind (ρ a0 2) fun j1 =>
      Option.bind (rg ρ j1 a1) fun j2 =>
      Option.bind (ρ a0 0) fun j3 =>
      Option.bind (MX4_copy σ ρ j2 j3) fun c4 =>
      Option.bind (ρ a0 3) fun j5 =>
      Option.bind (ap c4 j5 a1 ((1 : Int32))) fun σ6 =>
      zr ((1 : Int32)) (some ((1 : Int32), σ6))
    else
      zr ((0 : Int32)) (some ((0 : Int32), σ))
set_option maxHeartbeats 4000000 in
set_option maxRecDepth 100000 in
theorem c_X11_image (E : EX) {n : Nat} {σ : Sto} {ρ : Rho} (a0 : Nat) (h0 : Sh n a0 10) (a1 : Int32) (res : Int32 × Sto) (hM : MX11_image σ ρ a0 a1 = some res) : CTi E yX11_image cX11_image 2 (some .boolean) 3 [.ref (eb E + a0), .int a1] n σ ρ res.1 res.2 ρ := by
  refine ct_i (by decide +kernel) rfl (Nat.le_of_ble_eq_true rfl) (fun X hE hml hC hR => ?_)
  subst hE
  show G X 0 0 n σ ρ 0 [(0, vr X a0), (1, .int a1)] []
  replace hC : Cx X cX11_image RX11 3 := hC
  unfold MX11_image at hM
  refine g_iload_n hC dX11_image_0 rfl 1 rfl ?_
  refine g_if_lt (tgt := 9) hC dX11_image_1 rfl (by decide) hM (fun hM => ?_) (fun hM => ?_)
  · refine g_iconst (v := 0) hC dX11_image_9 rfl ic_0 ?_
    exact g_retz hM dX11_image_10 rfl (fun h => by cases h; exact hR)
  · refine g_iload_n hC dX11_image_4 rfl 1 rfl ?_
    refine g_iconst (v := 3) hC dX11_image_5 rfl ic_3 ?_
    refine g_icmp_lt (tgt := 11) hC dX11_image_6 rfl (by decide) hM (fun hM => ?_) (fun hM => ?_)
    · refine g_aload_n hC dX11_image_11 rfl 0 rfl ?_
      refine fg_10_2 hC h0 k_382 dX11_image_12 rfl hM (fun j1 hj1 hM => ?_)
      refine g_iload_n hC dX11_image_15 rfl 1 rfl ?_
      refine g_aald hC hj1 (by decide) rfl rfl dX11_image_16 rfl hM (fun j2 hj2 hM => ?_)
      refine g_aload_n hC dX11_image_17 rfl 0 rfl ?_
      refine fg_10_0 hC h0 k_380 dX11_image_18 rfl hM (fun j3 hj3 hM => ?_)
      refine g_callVv0 (As := [vr X j3]) (st' := []) (k := j2) (L' := 2) hC Y_X4_copy I_X4_copy k_1058 ⟨by decide, by decide⟩ hj2 (ci := 3) (by decide) rfl dX11_image_21 rfl rfl rfl (Nat.le_of_ble_eq_true rfl) ⟨Nat.zero_le _, Nat.zero_le _⟩ hM (fun c hc => c_X4_copy (xE X) j2 hj2 j3 hj3 c hc) (fun c4 hM => ?_)
      refine g_aload_n hC dX11_image_24 rfl 0 rfl ?_
      refine fg_10_3 hC h0 k_383 dX11_image_25 rfl hM (fun j5 hj5 hM => ?_)
      refine g_iload_n hC dX11_image_28 rfl 1 rfl ?_
      refine g_iconst (v := 1) hC dX11_image_29 rfl ic_1 ?_
      refine g_zast hC (by decide) hj5 dX11_image_30 rfl hM (fun σ6 hM => ?_)
      refine g_iconst (v := 1) hC dX11_image_31 rfl ic_1 ?_
      exact g_retz hM dX11_image_32 rfl (fun h => by cases h; exact hR)
    · refine g_iconst (v := 0) hC dX11_image_9 rfl ic_0 ?_
      exact g_retz hM dX11_image_10 rfl (fun h => by cases h; exact hR)
def MX11_again (σ : Sto) (ρ : Rho) (a0 : Nat) (a1 : Int32) : Option (Int32 × Sto) :=
  if a1 < 0 then
    zr ((0 : Int32)) (some ((0 : Int32), σ))
  else
    if (3 : Int32) ≤ a1 then
      zr ((0 : Int32)) (some ((0 : Int32), σ))
    else
      Option.bind (ρ a0 3) fun j1 =>
      Option.bind (ag σ j1 a1) fun x2 =>
      if x2 = 0 then
        zr ((0 : Int32)) (some ((0 : Int32), σ))
      else
        Option.bind (ρ a0 0) fun j3 =>
        Option.bind (ρ a0 2) fun j4 =>
        Option.bind (rg ρ j4 a1) fun j5 =>
        Option.bind (MX4_copy σ ρ j3 j5) fun c6 =>
        Option.bind (ρ a0 1) fun j7 =>
        Option.bind (MX5_forget c6 j7) fun c8 =>
        zr ((1 : Int32)) (some ((1 : Int32), c8))
set_option maxHeartbeats 4000000 in
set_option maxRecDepth 100000 in
theorem c_X11_again (E : EX) {n : Nat} {σ : Sto} {ρ : Rho} (a0 : Nat) (h0 : Sh n a0 10) (a1 : Int32) (res : Int32 × Sto) (hM : MX11_again σ ρ a0 a1 = some res) : CTi E yX11_again cX11_again 2 (some .boolean) 3 [.ref (eb E + a0), .int a1] n σ ρ res.1 res.2 ρ := by
  refine ct_i (by decide +kernel) rfl (Nat.le_of_ble_eq_true rfl) (fun X hE hml hC hR => ?_)
  subst hE
  show G X 0 0 n σ ρ 0 [(0, vr X a0), (1, .int a1)] []
  replace hC : Cx X cX11_again RX11 3 := hC
  unfold MX11_again at hM
  refine g_iload_n hC dX11_again_0 rfl 1 rfl ?_
  refine g_if_lt (tgt := 18) hC dX11_again_1 rfl (by decide) hM (fun hM => ?_) (fun hM => ?_)
  · refine g_iconst (v := 0) hC dX11_again_18 rfl ic_0 ?_
    exact g_retz hM dX11_again_19 rfl (fun h => by cases h; exact hR)
  · refine g_iload_n hC dX11_again_4 rfl 1 rfl ?_
    refine g_iconst (v := 3) hC dX11_again_5 rfl ic_3 ?_
    refine g_icmp_ge (tgt := 18) hC dX11_again_6 rfl (by decide) hM (fun hM => ?_) (fun hM => ?_)
    · refine g_iconst (v := 0) hC dX11_again_18 rfl ic_0 ?_
      exact g_retz hM dX11_again_19 rfl (fun h => by cases h; exact hR)
    · refine g_aload_n hC dX11_again_9 rfl 0 rfl ?_
      refine fg_10_3 hC h0 k_383 dX11_again_10 rfl hM (fun j1 hj1 hM => ?_)
      refine g_iload_n hC dX11_again_13 rfl 1 rfl ?_
      refine g_zald hC hj1 dX11_again_14 rfl hM (fun x2 hM => ?_)
      refine g_if_ne (tgt := 20) hC dX11_again_15 rfl (by decide) hM (fun hM => ?_) (fun hM => ?_)
      · refine g_aload_n hC dX11_again_20 rfl 0 rfl ?_
        refine fg_10_0 hC h0 k_380 dX11_again_21 rfl hM (fun j3 hj3 hM => ?_)
        refine g_aload_n hC dX11_again_24 rfl 0 rfl ?_
        refine fg_10_2 hC h0 k_382 dX11_again_25 rfl hM (fun j4 hj4 hM => ?_)
        refine g_iload_n hC dX11_again_28 rfl 1 rfl ?_
        refine g_aald hC hj4 (by decide) rfl rfl dX11_again_29 rfl hM (fun j5 hj5 hM => ?_)
        refine g_callVv0 (As := [vr X j5]) (st' := []) (k := j3) (L' := 2) hC Y_X4_copy I_X4_copy k_1058 ⟨by decide, by decide⟩ hj3 (ci := 3) (by decide) rfl dX11_again_30 rfl rfl rfl (Nat.le_of_ble_eq_true rfl) ⟨Nat.zero_le _, Nat.zero_le _⟩ hM (fun c hc => c_X4_copy (xE X) j3 hj3 j5 hj5 c hc) (fun c6 hM => ?_)
        refine g_aload_n hC dX11_again_33 rfl 0 rfl ?_
        refine fg_10_1 hC h0 k_381 dX11_again_34 rfl hM (fun j7 hj7 hM => ?_)
        refine g_callVv0 (As := []) (st' := []) (k := j7) (L' := 0) hC Y_X5_forget I_X5_forget k_624 ⟨by decide, by decide⟩ hj7 (ci := 4) (by decide) rfl dX11_again_37 rfl rfl rfl (Nat.le_of_ble_eq_true rfl) ⟨Nat.zero_le _, Nat.zero_le _⟩ hM (fun c hc => c_X5_forget (xE X) j7 hj7 c hc) (fun c8 hM => ?_)
        refine g_iconst (v := 1) hC dX11_again_40 rfl ic_1 ?_
        exact g_retz hM dX11_again_41 rfl (fun h => by cases h; exact hR)
      · refine g_iconst (v := 0) hC dX11_again_18 rfl ic_0 ?_
        exact g_retz hM dX11_again_19 rfl (fun h => by cases h; exact hR)
