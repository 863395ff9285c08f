def BX12_turn_14 (ρ : Rho) (a0 : Nat) (a1 : Int32) (a2 : Int32) (σ : Sto) : Option (Int32 × Sto) :=
  Option.bind (MX12_refused σ ρ a0 ((1 : Int32)) ((0 : Int32))) fun c1 =>
  some (c1.1, c1.2)
set_option maxHeartbeats 4000000 in
set_option maxRecDepth 100000 in
theorem bX12_turn_14 {X : CX} {n : Nat} {ρ : Rho} {res : Int32 × Sto} (hC : Cx X cX12_turn RX12 5) (hml : (xc X).maxLocals = 4) (hR : RtT (some .int) X cX12_turn n res.1 res.2 ρ) (a0 : Nat) (a1 : Int32) (a2 : Int32) (h0 : Sh n a0 11) : ∀ (σ : Sto), BX12_turn_14 ρ a0 a1 a2 σ = some res → G X 0 0 n σ ρ 14 [(0, vr X a0), (1, .int a1), (2, .int a2)] [] := by
  intro σ hM
  unfold BX12_turn_14 at hM
  refine g_aload_n hC dX12_turn_14 rfl 0 rfl ?_
  refine g_iconst (v := 1) hC dX12_turn_15 rfl ic_1 ?_
  refine g_iconst (v := 0) hC dX12_turn_16 rfl ic_0 ?_
  refine g_callVi (As := [.int ((1 : Int32)), .int ((0 : Int32))]) (st' := []) (k := a0) (L' := 0) hC Y_X12_refused I_X12_refused k_1150 ⟨by decide, by decide⟩ h0 (ci := 11) (by decide) rfl dX12_turn_17 rfl rfl rfl (Nat.le_of_ble_eq_true rfl) ⟨Nat.zero_le _, Nat.zero_le _⟩ hM (fun c hc => c_X12_refused (xE X) a0 h0 ((1 : Int32)) ((0 : Int32)) c hc) (fun c1 hM => ?_)
  cases hM
  exact g_reti hR dX12_turn_20 rfl
def MX12_turn (σ : Sto) (ρ : Rho) (a0 : Nat) (a1 : Int32) (a2 : Int32) : Option (Int32 × Sto) :=
  Option.bind (MX12_isConic a1) fun c1 =>
  if c1 = 0 then
    BX12_turn_14 ρ a0 a1 a2 σ
  else
    Option.bind (MX12_isConic a2) fun c2 =>
    if c2 = 0 then
      BX12_turn_14 ρ a0 a1 a2 σ
    else
      Option.bind (MX12_laysConic σ ρ a0 ((0 : Int32)) a2) fun c3 =>
      Option.bind (MX12_kindOf c3 ρ a0) fun c4 =>
      bn c4.1 fun y5 =>
      if y5 = (4 : Int32) then
        Option.bind (ρ a0 13) fun j6 =>
        Option.bind (ρ a0 11) fun j7 =>
        Option.bind (ag c4.2 j7 ((1 : Int32))) fun x8 =>
        Option.bind (ρ a0 11) fun j9 =>
        Option.bind (ag c4.2 j9 ((2 : Int32))) fun x10 =>
        Option.bind (ρ a0 11) fun j11 =>
        Option.bind (ag c4.2 j11 ((3 : Int32))) fun x12 =>
        Option.bind (ρ a0 11) fun j13 =>
        Option.bind (ag c4.2 j13 ((3 : Int32))) fun x14 =>
        Option.bind (MX12_rest c4.2 a0 (((((4 : Int32) * x8) * x10) - (x12 * x14)))) fun c15 =>
        Option.bind (ap c4.2 j6 ((0 : Int32)) c15) fun σ16 =>
        Option.bind (ρ a0 13) fun j17 =>
        Option.bind (ρ a0 11) fun j18 =>
        Option.bind (ag σ16 j18 ((0 : Int32))) fun x19 =>
        Option.bind (ρ a0 11) fun j20 =>
        Option.bind (ag σ16 j20 ((2 : Int32))) fun x21 =>
        Option.bind (ρ a0 11) fun j22 =>
        Option.bind (ag σ16 j22 ((4 : Int32))) fun x23 =>
        Option.bind (ρ a0 11) fun j24 =>
        Option.bind (ag σ16 j24 ((4 : Int32))) fun x25 =>
        Option.bind (MX12_rest σ16 a0 (((((4 : Int32) * x19) * x21) - (x23 * x25)))) fun c26 =>
        Option.bind (ap σ16 j17 ((1 : Int32)) c26) fun σ27 =>
        Option.bind (ρ a0 13) fun j28 =>
        Option.bind (ρ a0 11) fun j29 =>
        Option.bind (ag σ27 j29 ((0 : Int32))) fun x30 =>
        Option.bind (ρ a0 11) fun j31 =>
        Option.bind (ag σ27 j31 ((1 : Int32))) fun x32 =>
        Option.bind (ρ a0 11) fun j33 =>
        Option.bind (ag σ27 j33 ((5 : Int32))) fun x34 =>
        Option.bind (ρ a0 11) fun j35 =>
        Option.bind (ag σ27 j35 ((5 : Int32))) fun x36 =>
        Option.bind (MX12_rest σ27 a0 (((((4 : Int32) * x30) * x32) - (x34 * x36)))) fun c37 =>
        Option.bind (ap σ27 j28 ((2 : Int32)) c37) fun σ38 =>
        Option.bind (ρ a0 13) fun j39 =>
        Option.bind (ρ a0 11) fun j40 =>
        Option.bind (ag σ38 j40 ((4 : Int32))) fun x41 =>
        Option.bind (ρ a0 11) fun j42 =>
        Option.bind (ag σ38 j42 ((5 : Int32))) fun x43 =>
        Option.bind (ρ a0 11) fun j44 =>
        Option.bind (ag σ38 j44 ((0 : Int32))) fun x45 =>
        Option.bind (ρ a0 11) fun j46 =>
        Option.bind (ag σ38 j46 ((3 : Int32))) fun x47 =>
        Option.bind (MX12_rest σ38 a0 (((2 : Int32) * ((x41 * x43) - (((2 : Int32) * x45) * x47))))) fun c48 =>
        Option.bind (ap σ38 j39 ((3 : Int32)) c48) fun σ49 =>
        Option.bind (ρ a0 13) fun j50 =>
        Option.bind (ρ a0 11) fun j51 =>
        Option.bind (ag σ49 j51 ((3 : Int32))) fun x52 =>
        Option.bind (ρ a0 11) fun j53 =>
        Option.bind (ag σ49 j53 ((5 : Int32))) fun x54 =>
        Option.bind (ρ a0 11) fun j55 =>
        Option.bind (ag σ49 j55 ((1 : Int32))) fun x56 =>
        Option.bind (ρ a0 11) fun j57 =>
        Option.bind (ag σ49 j57 ((4 : Int32))) fun x58 =>
        Option.bind (MX12_rest σ49 a0 (((2 : Int32) * ((x52 * x54) - (((2 : Int32) * x56) * x58))))) fun c59 =>
        Option.bind (ap σ49 j50 ((4 : Int32)) c59) fun σ60 =>
        Option.bind (ρ a0 13) fun j61 =>
        Option.bind (ρ a0 11) fun j62 =>
        Option.bind (ag σ60 j62 ((3 : Int32))) fun x63 =>
        Option.bind (ρ a0 11) fun j64 =>
        Option.bind (ag σ60 j64 ((4 : Int32))) fun x65 =>
        Option.bind (ρ a0 11) fun j66 =>
        Option.bind (ag σ60 j66 ((2 : Int32))) fun x67 =>
        Option.bind (ρ a0 11) fun j68 =>
        Option.bind (ag σ60 j68 ((5 : Int32))) fun x69 =>
        Option.bind (MX12_rest σ60 a0 (((2 : Int32) * ((x63 * x65) - (((2 : Int32) * x67) * x69))))) fun c70 =>
        Option.bind (ap σ60 j61 ((5 : Int32)) c70) fun σ71 =>
        Option.bind (MX12_becomes σ71 ρ a0 a1) fun c72 =>
        some (c72.1, c72.2)
      else
        Option.bind (MX12_refused c4.2 ρ a0 ((5 : Int32)) (((6 : Int32) + y5))) fun c73 =>
        some (c73.1, c73.2)
set_option maxHeartbeats 4000000 in
set_option maxRecDepth 100000 in
theorem c_X12_turn (E : EX) {n : Nat} {σ : Sto} {ρ : Rho} (a0 : Nat) (h0 : Sh n a0 11) (a1 : Int32) (a2 : Int32) (res : Int32 × Sto) (hM : MX12_turn σ ρ a0 a1 a2 = some res) : CTi E yX12_turn cX12_turn 4 (some .int) 5 [.ref (eb E + a0), .int a1, .int a2] n σ ρ res.1 res.2 ρ := by
  refine ct_i (by decide +kernel) rfl (Nat.le_of_ble_eq_true rfl) (fun X hE hml hC hR => ?_)
  subst hE
  show G X 0 0 n σ ρ 0 [(0, vr X a0), (1, .int a1), (2, .int a2)] []
  replace hC : Cx X cX12_turn RX12 5 := hC
  unfold MX12_turn at hM
  refine g_iload_n hC dX12_turn_0 rfl 1 rfl ?_
  refine g_callSi (As := [.int a1]) (st' := []) (L' := 1) hC Y_X12_isConic k_1167 k_1166 ⟨by decide, by decide⟩ dX12_turn_1 rfl rfl rfl (Nat.le_of_ble_eq_true rfl) ⟨Nat.zero_le _, Nat.zero_le _⟩ hM (fun c hc => c_X12_isConic (xE X) a1 c hc) (fun c1 hM => ?_)
  refine g_if_eq (tgt := 14) hC dX12_turn_4 rfl (by decide) hM (fun hM => ?_) (fun hM => ?_)
  · exact g_sub [0, 1, 2] ((bX12_turn_14 hC hml hR a0 a1 a2 h0 ) _ hM) rfl
  · refine g_iload_n hC dX12_turn_7 rfl 2 rfl ?_
    refine g_callSi (As := [.int a2]) (st' := []) (L' := 1) hC Y_X12_isConic k_1167 k_1166 ⟨by decide, by decide⟩ dX12_turn_8 rfl rfl rfl (Nat.le_of_ble_eq_true rfl) ⟨Nat.zero_le _, Nat.zero_le _⟩ hM (fun c hc => c_X12_isConic (xE X) a2 c hc) (fun c2 hM => ?_)
    refine g_if_ne (tgt := 21) hC dX12_turn_11 rfl (by decide) hM (fun hM => ?_) (fun hM => ?_)
    · refine g_aload_n hC dX12_turn_21 rfl 0 rfl ?_
      refine g_iconst (v := 0) hC dX12_turn_22 rfl ic_0 ?_
      refine g_iload_n hC dX12_turn_23 rfl 2 rfl ?_
      refine g_callVv0 (As := [.int ((0 : Int32)), .int a2]) (st' := []) (k := a0) (L' := 1) hC Y_X12_laysConic I_X12_laysConic k_1199 ⟨by decide, by decide⟩ h0 (ci := 11) (by decide) rfl dX12_turn_24 rfl rfl rfl (Nat.le_of_ble_eq_true rfl) ⟨Nat.zero_le _, Nat.zero_le _⟩ hM (fun c hc => c_X12_laysConic (xE X) a0 h0 ((0 : Int32)) a2 c hc) (fun c3 hM => ?_)
      refine g_aload_n hC dX12_turn_27 rfl 0 rfl ?_
      refine g_callVi (As := []) (st' := []) (k := a0) (L' := 4) hC Y_X12_kindOf I_X12_kindOf k_1207 ⟨by decide, by decide⟩ h0 (ci := 11) (by decide) rfl dX12_turn_28 rfl rfl rfl (Nat.le_of_ble_eq_true rfl) ⟨Nat.zero_le _, Nat.zero_le _⟩ hM (fun c hc => c_X12_kindOf (xE X) a0 h0 c hc) (fun c4 hM => ?_)
      refine g_istore_n hC (fun y5 => [(3, .int y5), (0, vr X a0), (1, .int a1), (2, .int a2)]) dX12_turn_31 rfl hM hml (by decide) (fun _ => rfl) (fun y5 hM => ?_)
      refine g_iload_n hC dX12_turn_32 rfl 0 rfl ?_
      refine g_iconst (v := 4) hC dX12_turn_33 rfl ic_4 ?_
      refine g_icmp_eq (tgt := 47) hC dX12_turn_34 rfl (by decide) hM (fun hM => ?_) (fun hM => ?_)
      · refine g_aload_n hC dX12_turn_47 rfl 1 rfl ?_
        refine fg_11_13 hC h0 k_1095 dX12_turn_48 rfl hM (fun j6 hj6 hM => ?_)
        refine g_iconst (v := 0) hC dX12_turn_51 rfl ic_0 ?_
        refine g_aload_n hC dX12_turn_52 rfl 1 rfl ?_
        refine g_iconst (v := 4) hC dX12_turn_53 rfl ic_4 ?_
        refine g_aload_n hC dX12_turn_54 rfl 1 rfl ?_
        refine fg_11_11 hC h0 k_1093 dX12_turn_55 rfl hM (fun j7 hj7 hM => ?_)
        refine g_iconst (v := 1) hC dX12_turn_58 rfl ic_1 ?_
        refine g_iald hC hj7 dX12_turn_59 rfl hM (fun x8 hM => ?_)
        refine g_imul hC dX12_turn_60 rfl ?_
        refine g_aload_n hC dX12_turn_61 rfl 1 rfl ?_
        refine fg_11_11 hC h0 k_1093 dX12_turn_62 rfl hM (fun j9 hj9 hM => ?_)
        refine g_iconst (v := 2) hC dX12_turn_65 rfl ic_2 ?_
        refine g_iald hC hj9 dX12_turn_66 rfl hM (fun x10 hM => ?_)
        refine g_imul hC dX12_turn_67 rfl ?_
        refine g_aload_n hC dX12_turn_68 rfl 1 rfl ?_
        refine fg_11_11 hC h0 k_1093 dX12_turn_69 rfl hM (fun j11 hj11 hM => ?_)
        refine g_iconst (v := 3) hC dX12_turn_72 rfl ic_3 ?_
        refine g_iald hC hj11 dX12_turn_73 rfl hM (fun x12 hM => ?_)
        refine g_aload_n hC dX12_turn_74 rfl 1 rfl ?_
        refine fg_11_11 hC h0 k_1093 dX12_turn_75 rfl hM (fun j13 hj13 hM => ?_)
        refine g_iconst (v := 3) hC dX12_turn_78 rfl ic_3 ?_
        refine g_iald hC hj13 dX12_turn_79 rfl hM (fun x14 hM => ?_)
        refine g_imul hC dX12_turn_80 rfl ?_
        refine g_isub hC dX12_turn_81 rfl ?_
        refine g_callVi (As := [.int (((((4 : Int32) * x8) * x10) - (x12 * x14)))]) (st' := [.int ((0 : Int32)), vr X j6]) (k := a0) (L' := 0) hC Y_X12_rest I_X12_rest k_1203 ⟨by decide, by decide⟩ h0 (ci := 11) (by decide) rfl dX12_turn_82 rfl rfl rfl (Nat.le_of_ble_eq_true rfl) ⟨Nat.zero_le _, Nat.zero_le _⟩ hM (fun c hc => c_X12_rest (xE X) a0 h0 (((((4 : Int32) * x8) * x10) - (x12 * x14))) c hc) (fun c15 hM => ?_)
        refine g_iast hC hj6 dX12_turn_85 rfl hM (fun σ16 hM => ?_)
        refine g_aload_n hC dX12_turn_86 rfl 1 rfl ?_
        refine fg_11_13 hC h0 k_1095 dX12_turn_87 rfl hM (fun j17 hj17 hM => ?_)
        refine g_iconst (v := 1) hC dX12_turn_90 rfl ic_1 ?_
        refine g_aload_n hC dX12_turn_91 rfl 1 rfl ?_
        refine g_iconst (v := 4) hC dX12_turn_92 rfl ic_4 ?_
        refine g_aload_n hC dX12_turn_93 rfl 1 rfl ?_
        refine fg_11_11 hC h0 k_1093 dX12_turn_94 rfl hM (fun j18 hj18 hM => ?_)
        refine g_iconst (v := 0) hC dX12_turn_97 rfl ic_0 ?_
        refine g_iald hC hj18 dX12_turn_98 rfl hM (fun x19 hM => ?_)
        refine g_imul hC dX12_turn_99 rfl ?_
        refine g_aload_n hC dX12_turn_100 rfl 1 rfl ?_
        refine fg_11_11 hC h0 k_1093 dX12_turn_101 rfl hM (fun j20 hj20 hM => ?_)
        refine g_iconst (v := 2) hC dX12_turn_104 rfl ic_2 ?_
        refine g_iald hC hj20 dX12_turn_105 rfl hM (fun x21 hM => ?_)
        refine g_imul hC dX12_turn_106 rfl ?_
        refine g_aload_n hC dX12_turn_107 rfl 1 rfl ?_
        refine fg_11_11 hC h0 k_1093 dX12_turn_108 rfl hM (fun j22 hj22 hM => ?_)
        refine g_iconst (v := 4) hC dX12_turn_111 rfl ic_4 ?_
        refine g_iald hC hj22 dX12_turn_112 rfl hM (fun x23 hM => ?_)
        refine g_aload_n hC dX12_turn_113 rfl 1 rfl ?_
        refine fg_11_11 hC h0 k_1093 dX12_turn_114 rfl hM (fun j24 hj24 hM => ?_)
        refine g_iconst (v := 4) hC dX12_turn_117 rfl ic_4 ?_
        refine g_iald hC hj24 dX12_turn_118 rfl hM (fun x25 hM => ?_)
        refine g_imul hC dX12_turn_119 rfl ?_
        refine g_isub hC dX12_turn_120 rfl ?_
        refine g_callVi (As := [.int (((((4 : Int32) * x19) * x21) - (x23 * x25)))]) (st' := [.int ((1 : Int32)), vr X j17]) (k := a0) (L' := 0) hC Y_X12_rest I_X12_rest k_1203 ⟨by decide, by decide⟩ h0 (ci := 11) (by decide) rfl dX12_turn_121 rfl rfl rfl (Nat.le_of_ble_eq_true rfl) ⟨Nat.zero_le _, Nat.zero_le _⟩ hM (fun c hc => c_X12_rest (xE X) a0 h0 (((((4 : Int32) * x19) * x21) - (x23 * x25))) c hc) (fun c26 hM => ?_)
        refine g_iast hC hj17 dX12_turn_124 rfl hM (fun σ27 hM => ?_)
        refine g_aload_n hC dX12_turn_125 rfl 1 rfl ?_
        refine fg_11_13 hC h0 k_1095 dX12_turn_126 rfl hM (fun j28 hj28 hM => ?_)
        refine g_iconst (v := 2) hC dX12_turn_129 rfl ic_2 ?_
        refine g_aload_n hC dX12_turn_130 rfl 1 rfl ?_
        refine g_iconst (v := 4) hC dX12_turn_131 rfl ic_4 ?_
        refine g_aload_n hC dX12_turn_132 rfl 1 rfl ?_
        refine fg_11_11 hC h0 k_1093 dX12_turn_133 rfl hM (fun j29 hj29 hM => ?_)
        refine g_iconst (v := 0) hC dX12_turn_136 rfl ic_0 ?_
        refine g_iald hC hj29 dX12_turn_137 rfl hM (fun x30 hM => ?_)
        refine g_imul hC dX12_turn_138 rfl ?_
        refine g_aload_n hC dX12_turn_139 rfl 1 rfl ?_
        refine fg_11_11 hC h0 k_1093 dX12_turn_140 rfl hM (fun j31 hj31 hM => ?_)
        refine g_iconst (v := 1) hC dX12_turn_143 rfl ic_1 ?_
        refine g_iald hC hj31 dX12_turn_144 rfl hM (fun x32 hM => ?_)
        refine g_imul hC dX12_turn_145 rfl ?_
        refine g_aload_n hC dX12_turn_146 rfl 1 rfl ?_
        refine fg_11_11 hC h0 k_1093 dX12_turn_147 rfl hM (fun j33 hj33 hM => ?_)
        refine g_iconst (v := 5) hC dX12_turn_150 rfl ic_5 ?_
        refine g_iald hC hj33 dX12_turn_151 rfl hM (fun x34 hM => ?_)
        refine g_aload_n hC dX12_turn_152 rfl 1 rfl ?_
        refine fg_11_11 hC h0 k_1093 dX12_turn_153 rfl hM (fun j35 hj35 hM => ?_)
        refine g_iconst (v := 5) hC dX12_turn_156 rfl ic_5 ?_
        refine g_iald hC hj35 dX12_turn_157 rfl hM (fun x36 hM => ?_)
        refine g_imul hC dX12_turn_158 rfl ?_
        refine g_isub hC dX12_turn_159 rfl ?_
        refine g_callVi (As := [.int (((((4 : Int32) * x30) * x32) - (x34 * x36)))]) (st' := [.int ((2 : Int32)), vr X j28]) (k := a0) (L' := 0) hC Y_X12_rest I_X12_rest k_1203 ⟨by decide, by decide⟩ h0 (ci := 11) (by decide) rfl dX12_turn_160 rfl rfl rfl (Nat.le_of_ble_eq_true rfl) ⟨Nat.zero_le _, Nat.zero_le _⟩ hM (fun c hc => c_X12_rest (xE X) a0 h0 (((((4 : Int32) * x30) * x32) - (x34 * x36))) c hc) (fun c37 hM => ?_)
        refine g_iast hC hj28 dX12_turn_163 rfl hM (fun σ38 hM => ?_)
        refine g_aload_n hC dX12_turn_164 rfl 1 rfl ?_
        refine fg_11_13 hC h0 k_1095 dX12_turn_165 rfl hM (fun j39 hj39 hM => ?_)
        refine g_iconst (v := 3) hC dX12_turn_168 rfl ic_3 ?_
        refine g_aload_n hC dX12_turn_169 rfl 1 rfl ?_
        refine g_iconst (v := 2) hC dX12_turn_170 rfl ic_2 ?_
        refine g_aload_n hC dX12_turn_171 rfl 1 rfl ?_
        refine fg_11_11 hC h0 k_1093 dX12_turn_172 rfl hM (fun j40 hj40 hM => ?_)
        refine g_iconst (v := 4) hC dX12_turn_175 rfl ic_4 ?_
        refine g_iald hC hj40 dX12_turn_176 rfl hM (fun x41 hM => ?_)
        refine g_aload_n hC dX12_turn_177 rfl 1 rfl ?_
        refine fg_11_11 hC h0 k_1093 dX12_turn_178 rfl hM (fun j42 hj42 hM => ?_)
        refine g_iconst (v := 5) hC dX12_turn_181 rfl ic_5 ?_
        refine g_iald hC hj42 dX12_turn_182 rfl hM (fun x43 hM => ?_)
        refine g_imul hC dX12_turn_183 rfl ?_
        refine g_iconst (v := 2) hC dX12_turn_184 rfl ic_2 ?_
        refine g_aload_n hC dX12_turn_185 rfl 1 rfl ?_
        refine fg_11_11 hC h0 k_1093 dX12_turn_186 rfl hM (fun j44 hj44 hM => ?_)
        refine g_iconst (v := 0) hC dX12_turn_189 rfl ic_0 ?_
        refine g_iald hC hj44 dX12_turn_190 rfl hM (fun x45 hM => ?_)
        refine g_imul hC dX12_turn_191 rfl ?_
        refine g_aload_n hC dX12_turn_192 rfl 1 rfl ?_
        refine fg_11_11 hC h0 k_1093 dX12_turn_193 rfl hM (fun j46 hj46 hM => ?_)
        refine g_iconst (v := 3) hC dX12_turn_196 rfl ic_3 ?_
        refine g_iald hC hj46 dX12_turn_197 rfl hM (fun x47 hM => ?_)
        refine g_imul hC dX12_turn_198 rfl ?_
        refine g_isub hC dX12_turn_199 rfl ?_
        refine g_imul hC dX12_turn_200 rfl ?_
        refine g_callVi (As := [.int (((2 : Int32) * ((x41 * x43) - (((2 : Int32) * x45) * x47))))]) (st' := [.int ((3 : Int32)), vr X j39]) (k := a0) (L' := 0) hC Y_X12_rest I_X12_rest k_1203 ⟨by decide, by decide⟩ h0 (ci := 11) (by decide) rfl dX12_turn_201 rfl rfl rfl (Nat.le_of_ble_eq_true rfl) ⟨Nat.zero_le _, Nat.zero_le _⟩ hM (fun c hc => c_X12_rest (xE X) a0 h0 (((2 : Int32) * ((x41 * x43) - (((2 : Int32) * x45) * x47)))) c hc) (fun c48 hM => ?_)
        refine g_iast hC hj39 dX12_turn_204 rfl hM (fun σ49 hM => ?_)
        refine g_aload_n hC dX12_turn_205 rfl 1 rfl ?_
        refine fg_11_13 hC h0 k_1095 dX12_turn_206 rfl hM (fun j50 hj50 hM => ?_)
        refine g_iconst (v := 4) hC dX12_turn_209 rfl ic_4 ?_
        refine g_aload_n hC dX12_turn_210 rfl 1 rfl ?_
        refine g_iconst (v := 2) hC dX12_turn_211 rfl ic_2 ?_
        refine g_aload_n hC dX12_turn_212 rfl 1 rfl ?_
        refine fg_11_11 hC h0 k_1093 dX12_turn_213 rfl hM (fun j51 hj51 hM => ?_)
        refine g_iconst (v := 3) hC dX12_turn_216 rfl ic_3 ?_
        refine g_iald hC hj51 dX12_turn_217 rfl hM (fun x52 hM => ?_)
        refine g_aload_n hC dX12_turn_218 rfl 1 rfl ?_
        refine fg_11_11 hC h0 k_1093 dX12_turn_219 rfl hM (fun j53 hj53 hM => ?_)
        refine g_iconst (v := 5) hC dX12_turn_222 rfl ic_5 ?_
        refine g_iald hC hj53 dX12_turn_223 rfl hM (fun x54 hM => ?_)
        refine g_imul hC dX12_turn_224 rfl ?_
        refine g_iconst (v := 2) hC dX12_turn_225 rfl ic_2 ?_
        refine g_aload_n hC dX12_turn_226 rfl 1 rfl ?_
        refine fg_11_11 hC h0 k_1093 dX12_turn_227 rfl hM (fun j55 hj55 hM => ?_)
        refine g_iconst (v := 1) hC dX12_turn_230 rfl ic_1 ?_
        refine g_iald hC hj55 dX12_turn_231 rfl hM (fun x56 hM => ?_)
        refine g_imul hC dX12_turn_232 rfl ?_
        refine g_aload_n hC dX12_turn_233 rfl 1 rfl ?_
        refine fg_11_11 hC h0 k_1093 dX12_turn_234 rfl hM (fun j57 hj57 hM => ?_)
        refine g_iconst (v := 4) hC dX12_turn_237 rfl ic_4 ?_
        refine g_iald hC hj57 dX12_turn_238 rfl hM (fun x58 hM => ?_)
        refine g_imul hC dX12_turn_239 rfl ?_
        refine g_isub hC dX12_turn_240 rfl ?_
        refine g_imul hC dX12_turn_241 rfl ?_
        refine g_callVi (As := [.int (((2 : Int32) * ((x52 * x54) - (((2 : Int32) * x56) * x58))))]) (st' := [.int ((4 : Int32)), vr X j50]) (k := a0) (L' := 0) hC Y_X12_rest I_X12_rest k_1203 ⟨by decide, by decide⟩ h0 (ci := 11) (by decide) rfl dX12_turn_242 rfl rfl rfl (Nat.le_of_ble_eq_true rfl) ⟨Nat.zero_le _, Nat.zero_le _⟩ hM (fun c hc => c_X12_rest (xE X) a0 h0 (((2 : Int32) * ((x52 * x54) - (((2 : Int32) * x56) * x58)))) c hc) (fun c59 hM => ?_)
        refine g_iast hC hj50 dX12_turn_245 rfl hM (fun σ60 hM => ?_)
        refine g_aload_n hC dX12_turn_246 rfl 1 rfl ?_
        refine fg_11_13 hC h0 k_1095 dX12_turn_247 rfl hM (fun j61 hj61 hM => ?_)
        refine g_iconst (v := 5) hC dX12_turn_250 rfl ic_5 ?_
        refine g_aload_n hC dX12_turn_251 rfl 1 rfl ?_
        refine g_iconst (v := 2) hC dX12_turn_252 rfl ic_2 ?_
        refine g_aload_n hC dX12_turn_253 rfl 1 rfl ?_
        refine fg_11_11 hC h0 k_1093 dX12_turn_254 rfl hM (fun j62 hj62 hM => ?_)
        refine g_iconst (v := 3) hC dX12_turn_257 rfl ic_3 ?_
        refine g_iald hC hj62 dX12_turn_258 rfl hM (fun x63 hM => ?_)
        refine g_aload_n hC dX12_turn_259 rfl 1 rfl ?_
        refine fg_11_11 hC h0 k_1093 dX12_turn_260 rfl hM (fun j64 hj64 hM => ?_)
        refine g_iconst (v := 4) hC dX12_turn_263 rfl ic_4 ?_
        refine g_iald hC hj64 dX12_turn_264 rfl hM (fun x65 hM => ?_)
        refine g_imul hC dX12_turn_265 rfl ?_
        refine g_iconst (v := 2) hC dX12_turn_266 rfl ic_2 ?_
        refine g_aload_n hC dX12_turn_267 rfl 1 rfl ?_
        refine fg_11_11 hC h0 k_1093 dX12_turn_268 rfl hM (fun j66 hj66 hM => ?_)
        refine g_iconst (v := 2) hC dX12_turn_271 rfl ic_2 ?_
        refine g_iald hC hj66 dX12_turn_272 rfl hM (fun x67 hM => ?_)
        refine g_imul hC dX12_turn_273 rfl ?_
        refine g_aload_n hC dX12_turn_274 rfl 1 rfl ?_
        refine fg_11_11 hC h0 k_1093 dX12_turn_275 rfl hM (fun j68 hj68 hM => ?_)
        refine g_iconst (v := 5) hC dX12_turn_278 rfl ic_5 ?_
        refine g_iald hC hj68 dX12_turn_279 rfl hM (fun x69 hM => ?_)
        refine g_imul hC dX12_turn_280 rfl ?_
        refine g_isub hC dX12_turn_281 rfl ?_
        refine g_imul hC dX12_turn_282 rfl ?_
        refine g_callVi (As := [.int (((2 : Int32) * ((x63 * x65) - (((2 : Int32) * x67) * x69))))]) (st' := [.int ((5 : Int32)), vr X j61]) (k := a0) (L' := 0) hC Y_X12_rest I_X12_rest k_1203 ⟨by decide, by decide⟩ h0 (ci := 11) (by decide) rfl dX12_turn_283 rfl rfl rfl (Nat.le_of_ble_eq_true rfl) ⟨Nat.zero_le _, Nat.zero_le _⟩ hM (fun c hc => c_X12_rest (xE X) a0 h0 (((2 : Int32) * ((x63 * x65) - (((2 : Int32) * x67) * x69)))) c hc) (fun c70 hM => ?_)
        refine g_iast hC hj61 dX12_turn_286 rfl hM (fun σ71 hM => ?_)
        refine g_aload_n hC dX12_turn_287 rfl 1 rfl ?_
        refine g_iload_n hC dX12_turn_288 rfl 2 rfl ?_
        refine g_callVi (As := [.int a1]) (st' := []) (k := a0) (L' := 3) hC Y_X12_becomes I_X12_becomes k_1179 ⟨by decide, by decide⟩ h0 (ci := 11) (by decide) rfl dX12_turn_289 rfl rfl rfl (Nat.le_of_ble_eq_true rfl) ⟨Nat.zero_le _, Nat.zero_le _⟩ hM (fun c hc => c_X12_becomes (xE X) a0 h0 a1 c hc) (fun c72 hM => ?_)
        cases hM
        exact g_reti hR dX12_turn_292 rfl
      · refine g_aload_n hC dX12_turn_37 rfl 1 rfl ?_
        refine g_iconst (v := 5) hC dX12_turn_38 rfl ic_5 ?_
        refine g_bipush (v := 6) hC dX12_turn_39 rfl ib_6 ?_
        refine g_iload_n hC dX12_turn_41 rfl 0 rfl ?_
        refine g_iadd hC dX12_turn_42 rfl ?_
        refine g_callVi (As := [.int ((5 : Int32)), .int (((6 : Int32) + y5))]) (st' := []) (k := a0) (L' := 0) hC Y_X12_refused I_X12_refused k_1150 ⟨by decide, by decide⟩ h0 (ci := 11) (by decide) rfl dX12_turn_43 rfl rfl rfl (Nat.le_of_ble_eq_true rfl) ⟨Nat.zero_le _, Nat.zero_le _⟩ hM (fun c hc => c_X12_refused (xE X) a0 h0 ((5 : Int32)) (((6 : Int32) + y5)) c hc) (fun c73 hM => ?_)
        cases hM
        exact g_reti hR dX12_turn_46 rfl
    · exact g_sub [0, 1, 2] ((bX12_turn_14 hC hml hR a0 a1 a2 h0 ) _ hM) rfl
def BX12_twist_16 (ρ : Rho) (a0 : Nat) (a1 : Int32) (a2 : Int32) (σ : Sto) : Option (Int32 × Sto) :=
  Option.bind (MX12_refused σ ρ a0 ((1 : Int32)) ((0 : Int32))) fun c1 =>
  some (c1.1, c1.2)
set_option maxHeartbeats 4000000 in
set_option maxRecDepth 100000 in
theorem bX12_twist_16 {X : CX} {n : Nat} {ρ : Rho} {res : Int32 × Sto} (hC : Cx X cX12_twist RX12 4) (hml : (xc X).maxLocals = 6) (hR : RtT (some .int) X cX12_twist n res.1 res.2 ρ) (a0 : Nat) (a1 : Int32) (a2 : Int32) (h0 : Sh n a0 11) : ∀ (σ : Sto), BX12_twist_16 ρ a0 a1 a2 σ = some res → G X 0 0 n σ ρ 16 [(0, vr X a0), (1, .int a1), (2, .int a2)] [] := by
  intro σ hM
  unfold BX12_twist_16 at hM
  refine g_aload_n hC dX12_twist_16 rfl 0 rfl ?_
  refine g_iconst (v := 1) hC dX12_twist_17 rfl ic_1 ?_
  refine g_iconst (v := 0) hC dX12_twist_18 rfl ic_0 ?_
  refine g_callVi (As := [.int ((1 : Int32)), .int ((0 : Int32))]) (st' := []) (k := a0) (L' := 0) hC Y_X12_refused I_X12_refused k_1150 ⟨by decide, by decide⟩ h0 (ci := 11) (by decide) rfl dX12_twist_19 rfl rfl rfl (Nat.le_of_ble_eq_true rfl) ⟨Nat.zero_le _, Nat.zero_le _⟩ hM (fun c hc => c_X12_refused (xE X) a0 h0 ((1 : Int32)) ((0 : Int32)) c hc) (fun c1 hM => ?_)
  cases hM
  exact g_reti hR dX12_twist_22 rfl
def BX12_twist_258 (ρ : Rho) (a0 : Nat) (a1 : Int32) (a2 : Int32) (rec : Sto → Int32 → Int32 → Int32 → Option (Int32 × Sto)) (k266 : Sto → Int32 → Option (Int32 × Sto)) (σ : Sto) (v3 : Int32) (v5 : Int32) (t0 : Int32) : Option (Int32 × Sto) :=
  bn t0 fun y1 =>
  bn (v5 + (1 : Int32)) fun y2 =>
  rec σ v3 y1 y2
set_option maxHeartbeats 4000000 in
set_option maxRecDepth 100000 in
theorem bX12_twist_258 {X : CX} {n : Nat} {ρ : Rho} {res : Int32 × Sto} (hC : Cx X cX12_twist RX12 4) (hml : (xc X).maxLocals = 6) (hR : RtT (some .int) X cX12_twist n res.1 res.2 ρ) (a0 : Nat) (a1 : Int32) (a2 : Int32) (h0 : Sh n a0 11) (rec : Sto → Int32 → Int32 → Int32 → Option (Int32 × Sto)) (ih : ∀ (σ : Sto) (v3 : Int32) (v4 : Int32) (v5 : Int32), rec σ v3 v4 v5 = some res → G X 0 0 n σ ρ 222 [(0, vr X a0), (1, .int a1), (2, .int a2), (3, .int v3), (4, .int v4), (5, .int v5)] []) (k266 : Sto → Int32 → Option (Int32 × Sto)) (hk266 : ∀ (σ : Sto) (v4 : Int32), k266 σ v4 = some res → G X 0 0 n σ ρ 266 [(0, vr X a0), (1, .int a1), (2, .int a2), (4, .int v4)] []) : ∀ (σ : Sto) (v3 : Int32) (v5 : Int32) (t0 : Int32), BX12_twist_258 ρ a0 a1 a2 rec k266 σ v3 v5 t0 = some res → G X 0 0 n σ ρ 258 [(0, vr X a0), (1, .int a1), (2, .int a2), (3, .int v3), (5, .int v5)] [.int t0] := by
  intro σ v3 v5 t0 hM
  unfold BX12_twist_258 at hM
  refine g_istore hC (fun y1 => [(4, .int y1), (0, vr X a0), (1, .int a1), (2, .int a2), (3, .int v3), (5, .int v5)]) dX12_twist_258 rfl hM hml (by decide) (fun _ => rfl) (fun y1 hM => ?_)
  refine g_iinc (v := 1) hC (fun y2 => [(5, .int y2), (4, .int y1), (0, vr X a0), (1, .int a1), (2, .int a2), (3, .int v3)]) dX12_twist_260 rfl hM (j := 5) rfl ic_1 hml (by decide) (fun _ => rfl) (fun y2 hM => ?_)
  refine g_goto (tgt := 222) hC dX12_twist_263 rfl (by decide) ?_
  exact g_sub [2, 3, 4, 5, 1, 0] (ih _ _ _ _ hM) rfl
def BX12_twist_257 (ρ : Rho) (a0 : Nat) (a1 : Int32) (a2 : Int32) (rec : Sto → Int32 → Int32 → Int32 → Option (Int32 × Sto)) (k266 : Sto → Int32 → Option (Int32 × Sto)) (σ : Sto) (v3 : Int32) (v5 : Int32) : Option (Int32 × Sto) :=
  BX12_twist_258 ρ a0 a1 a2 rec k266 σ v3 v5 ((0 : Int32))
set_option maxHeartbeats 4000000 in
set_option maxRecDepth 100000 in
theorem bX12_twist_257 {X : CX} {n : Nat} {ρ : Rho} {res : Int32 × Sto} (hC : Cx X cX12_twist RX12 4) (hml : (xc X).maxLocals = 6) (hR : RtT (some .int) X cX12_twist n res.1 res.2 ρ) (a0 : Nat) (a1 : Int32) (a2 : Int32) (h0 : Sh n a0 11) (rec : Sto → Int32 → Int32 → Int32 → Option (Int32 × Sto)) (ih : ∀ (σ : Sto) (v3 : Int32) (v4 : Int32) (v5 : Int32), rec σ v3 v4 v5 = some res → G X 0 0 n σ ρ 222 [(0, vr X a0), (1, .int a1), (2, .int a2), (3, .int v3), (4, .int v4), (5, .int v5)] []) (k266 : Sto → Int32 → Option (Int32 × Sto)) (hk266 : ∀ (σ : Sto) (v4 : Int32), k266 σ v4 = some res → G X 0 0 n σ ρ 266 [(0, vr X a0), (1, .int a1), (2, .int a2), (4, .int v4)] []) : ∀ (σ : Sto) (v3 : Int32) (v5 : Int32), BX12_twist_257 ρ a0 a1 a2 rec k266 σ v3 v5 = some res → G X 0 0 n σ ρ 257 [(0, vr X a0), (1, .int a1), (2, .int a2), (3, .int v3), (5, .int v5)] [] := by
  intro σ v3 v5 hM
  unfold BX12_twist_257 at hM
  refine g_iconst (v := 0) hC dX12_twist_257 rfl ic_0 ?_
  exact g_sub [0, 1, 2, 3, 4] ((bX12_twist_258 hC hml hR a0 a1 a2 h0 rec ih k266 hk266) _ _ _ _ hM) rfl
def BX12_twist_266 (ρ : Rho) (a0 : Nat) (a1 : Int32) (a2 : Int32) (σ : Sto) (v4 : Int32) : Option (Int32 × Sto) :=
  if v4 = 0 then
    Option.bind (MX12_becomes σ ρ a0 a1) fun c1 =>
    some (c1.1, c1.2)
  else
    Option.bind (MX12_refused σ ρ a0 ((2 : Int32)) ((0 : Int32))) fun c2 =>
    some (c2.1, c2.2)
set_option maxHeartbeats 4000000 in
set_option maxRecDepth 100000 in
theorem bX12_twist_266 {X : CX} {n : Nat} {ρ : Rho} {res : Int32 × Sto} (hC : Cx X cX12_twist RX12 4) (hml : (xc X).maxLocals = 6) (hR : RtT (some .int) X cX12_twist n res.1 res.2 ρ) (a0 : Nat) (a1 : Int32) (a2 : Int32) (h0 : Sh n a0 11) : ∀ (σ : Sto) (v4 : Int32), BX12_twist_266 ρ a0 a1 a2 σ v4 = some res → G X 0 0 n σ ρ 266 [(0, vr X a0), (1, .int a1), (2, .int a2), (4, .int v4)] [] := by
  intro σ v4 hM
  unfold BX12_twist_266 at hM
  refine g_iload hC dX12_twist_266 rfl 3 rfl ?_
  refine g_if_eq (tgt := 280) hC dX12_twist_268 rfl (by decide) hM (fun hM => ?_) (fun hM => ?_)
  · refine g_aload_n hC dX12_twist_280 rfl 0 rfl ?_
    refine g_iload_n hC dX12_twist_281 rfl 1 rfl ?_
    refine g_callVi (As := [.int a1]) (st' := []) (k := a0) (L' := 3) hC Y_X12_becomes I_X12_becomes k_1179 ⟨by decide, by decide⟩ h0 (ci := 11) (by decide) rfl dX12_twist_282 rfl rfl rfl (Nat.le_of_ble_eq_true rfl) ⟨Nat.zero_le _, Nat.zero_le _⟩ hM (fun c hc => c_X12_becomes (xE X) a0 h0 a1 c hc) (fun c1 hM => ?_)
    cases hM
    exact g_reti hR dX12_twist_285 rfl
  · refine g_aload_n hC dX12_twist_271 rfl 0 rfl ?_
    refine g_iconst (v := 2) hC dX12_twist_272 rfl ic_2 ?_
    refine g_iconst (v := 0) hC dX12_twist_273 rfl ic_0 ?_
    refine g_callVi (As := [.int ((2 : Int32)), .int ((0 : Int32))]) (st' := []) (k := a0) (L' := 0) hC Y_X12_refused I_X12_refused k_1150 ⟨by decide, by decide⟩ h0 (ci := 11) (by decide) rfl dX12_twist_274 rfl rfl rfl (Nat.le_of_ble_eq_true rfl) ⟨Nat.zero_le _, Nat.zero_le _⟩ hM (fun c hc => c_X12_refused (xE X) a0 h0 ((2 : Int32)) ((0 : Int32)) c hc) (fun c2 hM => ?_)
    refine g_goto (tgt := 285) hC dX12_twist_277 rfl (by decide) ?_
    cases hM
    exact g_reti hR dX12_twist_285 rfl
def FX12_twist_222 (ρ : Rho) (a0 : Nat) (a1 : Int32) (a2 : Int32) (k266 : Sto → Int32 → Option (Int32 × Sto)) (rec : Sto → Int32 → Int32 → Int32 → Option (Int32 × Sto)) (σ : Sto) (v3 : Int32) (v4 : Int32) (v5 : Int32) : Option (Int32 × Sto) :=
  if (6 : Int32) ≤ v5 then
    k266 σ v4
  else
    if v4 = 0 then
      BX12_twist_257 ρ a0 a1 a2 rec k266 σ v3 v5
    else
      Option.bind (ρ a0 13) fun j1 =>
      Option.bind (ag σ j1 v5) fun x2 =>
      Option.bind (ρ a0 0) fun j3 =>
      Option.bind (ag σ j3 ((v3 + v5))) fun x4 =>
      if x2 = x4 then
        BX12_twist_258 ρ a0 a1 a2 rec k266 σ v3 v5 ((1 : Int32))
      else
        BX12_twist_257 ρ a0 a1 a2 rec k266 σ v3 v5
set_option maxHeartbeats 4000000 in
set_option maxRecDepth 100000 in
theorem bX12_twist_222 {X : CX} {n : Nat} {ρ : Rho} {res : Int32 × Sto} (hC : Cx X cX12_twist RX12 4) (hml : (xc X).maxLocals = 6) (hR : RtT (some .int) X cX12_twist n res.1 res.2 ρ) (a0 : Nat) (a1 : Int32) (a2 : Int32) (h0 : Sh n a0 11) (k266 : Sto → Int32 → Option (Int32 × Sto)) (hk266 : ∀ (σ : Sto) (v4 : Int32), k266 σ v4 = some res → G X 0 0 n σ ρ 266 [(0, vr X a0), (1, .int a1), (2, .int a2), (4, .int v4)] []) (fu : Nat) : ∀ (σ : Sto) (v3 : Int32) (v4 : Int32) (v5 : Int32), fixN (fun _ _ _ _ => none) (FX12_twist_222 ρ a0 a1 a2 k266) fu σ v3 v4 v5 = some res → G X 0 0 n σ ρ 222 [(0, vr X a0), (1, .int a1), (2, .int a2), (3, .int v3), (4, .int v4), (5, .int v5)] [] := by
  refine fixN_ind (P := fun (f : Sto → Int32 → Int32 → Int32 → Option (Int32 × Sto)) => ∀ (σ : Sto) (v3 : Int32) (v4 : Int32) (v5 : Int32), f σ v3 v4 v5 = some res → G X 0 0 n σ ρ 222 [(0, vr X a0), (1, .int a1), (2, .int a2), (3, .int v3), (4, .int v4), (5, .int v5)] []) ?_ ?_ fu
  · intro σ v3 v4 v5 hM; cases hM
  · intro rec ih σ v3 v4 v5 hM
    unfold FX12_twist_222 at hM
    refine g_iload hC dX12_twist_222 rfl 5 rfl ?_
    refine g_bipush (v := 6) hC dX12_twist_224 rfl ib_6 ?_
    refine g_icmp_ge (tgt := 266) hC dX12_twist_226 rfl (by decide) hM (fun hM => ?_) (fun hM => ?_)
    · exact g_sub [0, 1, 2, 4] (hk266 _ _ hM) rfl
    · refine g_iload hC dX12_twist_229 rfl 4 rfl ?_
      refine g_if_eq (tgt := 257) hC dX12_twist_231 rfl (by decide) hM (fun hM => ?_) (fun hM => ?_)
      · exact g_sub [0, 1, 2, 3, 5] ((bX12_twist_257 hC hml hR a0 a1 a2 h0 rec ih k266 hk266) _ _ _ hM) rfl
      · refine g_aload_n hC dX12_twist_234 rfl 0 rfl ?_
        refine fg_11_13 hC h0 k_1095 dX12_twist_235 rfl hM (fun j1 hj1 hM => ?_)
        refine g_iload hC dX12_twist_238 rfl 5 rfl ?_
        refine g_iald hC hj1 dX12_twist_240 rfl hM (fun x2 hM => ?_)
        refine g_aload_n hC dX12_twist_241 rfl 0 rfl ?_
        refine fg_11_0 hC h0 k_1082 dX12_twist_242 rfl hM (fun j3 hj3 hM => ?_)
        refine g_iload_n hC dX12_twist_245 rfl 3 rfl ?_
        refine g_iload hC dX12_twist_246 rfl 5 rfl ?_
        refine g_iadd hC dX12_twist_248 rfl ?_
        refine g_iald hC hj3 dX12_twist_249 rfl hM (fun x4 hM => ?_)
        refine g_icmp_ne (tgt := 257) hC dX12_twist_250 rfl (by decide) hM (fun hM => ?_) (fun hM => ?_)
        · exact g_sub [0, 1, 2, 3, 5] ((bX12_twist_257 hC hml hR a0 a1 a2 h0 rec ih k266 hk266) _ _ _ hM) rfl
        · refine g_iconst (v := 1) hC dX12_twist_253 rfl ic_1 ?_
          refine g_goto (tgt := 258) hC dX12_twist_254 rfl (by decide) ?_
          exact g_sub [0, 1, 2, 3, 5] ((bX12_twist_258 hC hml hR a0 a1 a2 h0 rec ih k266 hk266) _ _ _ _ hM) rfl
def BX12_twist_216 (ρ : Rho) (a0 : Nat) (a1 : Int32) (a2 : Int32) (σ : Sto) (v3 : Int32) : Option (Int32 × Sto) :=
  bn ((1 : Int32)) fun y1 =>
  bn ((0 : Int32)) fun y2 =>
  fixN (fun _ _ _ _ => none) (FX12_twist_222 ρ a0 a1 a2 (BX12_twist_266 ρ a0 a1 a2)) FU σ v3 y1 y2
set_option maxHeartbeats 4000000 in
set_option maxRecDepth 100000 in
theorem bX12_twist_216 {X : CX} {n : Nat} {ρ : Rho} {res : Int32 × Sto} (hC : Cx X cX12_twist RX12 4) (hml : (xc X).maxLocals = 6) (hR : RtT (some .int) X cX12_twist n res.1 res.2 ρ) (a0 : Nat) (a1 : Int32) (a2 : Int32) (h0 : Sh n a0 11) : ∀ (σ : Sto) (v3 : Int32), BX12_twist_216 ρ a0 a1 a2 σ v3 = some res → G X 0 0 n σ ρ 216 [(0, vr X a0), (1, .int a1), (2, .int a2), (3, .int v3)] [] := by
  intro σ v3 hM
  unfold BX12_twist_216 at hM
  refine g_iconst (v := 1) hC dX12_twist_216 rfl ic_1 ?_
  refine g_istore hC (fun y1 => [(4, .int y1), (0, vr X a0), (1, .int a1), (2, .int a2), (3, .int v3)]) dX12_twist_217 rfl hM hml (by decide) (fun _ => rfl) (fun y1 hM => ?_)
  refine g_iconst (v := 0) hC dX12_twist_219 rfl ic_0 ?_
  refine g_istore hC (fun y2 => [(5, .int y2), (4, .int y1), (0, vr X a0), (1, .int a1), (2, .int a2), (3, .int v3)]) dX12_twist_220 rfl hM hml (by decide) (fun _ => rfl) (fun y2 hM => ?_)
  exact g_sub [2, 3, 4, 5, 1, 0] ((bX12_twist_222 hC hml hR a0 a1 a2 h0 (BX12_twist_266 ρ a0 a1 a2) (bX12_twist_266 hC hml hR a0 a1 a2 h0 ) FU) _ _ _ _ hM) rfl
def MX12_twist (σ : Sto) (ρ : Rho) (a0 : Nat) (a1 : Int32) (a2 : Int32) : Option (Int32 × Sto) :=
  Option.bind (MX12_isConic a1) fun c1 =>
  if c1 = 0 then
    BX12_twist_16 ρ a0 a1 a2 σ
  else
    Option.bind (MX12_isIn a2 ((0 : Int32)) ((2 : Int32))) fun c2 =>
    if c2 = 0 then
      BX12_twist_16 ρ a0 a1 a2 σ
    else
      Option.bind (MX12_laysIts σ ρ a0 a1) fun c3 =>
      bn (((6 : Int32) * a1)) fun y4 =>
      if a2 = 0 then
        Option.bind (ρ a0 13) fun j38 =>
        Option.bind (ρ a0 0) fun j39 =>
        Option.bind (ag c3 j39 ((y4 + (1 : Int32)))) fun x40 =>
        Option.bind (ap c3 j38 ((0 : Int32)) x40) fun σ41 =>
        Option.bind (ρ a0 13) fun j42 =>
        Option.bind (ρ a0 0) fun j43 =>
        Option.bind (ag σ41 j43 y4) fun x44 =>
        Option.bind (ap σ41 j42 ((1 : Int32)) x44) fun σ45 =>
        Option.bind (ρ a0 13) fun j46 =>
        Option.bind (ρ a0 0) fun j47 =>
        Option.bind (ag σ45 j47 ((y4 + (4 : Int32)))) fun x48 =>
        Option.bind (ap σ45 j46 ((3 : Int32)) x48) fun σ49 =>
        Option.bind (ρ a0 13) fun j50 =>
        Option.bind (ρ a0 0) fun j51 =>
        Option.bind (ag σ49 j51 ((y4 + (3 : Int32)))) fun x52 =>
        Option.bind (ap σ49 j50 ((4 : Int32)) x52) fun σ53 =>
        BX12_twist_216 ρ a0 a1 a2 σ53 y4
      else
        if a2 = (1 : Int32) then
          Option.bind (ρ a0 13) fun j22 =>
          Option.bind (ρ a0 0) fun j23 =>
          Option.bind (ag c3 j23 ((y4 + (2 : Int32)))) fun x24 =>
          Option.bind (ap c3 j22 ((1 : Int32)) x24) fun σ25 =>
          Option.bind (ρ a0 13) fun j26 =>
          Option.bind (ρ a0 0) fun j27 =>
          Option.bind (ag σ25 j27 ((y4 + (1 : Int32)))) fun x28 =>
          Option.bind (ap σ25 j26 ((2 : Int32)) x28) fun σ29 =>
          Option.bind (ρ a0 13) fun j30 =>
          Option.bind (ρ a0 0) fun j31 =>
          Option.bind (ag σ29 j31 ((y4 + (5 : Int32)))) fun x32 =>
          Option.bind (ap σ29 j30 ((4 : Int32)) x32) fun σ33 =>
          Option.bind (ρ a0 13) fun j34 =>
          Option.bind (ρ a0 0) fun j35 =>
          Option.bind (ag σ33 j35 ((y4 + (4 : Int32)))) fun x36 =>
          Option.bind (ap σ33 j34 ((5 : Int32)) x36) fun σ37 =>
          BX12_twist_216 ρ a0 a1 a2 σ37 y4
        else
          Option.bind (ρ a0 13) fun j5 =>
          Option.bind (ag c3 j5 ((1 : Int32))) fun x6 =>
          Option.bind (ρ a0 0) fun j7 =>
          Option.bind (ag c3 j7 y4) fun x8 =>
          Option.bind (ρ a0 0) fun j9 =>
          Option.bind (ag c3 j9 ((y4 + (5 : Int32)))) fun x10 =>
          Option.bind (ap c3 j5 ((1 : Int32)) ((x6 + (x8 + x10)))) fun σ11 =>
          Option.bind (ρ a0 13) fun j12 =>
          Option.bind (ag σ11 j12 ((3 : Int32))) fun x13 =>
          Option.bind (ρ a0 0) fun j14 =>
          Option.bind (ag σ11 j14 ((y4 + (4 : Int32)))) fun x15 =>
          Option.bind (ap σ11 j12 ((3 : Int32)) ((x13 + x15))) fun σ16 =>
          Option.bind (ρ a0 13) fun j17 =>
          Option.bind (ag σ16 j17 ((5 : Int32))) fun x18 =>
          Option.bind (ρ a0 0) fun j19 =>
          Option.bind (ag σ16 j19 y4) fun x20 =>
          Option.bind (ap σ16 j17 ((5 : Int32)) ((x18 + ((2 : Int32) * x20)))) fun σ21 =>
          BX12_twist_216 ρ a0 a1 a2 σ21 y4
set_option maxHeartbeats 4000000 in
set_option maxRecDepth 100000 in
theorem c_X12_twist (E : EX) {n : Nat} {σ : Sto} {ρ : Rho} (a0 : Nat) (h0 : Sh n a0 11) (a1 : Int32) (a2 : Int32) (res : Int32 × Sto) (hM : MX12_twist σ ρ a0 a1 a2 = some res) : CTi E yX12_twist cX12_twist 6 (some .int) 4 [.ref (eb E + a0), .int a1, .int a2] n σ ρ res.1 res.2 ρ := by
  refine ct_i (by decide +kernel) rfl (Nat.le_of_ble_eq_true rfl) (fun X hE hml hC hR => ?_)
  subst hE
  show G X 0 0 n σ ρ 0 [(0, vr X a0), (1, .int a1), (2, .int a2)] []
  replace hC : Cx X cX12_twist RX12 4 := hC
  unfold MX12_twist at hM
  refine g_iload_n hC dX12_twist_0 rfl 1 rfl ?_
  refine g_callSi (As := [.int a1]) (st' := []) (L' := 1) hC Y_X12_isConic k_1167 k_1166 ⟨by decide, by decide⟩ dX12_twist_1 rfl rfl rfl (Nat.le_of_ble_eq_true rfl) ⟨Nat.zero_le _, Nat.zero_le _⟩ hM (fun c hc => c_X12_isConic (xE X) a1 c hc) (fun c1 hM => ?_)
  refine g_if_eq (tgt := 16) hC dX12_twist_4 rfl (by decide) hM (fun hM => ?_) (fun hM => ?_)
  · exact g_sub [0, 1, 2] ((bX12_twist_16 hC hml hR a0 a1 a2 h0 ) _ hM) rfl
  · refine g_iload_n hC dX12_twist_7 rfl 2 rfl ?_
    refine g_iconst (v := 0) hC dX12_twist_8 rfl ic_0 ?_
    refine g_iconst (v := 2) hC dX12_twist_9 rfl ic_2 ?_
    refine g_callSi (As := [.int a2, .int ((0 : Int32)), .int ((2 : Int32))]) (st' := []) (L' := 0) hC Y_X12_isIn k_1170 k_1169 ⟨by decide, by decide⟩ dX12_twist_10 rfl rfl rfl (Nat.le_of_ble_eq_true rfl) ⟨Nat.zero_le _, Nat.zero_le _⟩ hM (fun c hc => c_X12_isIn (xE X) a2 ((0 : Int32)) ((2 : Int32)) c hc) (fun c2 hM => ?_)
    refine g_if_ne (tgt := 23) hC dX12_twist_13 rfl (by decide) hM (fun hM => ?_) (fun hM => ?_)
    · refine g_aload_n hC dX12_twist_23 rfl 0 rfl ?_
      refine g_iload_n hC dX12_twist_24 rfl 1 rfl ?_
      refine g_callVv0 (As := [.int a1]) (st' := []) (k := a0) (L' := 0) hC Y_X12_laysIts I_X12_laysIts k_1175 ⟨by decide, by decide⟩ h0 (ci := 11) (by decide) rfl dX12_twist_25 rfl rfl rfl (Nat.le_of_ble_eq_true rfl) ⟨Nat.zero_le _, Nat.zero_le _⟩ hM (fun c hc => c_X12_laysIts (xE X) a0 h0 a1 c hc) (fun c3 hM => ?_)
      refine g_bipush (v := 6) hC dX12_twist_28 rfl ib_6 ?_
      refine g_iload_n hC dX12_twist_30 rfl 1 rfl ?_
      refine g_imul hC dX12_twist_31 rfl ?_
      refine g_istore_n hC (fun y4 => [(3, .int y4), (0, vr X a0), (1, .int a1), (2, .int a2)]) dX12_twist_32 rfl hM hml (by decide) (fun _ => rfl) (fun y4 hM => ?_)
      refine g_iload_n hC dX12_twist_33 rfl 3 rfl ?_
      refine g_if_ne (tgt := 94) hC dX12_twist_34 rfl (by decide) hM (fun hM => ?_) (fun hM => ?_)
      · refine g_iload_n hC dX12_twist_94 rfl 3 rfl ?_
        refine g_iconst (v := 1) hC dX12_twist_95 rfl ic_1 ?_
        refine g_icmp_ne (tgt := 158) hC dX12_twist_96 rfl (by decide) hM (fun hM => ?_) (fun hM => ?_)
        · refine g_aload_n hC dX12_twist_158 rfl 1 rfl ?_
          refine fg_11_13 hC h0 k_1095 dX12_twist_159 rfl hM (fun j5 hj5 hM => ?_)
          refine g_iconst (v := 1) hC dX12_twist_162 rfl ic_1 ?_
          refine g_dup2 hC dX12_twist_163 rfl rfl rfl ?_
          refine g_iald hC hj5 dX12_twist_164 rfl hM (fun x6 hM => ?_)
          refine g_aload_n hC dX12_twist_165 rfl 1 rfl ?_
          refine fg_11_0 hC h0 k_1082 dX12_twist_166 rfl hM (fun j7 hj7 hM => ?_)
          refine g_iload_n hC dX12_twist_169 rfl 0 rfl ?_
          refine g_iald hC hj7 dX12_twist_170 rfl hM (fun x8 hM => ?_)
          refine g_aload_n hC dX12_twist_171 rfl 1 rfl ?_
          refine fg_11_0 hC h0 k_1082 dX12_twist_172 rfl hM (fun j9 hj9 hM => ?_)
          refine g_iload_n hC dX12_twist_175 rfl 0 rfl ?_
          refine g_iconst (v := 5) hC dX12_twist_176 rfl ic_5 ?_
          refine g_iadd hC dX12_twist_177 rfl ?_
          refine g_iald hC hj9 dX12_twist_178 rfl hM (fun x10 hM => ?_)
          refine g_iadd hC dX12_twist_179 rfl ?_
          refine g_iadd hC dX12_twist_180 rfl ?_
          refine g_iast hC hj5 dX12_twist_181 rfl hM (fun σ11 hM => ?_)
          refine g_aload_n hC dX12_twist_182 rfl 1 rfl ?_
          refine fg_11_13 hC h0 k_1095 dX12_twist_183 rfl hM (fun j12 hj12 hM => ?_)
          refine g_iconst (v := 3) hC dX12_twist_186 rfl ic_3 ?_
          refine g_dup2 hC dX12_twist_187 rfl rfl rfl ?_
          refine g_iald hC hj12 dX12_twist_188 rfl hM (fun x13 hM => ?_)
          refine g_aload_n hC dX12_twist_189 rfl 1 rfl ?_
          refine fg_11_0 hC h0 k_1082 dX12_twist_190 rfl hM (fun j14 hj14 hM => ?_)
          refine g_iload_n hC dX12_twist_193 rfl 0 rfl ?_
          refine g_iconst (v := 4) hC dX12_twist_194 rfl ic_4 ?_
          refine g_iadd hC dX12_twist_195 rfl ?_
          refine g_iald hC hj14 dX12_twist_196 rfl hM (fun x15 hM => ?_)
          refine g_iadd hC dX12_twist_197 rfl ?_
          refine g_iast hC hj12 dX12_twist_198 rfl hM (fun σ16 hM => ?_)
          refine g_aload_n hC dX12_twist_199 rfl 1 rfl ?_
          refine fg_11_13 hC h0 k_1095 dX12_twist_200 rfl hM (fun j17 hj17 hM => ?_)
          refine g_iconst (v := 5) hC dX12_twist_203 rfl ic_5 ?_
          refine g_dup2 hC dX12_twist_204 rfl rfl rfl ?_
          refine g_iald hC hj17 dX12_twist_205 rfl hM (fun x18 hM => ?_)
          refine g_iconst (v := 2) hC dX12_twist_206 rfl ic_2 ?_
          refine g_aload_n hC dX12_twist_207 rfl 1 rfl ?_
          refine fg_11_0 hC h0 k_1082 dX12_twist_208 rfl hM (fun j19 hj19 hM => ?_)
          refine g_iload_n hC dX12_twist_211 rfl 0 rfl ?_
          refine g_iald hC hj19 dX12_twist_212 rfl hM (fun x20 hM => ?_)
          refine g_imul hC dX12_twist_213 rfl ?_
          refine g_iadd hC dX12_twist_214 rfl ?_
          refine g_iast hC hj17 dX12_twist_215 rfl hM (fun σ21 hM => ?_)
          exact g_sub [1, 2, 3, 0] ((bX12_twist_216 hC hml hR a0 a1 a2 h0 ) _ _ hM) rfl
        · refine g_aload_n hC dX12_twist_99 rfl 1 rfl ?_
          refine fg_11_13 hC h0 k_1095 dX12_twist_100 rfl hM (fun j22 hj22 hM => ?_)
          refine g_iconst (v := 1) hC dX12_twist_103 rfl ic_1 ?_
          refine g_aload_n hC dX12_twist_104 rfl 1 rfl ?_
          refine fg_11_0 hC h0 k_1082 dX12_twist_105 rfl hM (fun j23 hj23 hM => ?_)
          refine g_iload_n hC dX12_twist_108 rfl 0 rfl ?_
          refine g_iconst (v := 2) hC dX12_twist_109 rfl ic_2 ?_
          refine g_iadd hC dX12_twist_110 rfl ?_
          refine g_iald hC hj23 dX12_twist_111 rfl hM (fun x24 hM => ?_)
          refine g_iast hC hj22 dX12_twist_112 rfl hM (fun σ25 hM => ?_)
          refine g_aload_n hC dX12_twist_113 rfl 1 rfl ?_
          refine fg_11_13 hC h0 k_1095 dX12_twist_114 rfl hM (fun j26 hj26 hM => ?_)
          refine g_iconst (v := 2) hC dX12_twist_117 rfl ic_2 ?_
          refine g_aload_n hC dX12_twist_118 rfl 1 rfl ?_
          refine fg_11_0 hC h0 k_1082 dX12_twist_119 rfl hM (fun j27 hj27 hM => ?_)
          refine g_iload_n hC dX12_twist_122 rfl 0 rfl ?_
          refine g_iconst (v := 1) hC dX12_twist_123 rfl ic_1 ?_
          refine g_iadd hC dX12_twist_124 rfl ?_
          refine g_iald hC hj27 dX12_twist_125 rfl hM (fun x28 hM => ?_)
          refine g_iast hC hj26 dX12_twist_126 rfl hM (fun σ29 hM => ?_)
          refine g_aload_n hC dX12_twist_127 rfl 1 rfl ?_
          refine fg_11_13 hC h0 k_1095 dX12_twist_128 rfl hM (fun j30 hj30 hM => ?_)
          refine g_iconst (v := 4) hC dX12_twist_131 rfl ic_4 ?_
          refine g_aload_n hC dX12_twist_132 rfl 1 rfl ?_
          refine fg_11_0 hC h0 k_1082 dX12_twist_133 rfl hM (fun j31 hj31 hM => ?_)
          refine g_iload_n hC dX12_twist_136 rfl 0 rfl ?_
          refine g_iconst (v := 5) hC dX12_twist_137 rfl ic_5 ?_
          refine g_iadd hC dX12_twist_138 rfl ?_
          refine g_iald hC hj31 dX12_twist_139 rfl hM (fun x32 hM => ?_)
          refine g_iast hC hj30 dX12_twist_140 rfl hM (fun σ33 hM => ?_)
          refine g_aload_n hC dX12_twist_141 rfl 1 rfl ?_
          refine fg_11_13 hC h0 k_1095 dX12_twist_142 rfl hM (fun j34 hj34 hM => ?_)
          refine g_iconst (v := 5) hC dX12_twist_145 rfl ic_5 ?_
          refine g_aload_n hC dX12_twist_146 rfl 1 rfl ?_
          refine fg_11_0 hC h0 k_1082 dX12_twist_147 rfl hM (fun j35 hj35 hM => ?_)
          refine g_iload_n hC dX12_twist_150 rfl 0 rfl ?_
          refine g_iconst (v := 4) hC dX12_twist_151 rfl ic_4 ?_
          refine g_iadd hC dX12_twist_152 rfl ?_
          refine g_iald hC hj35 dX12_twist_153 rfl hM (fun x36 hM => ?_)
          refine g_iast hC hj34 dX12_twist_154 rfl hM (fun σ37 hM => ?_)
          refine g_goto (tgt := 216) hC dX12_twist_155 rfl (by decide) ?_
          exact g_sub [1, 2, 3, 0] ((bX12_twist_216 hC hml hR a0 a1 a2 h0 ) _ _ hM) rfl
      · refine g_aload_n hC dX12_twist_37 rfl 1 rfl ?_
        refine fg_11_13 hC h0 k_1095 dX12_twist_38 rfl hM (fun j38 hj38 hM => ?_)
        refine g_iconst (v := 0) hC dX12_twist_41 rfl ic_0 ?_
        refine g_aload_n hC dX12_twist_42 rfl 1 rfl ?_
        refine fg_11_0 hC h0 k_1082 dX12_twist_43 rfl hM (fun j39 hj39 hM => ?_)
        refine g_iload_n hC dX12_twist_46 rfl 0 rfl ?_
        refine g_iconst (v := 1) hC dX12_twist_47 rfl ic_1 ?_
        refine g_iadd hC dX12_twist_48 rfl ?_
        refine g_iald hC hj39 dX12_twist_49 rfl hM (fun x40 hM => ?_)
        refine g_iast hC hj38 dX12_twist_50 rfl hM (fun σ41 hM => ?_)
        refine g_aload_n hC dX12_twist_51 rfl 1 rfl ?_
        refine fg_11_13 hC h0 k_1095 dX12_twist_52 rfl hM (fun j42 hj42 hM => ?_)
        refine g_iconst (v := 1) hC dX12_twist_55 rfl ic_1 ?_
        refine g_aload_n hC dX12_twist_56 rfl 1 rfl ?_
        refine fg_11_0 hC h0 k_1082 dX12_twist_57 rfl hM (fun j43 hj43 hM => ?_)
        refine g_iload_n hC dX12_twist_60 rfl 0 rfl ?_
        refine g_iald hC hj43 dX12_twist_61 rfl hM (fun x44 hM => ?_)
        refine g_iast hC hj42 dX12_twist_62 rfl hM (fun σ45 hM => ?_)
        refine g_aload_n hC dX12_twist_63 rfl 1 rfl ?_
        refine fg_11_13 hC h0 k_1095 dX12_twist_64 rfl hM (fun j46 hj46 hM => ?_)
        refine g_iconst (v := 3) hC dX12_twist_67 rfl ic_3 ?_
        refine g_aload_n hC dX12_twist_68 rfl 1 rfl ?_
        refine fg_11_0 hC h0 k_1082 dX12_twist_69 rfl hM (fun j47 hj47 hM => ?_)
        refine g_iload_n hC dX12_twist_72 rfl 0 rfl ?_
        refine g_iconst (v := 4) hC dX12_twist_73 rfl ic_4 ?_
        refine g_iadd hC dX12_twist_74 rfl ?_
        refine g_iald hC hj47 dX12_twist_75 rfl hM (fun x48 hM => ?_)
        refine g_iast hC hj46 dX12_twist_76 rfl hM (fun σ49 hM => ?_)
        refine g_aload_n hC dX12_twist_77 rfl 1 rfl ?_
        refine fg_11_13 hC h0 k_1095 dX12_twist_78 rfl hM (fun j50 hj50 hM => ?_)
        refine g_iconst (v := 4) hC dX12_twist_81 rfl ic_4 ?_
        refine g_aload_n hC dX12_twist_82 rfl 1 rfl ?_
        refine fg_11_0 hC h0 k_1082 dX12_twist_83 rfl hM (fun j51 hj51 hM => ?_)
        refine g_iload_n hC dX12_twist_86 rfl 0 rfl ?_
        refine g_iconst (v := 3) hC dX12_twist_87 rfl ic_3 ?_
        refine g_iadd hC dX12_twist_88 rfl ?_
        refine g_iald hC hj51 dX12_twist_89 rfl hM (fun x52 hM => ?_)
        refine g_iast hC hj50 dX12_twist_90 rfl hM (fun σ53 hM => ?_)
        refine g_goto (tgt := 216) hC dX12_twist_91 rfl (by decide) ?_
        exact g_sub [1, 2, 3, 0] ((bX12_twist_216 hC hml hR a0 a1 a2 h0 ) _ _ hM) rfl
    · exact g_sub [0, 1, 2] ((bX12_twist_16 hC hml hR a0 a1 a2 h0 ) _ hM) rfl
def MX12_laysMark (σ : Sto) (ρ : Rho) (a0 : Nat) (a1 : Int32) (a2 : Int32) : Option (Sto) :=
  Option.bind (MX12_laysPlace σ a0 a2) fun c1 =>
  Option.bind (ρ a0 12) fun j2 =>
  Option.bind (rmi (((c1 a0 8) * (c1 a0 8))) ((c1 a0 7))) fun z3 =>
  Option.bind (ap c1 j2 (((6 : Int32) * a1)) z3) fun σ4 =>
  Option.bind (ρ a0 12) fun j5 =>
  Option.bind (rmi (((σ4 a0 9) * (σ4 a0 9))) ((σ4 a0 7))) fun z6 =>
  Option.bind (ap σ4 j5 ((((6 : Int32) * a1) + (1 : Int32))) z6) fun σ7 =>
  Option.bind (ρ a0 12) fun j8 =>
  Option.bind (rmi (((σ7 a0 10) * (σ7 a0 10))) ((σ7 a0 7))) fun z9 =>
  Option.bind (ap σ7 j8 ((((6 : Int32) * a1) + (2 : Int32))) z9) fun σ10 =>
  Option.bind (ρ a0 12) fun j11 =>
  Option.bind (rmi (((σ10 a0 9) * (σ10 a0 10))) ((σ10 a0 7))) fun z12 =>
  Option.bind (ap σ10 j11 ((((6 : Int32) * a1) + (3 : Int32))) z12) fun σ13 =>
  Option.bind (ρ a0 12) fun j14 =>
  Option.bind (rmi (((σ13 a0 10) * (σ13 a0 8))) ((σ13 a0 7))) fun z15 =>
  Option.bind (ap σ13 j14 ((((6 : Int32) * a1) + (4 : Int32))) z15) fun σ16 =>
  Option.bind (ρ a0 12) fun j17 =>
  Option.bind (rmi (((σ16 a0 8) * (σ16 a0 9))) ((σ16 a0 7))) fun z18 =>
  Option.bind (ap σ16 j17 ((((6 : Int32) * a1) + (5 : Int32))) z18) fun σ19 =>
  some σ19
set_option maxHeartbeats 4000000 in
set_option maxRecDepth 100000 in
theorem c_X12_laysMark (E : EX) {n : Nat} {σ : Sto} {ρ : Rho} (a0 : Nat) (h0 : Sh n a0 11) (a1 : Int32) (a2 : Int32) (res : Sto) (hM : MX12_laysMark σ ρ a0 a1 a2 = some res) : CTv E yX12_laysMark cX12_laysMark 3 1 0 0 [.ref (eb E + a0), .int a1, .int a2] n σ ρ res ρ := by
  refine ct_v (by decide +kernel) (Nat.le_of_ble_eq_true rfl) (fun X hE hml hin hRm hC hR => ?_)
  subst hE
  show G X 0 0 n σ ρ 0 [(0, vr X a0), (1, .int a1), (2, .int a2)] []
  replace hC : Cx X cX12_laysMark RX12 1 := hC
  unfold MX12_laysMark at hM
  refine g_aload_n hC dX12_laysMark_0 rfl 0 rfl ?_
  refine g_iload_n hC dX12_laysMark_1 rfl 2 rfl ?_
  refine g_callVv0 (As := [.int a2]) (st' := []) (k := a0) (L' := 0) hC Y_X12_laysPlace I_X12_laysPlace k_1239 ⟨by decide, by decide⟩ h0 (ci := 11) (by decide) rfl dX12_laysMark_2 rfl rfl rfl (Nat.le_of_ble_eq_true rfl) ⟨Nat.zero_le _, Nat.zero_le _⟩ hM (fun c hc => c_X12_laysPlace (xE X) a0 h0 a2 c hc) (fun c1 hM => ?_)
  refine g_aload_n hC dX12_laysMark_5 rfl 0 rfl ?_
  refine fg_11_12 hC h0 k_1094 dX12_laysMark_6 rfl hM (fun j2 hj2 hM => ?_)
  refine g_bipush (v := 6) hC dX12_laysMark_9 rfl ib_6 ?_
  refine g_iload_n hC dX12_laysMark_11 rfl 1 rfl ?_
  refine g_imul hC dX12_laysMark_12 rfl ?_
  refine g_aload_n hC dX12_laysMark_13 rfl 0 rfl ?_
  refine fg_11_8 hC h0 k_1090 dX12_laysMark_14 rfl ?_
  refine g_aload_n hC dX12_laysMark_17 rfl 0 rfl ?_
  refine fg_11_8 hC h0 k_1090 dX12_laysMark_18 rfl ?_
  refine g_imul hC dX12_laysMark_21 rfl ?_
  refine g_aload_n hC dX12_laysMark_22 rfl 0 rfl ?_
  refine fg_11_7 hC h0 k_1089 dX12_laysMark_23 rfl ?_
  refine g_irem hC dX12_laysMark_26 rfl hM (fun z3 hM => ?_)
  refine g_iast hC hj2 dX12_laysMark_27 rfl hM (fun σ4 hM => ?_)
  refine g_aload_n hC dX12_laysMark_28 rfl 0 rfl ?_
  refine fg_11_12 hC h0 k_1094 dX12_laysMark_29 rfl hM (fun j5 hj5 hM => ?_)
  refine g_bipush (v := 6) hC dX12_laysMark_32 rfl ib_6 ?_
  refine g_iload_n hC dX12_laysMark_34 rfl 1 rfl ?_
  refine g_imul hC dX12_laysMark_35 rfl ?_
  refine g_iconst (v := 1) hC dX12_laysMark_36 rfl ic_1 ?_
  refine g_iadd hC dX12_laysMark_37 rfl ?_
  refine g_aload_n hC dX12_laysMark_38 rfl 0 rfl ?_
  refine fg_11_9 hC h0 k_1091 dX12_laysMark_39 rfl ?_
  refine g_aload_n hC dX12_laysMark_42 rfl 0 rfl ?_
  refine fg_11_9 hC h0 k_1091 dX12_laysMark_43 rfl ?_
  refine g_imul hC dX12_laysMark_46 rfl ?_
  refine g_aload_n hC dX12_laysMark_47 rfl 0 rfl ?_
  refine fg_11_7 hC h0 k_1089 dX12_laysMark_48 rfl ?_
  refine g_irem hC dX12_laysMark_51 rfl hM (fun z6 hM => ?_)
  refine g_iast hC hj5 dX12_laysMark_52 rfl hM (fun σ7 hM => ?_)
  refine g_aload_n hC dX12_laysMark_53 rfl 0 rfl ?_
  refine fg_11_12 hC h0 k_1094 dX12_laysMark_54 rfl hM (fun j8 hj8 hM => ?_)
  refine g_bipush (v := 6) hC dX12_laysMark_57 rfl ib_6 ?_
  refine g_iload_n hC dX12_laysMark_59 rfl 1 rfl ?_
  refine g_imul hC dX12_laysMark_60 rfl ?_
  refine g_iconst (v := 2) hC dX12_laysMark_61 rfl ic_2 ?_
  refine g_iadd hC dX12_laysMark_62 rfl ?_
  refine g_aload_n hC dX12_laysMark_63 rfl 0 rfl ?_
  refine fg_11_10 hC h0 k_1092 dX12_laysMark_64 rfl ?_
  refine g_aload_n hC dX12_laysMark_67 rfl 0 rfl ?_
  refine fg_11_10 hC h0 k_1092 dX12_laysMark_68 rfl ?_
  refine g_imul hC dX12_laysMark_71 rfl ?_
  refine g_aload_n hC dX12_laysMark_72 rfl 0 rfl ?_
  refine fg_11_7 hC h0 k_1089 dX12_laysMark_73 rfl ?_
  refine g_irem hC dX12_laysMark_76 rfl hM (fun z9 hM => ?_)
  refine g_iast hC hj8 dX12_laysMark_77 rfl hM (fun σ10 hM => ?_)
  refine g_aload_n hC dX12_laysMark_78 rfl 0 rfl ?_
  refine fg_11_12 hC h0 k_1094 dX12_laysMark_79 rfl hM (fun j11 hj11 hM => ?_)
  refine g_bipush (v := 6) hC dX12_laysMark_82 rfl ib_6 ?_
  refine g_iload_n hC dX12_laysMark_84 rfl 1 rfl ?_
  refine g_imul hC dX12_laysMark_85 rfl ?_
  refine g_iconst (v := 3) hC dX12_laysMark_86 rfl ic_3 ?_
  refine g_iadd hC dX12_laysMark_87 rfl ?_
  refine g_aload_n hC dX12_laysMark_88 rfl 0 rfl ?_
  refine fg_11_9 hC h0 k_1091 dX12_laysMark_89 rfl ?_
  refine g_aload_n hC dX12_laysMark_92 rfl 0 rfl ?_
  refine fg_11_10 hC h0 k_1092 dX12_laysMark_93 rfl ?_
  refine g_imul hC dX12_laysMark_96 rfl ?_
  refine g_aload_n hC dX12_laysMark_97 rfl 0 rfl ?_
  refine fg_11_7 hC h0 k_1089 dX12_laysMark_98 rfl ?_
  refine g_irem hC dX12_laysMark_101 rfl hM (fun z12 hM => ?_)
  refine g_iast hC hj11 dX12_laysMark_102 rfl hM (fun σ13 hM => ?_)
  refine g_aload_n hC dX12_laysMark_103 rfl 0 rfl ?_
  refine fg_11_12 hC h0 k_1094 dX12_laysMark_104 rfl hM (fun j14 hj14 hM => ?_)
  refine g_bipush (v := 6) hC dX12_laysMark_107 rfl ib_6 ?_
  refine g_iload_n hC dX12_laysMark_109 rfl 1 rfl ?_
  refine g_imul hC dX12_laysMark_110 rfl ?_
  refine g_iconst (v := 4) hC dX12_laysMark_111 rfl ic_4 ?_
  refine g_iadd hC dX12_laysMark_112 rfl ?_
  refine g_aload_n hC dX12_laysMark_113 rfl 0 rfl ?_
  refine fg_11_10 hC h0 k_1092 dX12_laysMark_114 rfl ?_
  refine g_aload_n hC dX12_laysMark_117 rfl 0 rfl ?_
  refine fg_11_8 hC h0 k_1090 dX12_laysMark_118 rfl ?_
  refine g_imul hC dX12_laysMark_121 rfl ?_
  refine g_aload_n hC dX12_laysMark_122 rfl 0 rfl ?_
  refine fg_11_7 hC h0 k_1089 dX12_laysMark_123 rfl ?_
  refine g_irem hC dX12_laysMark_126 rfl hM (fun z15 hM => ?_)
  refine g_iast hC hj14 dX12_laysMark_127 rfl hM (fun σ16 hM => ?_)
  refine g_aload_n hC dX12_laysMark_128 rfl 0 rfl ?_
  refine fg_11_12 hC h0 k_1094 dX12_laysMark_129 rfl hM (fun j17 hj17 hM => ?_)
  refine g_bipush (v := 6) hC dX12_laysMark_132 rfl ib_6 ?_
  refine g_iload_n hC dX12_laysMark_134 rfl 1 rfl ?_
  refine g_imul hC dX12_laysMark_135 rfl ?_
  refine g_iconst (v := 5) hC dX12_laysMark_136 rfl ic_5 ?_
  refine g_iadd hC dX12_laysMark_137 rfl ?_
  refine g_aload_n hC dX12_laysMark_138 rfl 0 rfl ?_
  refine fg_11_8 hC h0 k_1090 dX12_laysMark_139 rfl ?_
  refine g_aload_n hC dX12_laysMark_142 rfl 0 rfl ?_
  refine fg_11_9 hC h0 k_1091 dX12_laysMark_143 rfl ?_
  refine g_imul hC dX12_laysMark_146 rfl ?_
  refine g_aload_n hC dX12_laysMark_147 rfl 0 rfl ?_
  refine fg_11_7 hC h0 k_1089 dX12_laysMark_148 rfl ?_
  refine g_irem hC dX12_laysMark_151 rfl hM (fun z18 hM => ?_)
  refine g_iast hC hj17 dX12_laysMark_152 rfl hM (fun σ19 hM => ?_)
  cases hM
  exact g_retv hR dX12_laysMark_153 rfl
