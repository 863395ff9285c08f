def MX12_rankOf (σ : Sto) (ρ : Rho) (a0 : Nat) : Option (Int32 × Sto) :=
  Option.bind (ρ a0 12) fun j1 =>
  Option.bind (ρ a0 11) fun j2 =>
  Option.bind (ag σ j2 ((0 : Int32))) fun x3 =>
  Option.bind (rmi (((2 : Int32) * x3)) ((σ a0 7))) fun z4 =>
  Option.bind (ap σ j1 ((0 : Int32)) z4) fun σ5 =>
  Option.bind (ρ a0 12) fun j6 =>
  Option.bind (ρ a0 11) fun j7 =>
  Option.bind (ag σ5 j7 ((5 : Int32))) fun x8 =>
  Option.bind (ap σ5 j6 ((1 : Int32)) x8) fun σ9 =>
  Option.bind (ρ a0 12) fun j10 =>
  Option.bind (ρ a0 11) fun j11 =>
  Option.bind (ag σ9 j11 ((4 : Int32))) fun x12 =>
  Option.bind (ap σ9 j10 ((2 : Int32)) x12) fun σ13 =>
  Option.bind (ρ a0 12) fun j14 =>
  Option.bind (ρ a0 11) fun j15 =>
  Option.bind (ag σ13 j15 ((5 : Int32))) fun x16 =>
  Option.bind (ap σ13 j14 ((6 : Int32)) x16) fun σ17 =>
  Option.bind (ρ a0 12) fun j18 =>
  Option.bind (ρ a0 11) fun j19 =>
  Option.bind (ag σ17 j19 ((1 : Int32))) fun x20 =>
  Option.bind (rmi (((2 : Int32) * x20)) ((σ17 a0 7))) fun z21 =>
  Option.bind (ap σ17 j18 ((7 : Int32)) z21) fun σ22 =>
  Option.bind (ρ a0 12) fun j23 =>
  Option.bind (ρ a0 11) fun j24 =>
  Option.bind (ag σ22 j24 ((3 : Int32))) fun x25 =>
  Option.bind (ap σ22 j23 ((8 : Int32)) x25) fun σ26 =>
  Option.bind (ρ a0 12) fun j27 =>
  Option.bind (ρ a0 11) fun j28 =>
  Option.bind (ag σ26 j28 ((4 : Int32))) fun x29 =>
  Option.bind (ap σ26 j27 ((12 : Int32)) x29) fun σ30 =>
  Option.bind (ρ a0 12) fun j31 =>
  Option.bind (ρ a0 11) fun j32 =>
  Option.bind (ag σ30 j32 ((3 : Int32))) fun x33 =>
  Option.bind (ap σ30 j31 ((13 : Int32)) x33) fun σ34 =>
  Option.bind (ρ a0 12) fun j35 =>
  Option.bind (ρ a0 11) fun j36 =>
  Option.bind (ag σ34 j36 ((2 : Int32))) fun x37 =>
  Option.bind (rmi (((2 : Int32) * x37)) ((σ34 a0 7))) fun z38 =>
  Option.bind (ap σ34 j35 ((14 : Int32)) z38) fun σ39 =>
  Option.bind (MX12_rank σ39 ρ a0 ((3 : Int32)) ((3 : Int32))) fun c40 =>
  some (c40.1, c40.2)
set_option maxHeartbeats 4000000 in
set_option maxRecDepth 100000 in
theorem c_X12_rankOf (E : EX) {n : Nat} {σ : Sto} {ρ : Rho} (a0 : Nat) (h0 : Sh n a0 11) (res : Int32 × Sto) (hM : MX12_rankOf σ ρ a0 = some res) : CTi E yX12_rankOf cX12_rankOf 1 (some .int) 2 [.ref (eb E + a0)] n σ ρ res.1 res.2 ρ := by
  refine ct_i (by decide +kernel) rfl (Nat.le_of_ble_eq_true rfl) (fun X hE hml hC hR => ?_)
  subst hE
  show G X 0 0 n σ ρ 0 [(0, vr X a0)] []
  replace hC : Cx X cX12_rankOf RX12 2 := hC
  unfold MX12_rankOf at hM
  refine g_aload_n hC dX12_rankOf_0 rfl 0 rfl ?_
  refine fg_11_12 hC h0 k_1094 dX12_rankOf_1 rfl hM (fun j1 hj1 hM => ?_)
  refine g_iconst (v := 0) hC dX12_rankOf_4 rfl ic_0 ?_
  refine g_iconst (v := 2) hC dX12_rankOf_5 rfl ic_2 ?_
  refine g_aload_n hC dX12_rankOf_6 rfl 0 rfl ?_
  refine fg_11_11 hC h0 k_1093 dX12_rankOf_7 rfl hM (fun j2 hj2 hM => ?_)
  refine g_iconst (v := 0) hC dX12_rankOf_10 rfl ic_0 ?_
  refine g_iald hC hj2 dX12_rankOf_11 rfl hM (fun x3 hM => ?_)
  refine g_imul hC dX12_rankOf_12 rfl ?_
  refine g_aload_n hC dX12_rankOf_13 rfl 0 rfl ?_
  refine fg_11_7 hC h0 k_1089 dX12_rankOf_14 rfl ?_
  refine g_irem hC dX12_rankOf_17 rfl hM (fun z4 hM => ?_)
  refine g_iast hC hj1 dX12_rankOf_18 rfl hM (fun σ5 hM => ?_)
  refine g_aload_n hC dX12_rankOf_19 rfl 0 rfl ?_
  refine fg_11_12 hC h0 k_1094 dX12_rankOf_20 rfl hM (fun j6 hj6 hM => ?_)
  refine g_iconst (v := 1) hC dX12_rankOf_23 rfl ic_1 ?_
  refine g_aload_n hC dX12_rankOf_24 rfl 0 rfl ?_
  refine fg_11_11 hC h0 k_1093 dX12_rankOf_25 rfl hM (fun j7 hj7 hM => ?_)
  refine g_iconst (v := 5) hC dX12_rankOf_28 rfl ic_5 ?_
  refine g_iald hC hj7 dX12_rankOf_29 rfl hM (fun x8 hM => ?_)
  refine g_iast hC hj6 dX12_rankOf_30 rfl hM (fun σ9 hM => ?_)
  refine g_aload_n hC dX12_rankOf_31 rfl 0 rfl ?_
  refine fg_11_12 hC h0 k_1094 dX12_rankOf_32 rfl hM (fun j10 hj10 hM => ?_)
  refine g_iconst (v := 2) hC dX12_rankOf_35 rfl ic_2 ?_
  refine g_aload_n hC dX12_rankOf_36 rfl 0 rfl ?_
  refine fg_11_11 hC h0 k_1093 dX12_rankOf_37 rfl hM (fun j11 hj11 hM => ?_)
  refine g_iconst (v := 4) hC dX12_rankOf_40 rfl ic_4 ?_
  refine g_iald hC hj11 dX12_rankOf_41 rfl hM (fun x12 hM => ?_)
  refine g_iast hC hj10 dX12_rankOf_42 rfl hM (fun σ13 hM => ?_)
  refine g_aload_n hC dX12_rankOf_43 rfl 0 rfl ?_
  refine fg_11_12 hC h0 k_1094 dX12_rankOf_44 rfl hM (fun j14 hj14 hM => ?_)
  refine g_bipush (v := 6) hC dX12_rankOf_47 rfl ib_6 ?_
  refine g_aload_n hC dX12_rankOf_49 rfl 0 rfl ?_
  refine fg_11_11 hC h0 k_1093 dX12_rankOf_50 rfl hM (fun j15 hj15 hM => ?_)
  refine g_iconst (v := 5) hC dX12_rankOf_53 rfl ic_5 ?_
  refine g_iald hC hj15 dX12_rankOf_54 rfl hM (fun x16 hM => ?_)
  refine g_iast hC hj14 dX12_rankOf_55 rfl hM (fun σ17 hM => ?_)
  refine g_aload_n hC dX12_rankOf_56 rfl 0 rfl ?_
  refine fg_11_12 hC h0 k_1094 dX12_rankOf_57 rfl hM (fun j18 hj18 hM => ?_)
  refine g_bipush (v := 7) hC dX12_rankOf_60 rfl ib_7 ?_
  refine g_iconst (v := 2) hC dX12_rankOf_62 rfl ic_2 ?_
  refine g_aload_n hC dX12_rankOf_63 rfl 0 rfl ?_
  refine fg_11_11 hC h0 k_1093 dX12_rankOf_64 rfl hM (fun j19 hj19 hM => ?_)
  refine g_iconst (v := 1) hC dX12_rankOf_67 rfl ic_1 ?_
  refine g_iald hC hj19 dX12_rankOf_68 rfl hM (fun x20 hM => ?_)
  refine g_imul hC dX12_rankOf_69 rfl ?_
  refine g_aload_n hC dX12_rankOf_70 rfl 0 rfl ?_
  refine fg_11_7 hC h0 k_1089 dX12_rankOf_71 rfl ?_
  refine g_irem hC dX12_rankOf_74 rfl hM (fun z21 hM => ?_)
  refine g_iast hC hj18 dX12_rankOf_75 rfl hM (fun σ22 hM => ?_)
  refine g_aload_n hC dX12_rankOf_76 rfl 0 rfl ?_
  refine fg_11_12 hC h0 k_1094 dX12_rankOf_77 rfl hM (fun j23 hj23 hM => ?_)
  refine g_bipush (v := 8) hC dX12_rankOf_80 rfl ib_8 ?_
  refine g_aload_n hC dX12_rankOf_82 rfl 0 rfl ?_
  refine fg_11_11 hC h0 k_1093 dX12_rankOf_83 rfl hM (fun j24 hj24 hM => ?_)
  refine g_iconst (v := 3) hC dX12_rankOf_86 rfl ic_3 ?_
  refine g_iald hC hj24 dX12_rankOf_87 rfl hM (fun x25 hM => ?_)
  refine g_iast hC hj23 dX12_rankOf_88 rfl hM (fun σ26 hM => ?_)
  refine g_aload_n hC dX12_rankOf_89 rfl 0 rfl ?_
  refine fg_11_12 hC h0 k_1094 dX12_rankOf_90 rfl hM (fun j27 hj27 hM => ?_)
  refine g_bipush (v := 12) hC dX12_rankOf_93 rfl ib_12 ?_
  refine g_aload_n hC dX12_rankOf_95 rfl 0 rfl ?_
  refine fg_11_11 hC h0 k_1093 dX12_rankOf_96 rfl hM (fun j28 hj28 hM => ?_)
  refine g_iconst (v := 4) hC dX12_rankOf_99 rfl ic_4 ?_
  refine g_iald hC hj28 dX12_rankOf_100 rfl hM (fun x29 hM => ?_)
  refine g_iast hC hj27 dX12_rankOf_101 rfl hM (fun σ30 hM => ?_)
  refine g_aload_n hC dX12_rankOf_102 rfl 0 rfl ?_
  refine fg_11_12 hC h0 k_1094 dX12_rankOf_103 rfl hM (fun j31 hj31 hM => ?_)
  refine g_bipush (v := 13) hC dX12_rankOf_106 rfl ib_13 ?_
  refine g_aload_n hC dX12_rankOf_108 rfl 0 rfl ?_
  refine fg_11_11 hC h0 k_1093 dX12_rankOf_109 rfl hM (fun j32 hj32 hM => ?_)
  refine g_iconst (v := 3) hC dX12_rankOf_112 rfl ic_3 ?_
  refine g_iald hC hj32 dX12_rankOf_113 rfl hM (fun x33 hM => ?_)
  refine g_iast hC hj31 dX12_rankOf_114 rfl hM (fun σ34 hM => ?_)
  refine g_aload_n hC dX12_rankOf_115 rfl 0 rfl ?_
  refine fg_11_12 hC h0 k_1094 dX12_rankOf_116 rfl hM (fun j35 hj35 hM => ?_)
  refine g_bipush (v := 14) hC dX12_rankOf_119 rfl ib_14 ?_
  refine g_iconst (v := 2) hC dX12_rankOf_121 rfl ic_2 ?_
  refine g_aload_n hC dX12_rankOf_122 rfl 0 rfl ?_
  refine fg_11_11 hC h0 k_1093 dX12_rankOf_123 rfl hM (fun j36 hj36 hM => ?_)
  refine g_iconst (v := 2) hC dX12_rankOf_126 rfl ic_2 ?_
  refine g_iald hC hj36 dX12_rankOf_127 rfl hM (fun x37 hM => ?_)
  refine g_imul hC dX12_rankOf_128 rfl ?_
  refine g_aload_n hC dX12_rankOf_129 rfl 0 rfl ?_
  refine fg_11_7 hC h0 k_1089 dX12_rankOf_130 rfl ?_
  refine g_irem hC dX12_rankOf_133 rfl hM (fun z38 hM => ?_)
  refine g_iast hC hj35 dX12_rankOf_134 rfl hM (fun σ39 hM => ?_)
  refine g_aload_n hC dX12_rankOf_135 rfl 0 rfl ?_
  refine g_iconst (v := 3) hC dX12_rankOf_136 rfl ic_3 ?_
  refine g_iconst (v := 3) hC dX12_rankOf_137 rfl ic_3 ?_
  refine g_callVi (As := [.int ((3 : Int32)), .int ((3 : Int32))]) (st' := []) (k := a0) (L' := 1) hC Y_X12_rank I_X12_rank k_1215 ⟨by decide, by decide⟩ h0 (ci := 11) (by decide) rfl dX12_rankOf_138 rfl rfl rfl (Nat.le_of_ble_eq_true rfl) ⟨Nat.zero_le _, Nat.zero_le _⟩ hM (fun c hc => c_X12_rank (xE X) a0 h0 ((3 : Int32)) ((3 : Int32)) c hc) (fun c40 hM => ?_)
  cases hM
  exact g_reti hR dX12_rankOf_141 rfl
def MX12_kindOf (σ : Sto) (ρ : Rho) (a0 : Nat) : Option (Int32 × Sto) :=
  Option.bind (MX12_rankOf σ ρ a0) fun c1 =>
  bn c1.1 fun y2 =>
  if y2 = 0 then
    some ((0 : Int32), c1.2)
  else
    if y2 = (1 : Int32) then
      some ((1 : Int32), c1.2)
    else
      if y2 = (3 : Int32) then
        some ((4 : Int32), c1.2)
      else
        Option.bind (MX12_linesOn c1.2 ρ a0) fun c3 =>
        if c3.1 ≤ 0 then
          some ((3 : Int32), c3.2)
        else
          some ((2 : Int32), c3.2)
set_option maxHeartbeats 4000000 in
set_option maxRecDepth 100000 in
theorem c_X12_kindOf (E : EX) {n : Nat} {σ : Sto} {ρ : Rho} (a0 : Nat) (h0 : Sh n a0 11) (res : Int32 × Sto) (hM : MX12_kindOf σ ρ a0 = some res) : CTi E yX12_kindOf cX12_kindOf 2 (some .int) 4 [.ref (eb E + a0)] n σ ρ res.1 res.2 ρ := by
  refine ct_i (by decide +kernel) rfl (Nat.le_of_ble_eq_true rfl) (fun X hE hml hC hR => ?_)
  subst hE
  show G X 0 0 n σ ρ 0 [(0, vr X a0)] []
  replace hC : Cx X cX12_kindOf RX12 4 := hC
  unfold MX12_kindOf at hM
  refine g_aload_n hC dX12_kindOf_0 rfl 0 rfl ?_
  refine g_callVi (As := []) (st' := []) (k := a0) (L' := 2) hC Y_X12_rankOf I_X12_rankOf k_1211 ⟨by decide, by decide⟩ h0 (ci := 11) (by decide) rfl dX12_kindOf_1 rfl rfl rfl (Nat.le_of_ble_eq_true rfl) ⟨Nat.zero_le _, Nat.zero_le _⟩ hM (fun c hc => c_X12_rankOf (xE X) a0 h0 c hc) (fun c1 hM => ?_)
  refine g_istore_n hC (fun y2 => [(1, .int y2), (0, vr X a0)]) dX12_kindOf_4 rfl hM hml (by decide) (fun _ => rfl) (fun y2 hM => ?_)
  refine g_iload_n hC dX12_kindOf_5 rfl 0 rfl ?_
  refine g_if_ne (tgt := 13) hC dX12_kindOf_6 rfl (by decide) hM (fun hM => ?_) (fun hM => ?_)
  · refine g_iload_n hC dX12_kindOf_13 rfl 0 rfl ?_
    refine g_iconst (v := 1) hC dX12_kindOf_14 rfl ic_1 ?_
    refine g_icmp_ne (tgt := 22) hC dX12_kindOf_15 rfl (by decide) hM (fun hM => ?_) (fun hM => ?_)
    · refine g_iload_n hC dX12_kindOf_22 rfl 0 rfl ?_
      refine g_iconst (v := 3) hC dX12_kindOf_23 rfl ic_3 ?_
      refine g_icmp_ne (tgt := 31) hC dX12_kindOf_24 rfl (by decide) hM (fun hM => ?_) (fun hM => ?_)
      · refine g_aload_n hC dX12_kindOf_31 rfl 1 rfl ?_
        refine g_callVi (As := []) (st' := []) (k := a0) (L' := 3) hC Y_X12_linesOn I_X12_linesOn k_1223 ⟨by decide, by decide⟩ h0 (ci := 11) (by decide) rfl dX12_kindOf_32 rfl rfl rfl (Nat.le_of_ble_eq_true rfl) ⟨Nat.zero_le _, Nat.zero_le _⟩ hM (fun c hc => c_X12_linesOn (xE X) a0 h0 c hc) (fun c3 hM => ?_)
        refine g_if_le (tgt := 42) hC dX12_kindOf_35 rfl (by decide) hM (fun hM => ?_) (fun hM => ?_)
        · refine g_iconst (v := 3) hC dX12_kindOf_42 rfl ic_3 ?_
          cases hM
          exact g_reti hR dX12_kindOf_43 rfl
        · refine g_iconst (v := 2) hC dX12_kindOf_38 rfl ic_2 ?_
          refine g_goto (tgt := 43) hC dX12_kindOf_39 rfl (by decide) ?_
          cases hM
          exact g_reti hR dX12_kindOf_43 rfl
      · refine g_iconst (v := 4) hC dX12_kindOf_27 rfl ic_4 ?_
        refine g_goto (tgt := 43) hC dX12_kindOf_28 rfl (by decide) ?_
        cases hM
        exact g_reti hR dX12_kindOf_43 rfl
    · refine g_iconst (v := 1) hC dX12_kindOf_18 rfl ic_1 ?_
      refine g_goto (tgt := 43) hC dX12_kindOf_19 rfl (by decide) ?_
      cases hM
      exact g_reti hR dX12_kindOf_43 rfl
  · refine g_iconst (v := 0) hC dX12_kindOf_9 rfl ic_0 ?_
    refine g_goto (tgt := 43) hC dX12_kindOf_10 rfl (by decide) ?_
    cases hM
    exact g_reti hR dX12_kindOf_43 rfl
def BX12_tangents_39 (ρ : Rho) (a0 : Nat) (a1 : Int32) (rec : Sto → Int32 → Int32 → Option (Int32 × Sto)) (σ : Sto) (v3 : Int32) (t0 : Int32) (t1 : Int32) : Option (Int32 × Sto) :=
  bn ((t0 + t1)) fun y1 =>
  bn (v3 + (1 : Int32)) fun y2 =>
  rec σ y1 y2
set_option maxHeartbeats 4000000 in
set_option maxRecDepth 100000 in
theorem bX12_tangents_39 {X : CX} {n : Nat} {ρ : Rho} {res : Int32 × Sto} (hC : Cx X cX12_tangents RX12 3) (hml : (xc X).maxLocals = 4) (hR : RtT (some .int) X cX12_tangents n res.1 res.2 ρ) (a0 : Nat) (a1 : Int32) (h0 : Sh n a0 11) (rec : Sto → Int32 → Int32 → Option (Int32 × Sto)) (ih : ∀ (σ : Sto) (v2 : Int32) (v3 : Int32), rec σ v2 v3 = some res → G X 0 0 n σ ρ 4 [(0, vr X a0), (1, .int a1), (2, .int v2), (3, .int v3)] []) : ∀ (σ : Sto) (v3 : Int32) (t0 : Int32) (t1 : Int32), BX12_tangents_39 ρ a0 a1 rec σ v3 t0 t1 = some res → G X 0 0 n σ ρ 39 [(0, vr X a0), (1, .int a1), (3, .int v3)] [.int t1, .int t0] := by
  intro σ v3 t0 t1 hM
  unfold BX12_tangents_39 at hM
  refine g_iadd hC dX12_tangents_39 rfl ?_
  refine g_istore_n hC (fun y1 => [(2, .int y1), (0, vr X a0), (1, .int a1), (3, .int v3)]) dX12_tangents_40 rfl hM hml (by decide) (fun _ => rfl) (fun y1 hM => ?_)
  refine g_iinc (v := 1) hC (fun y2 => [(3, .int y2), (2, .int y1), (0, vr X a0), (1, .int a1)]) dX12_tangents_41 rfl hM (j := 3) rfl ic_1 hml (by decide) (fun _ => rfl) (fun y2 hM => ?_)
  refine g_goto (tgt := 4) hC dX12_tangents_44 rfl (by decide) ?_
  exact g_sub [2, 3, 1, 0] (ih _ _ _ hM) rfl
def BX12_tangents_38 (ρ : Rho) (a0 : Nat) (a1 : Int32) (rec : Sto → Int32 → Int32 → Option (Int32 × Sto)) (σ : Sto) (v3 : Int32) (t0 : Int32) : Option (Int32 × Sto) :=
  BX12_tangents_39 ρ a0 a1 rec σ v3 t0 ((0 : Int32))
set_option maxHeartbeats 4000000 in
set_option maxRecDepth 100000 in
theorem bX12_tangents_38 {X : CX} {n : Nat} {ρ : Rho} {res : Int32 × Sto} (hC : Cx X cX12_tangents RX12 3) (hml : (xc X).maxLocals = 4) (hR : RtT (some .int) X cX12_tangents n res.1 res.2 ρ) (a0 : Nat) (a1 : Int32) (h0 : Sh n a0 11) (rec : Sto → Int32 → Int32 → Option (Int32 × Sto)) (ih : ∀ (σ : Sto) (v2 : Int32) (v3 : Int32), rec σ v2 v3 = some res → G X 0 0 n σ ρ 4 [(0, vr X a0), (1, .int a1), (2, .int v2), (3, .int v3)] []) : ∀ (σ : Sto) (v3 : Int32) (t0 : Int32), BX12_tangents_38 ρ a0 a1 rec σ v3 t0 = some res → G X 0 0 n σ ρ 38 [(0, vr X a0), (1, .int a1), (3, .int v3)] [.int t0] := by
  intro σ v3 t0 hM
  unfold BX12_tangents_38 at hM
  refine g_iconst (v := 0) hC dX12_tangents_38 rfl ic_0 ?_
  exact g_sub [0, 1, 2] ((bX12_tangents_39 hC hml hR a0 a1 h0 rec ih ) _ _ _ _ hM) rfl
def FX12_tangents_4 (ρ : Rho) (a0 : Nat) (a1 : Int32) (rec : Sto → Int32 → Int32 → Option (Int32 × Sto)) (σ : Sto) (v2 : Int32) (v3 : Int32) : Option (Int32 × Sto) :=
  Option.bind (MX12_places σ a0) fun c1 =>
  if c1 ≤ v3 then
    some (v2, σ)
  else
    Option.bind (MX12_isOn σ ρ a0 v3) fun c2 =>
    if c2.1 = 0 then
      BX12_tangents_38 ρ a0 a1 rec c2.2 v3 v2
    else
      Option.bind (MX12_polarOf c2.2 ρ a0 v3) fun c3 =>
      Option.bind (MX12_isOnLine c3.2 a0 a1 c3.1) fun c4 =>
      if c4.1 = 0 then
        BX12_tangents_38 ρ a0 a1 rec c4.2 v3 v2
      else
        BX12_tangents_39 ρ a0 a1 rec c4.2 v3 v2 ((1 : Int32))
set_option maxHeartbeats 4000000 in
set_option maxRecDepth 100000 in
theorem bX12_tangents_4 {X : CX} {n : Nat} {ρ : Rho} {res : Int32 × Sto} (hC : Cx X cX12_tangents RX12 3) (hml : (xc X).maxLocals = 4) (hR : RtT (some .int) X cX12_tangents n res.1 res.2 ρ) (a0 : Nat) (a1 : Int32) (h0 : Sh n a0 11) (fu : Nat) : ∀ (σ : Sto) (v2 : Int32) (v3 : Int32), fixN (fun _ _ _ => none) (FX12_tangents_4 ρ a0 a1) fu σ v2 v3 = some res → G X 0 0 n σ ρ 4 [(0, vr X a0), (1, .int a1), (2, .int v2), (3, .int v3)] [] := by
  refine fixN_ind (P := fun (f : Sto → Int32 → Int32 → Option (Int32 × Sto)) => ∀ (σ : Sto) (v2 : Int32) (v3 : Int32), f σ v2 v3 = some res → G X 0 0 n σ ρ 4 [(0, vr X a0), (1, .int a1), (2, .int v2), (3, .int v3)] []) ?_ ?_ fu
  · intro σ v2 v3 hM; cases hM
  · intro rec ih σ v2 v3 hM
    unfold FX12_tangents_4 at hM
    refine g_iload_n hC dX12_tangents_4 rfl 3 rfl ?_
    refine g_aload_n hC dX12_tangents_5 rfl 0 rfl ?_
    refine g_callVi (As := []) (st' := [.int v3]) (k := a0) (L' := 0) hC Y_X12_places I_X12_places k_1227 ⟨by decide, by decide⟩ h0 (ci := 11) (by decide) rfl dX12_tangents_6 rfl rfl rfl (Nat.le_of_ble_eq_true rfl) ⟨Nat.zero_le _, Nat.zero_le _⟩ hM (fun c hc => c_X12_places (xE X) a0 h0 c hc) (fun c1 hM => ?_)
    refine g_icmp_ge (tgt := 47) hC dX12_tangents_9 rfl (by decide) hM (fun hM => ?_) (fun hM => ?_)
    · refine g_iload_n hC dX12_tangents_47 rfl 2 rfl ?_
      cases hM
      exact g_reti hR dX12_tangents_48 rfl
    · refine g_iload_n hC dX12_tangents_12 rfl 2 rfl ?_
      refine g_aload_n hC dX12_tangents_13 rfl 0 rfl ?_
      refine g_iload_n hC dX12_tangents_14 rfl 3 rfl ?_
      refine g_callVi (As := [.int v3]) (st' := [.int v2]) (k := a0) (L' := 1) hC Y_X12_isOn I_X12_isOn k_1243 ⟨by decide, by decide⟩ h0 (ci := 11) (by decide) rfl dX12_tangents_15 rfl rfl rfl (Nat.le_of_ble_eq_true rfl) ⟨Nat.zero_le _, Nat.zero_le _⟩ hM (fun c hc => c_X12_isOn (xE X) a0 h0 v3 c hc) (fun c2 hM => ?_)
      refine g_if_eq (tgt := 38) hC dX12_tangents_18 rfl (by decide) hM (fun hM => ?_) (fun hM => ?_)
      · exact g_sub [0, 1, 3] ((bX12_tangents_38 hC hml hR a0 a1 h0 rec ih ) _ _ _ hM) rfl
      · refine g_aload_n hC dX12_tangents_21 rfl 0 rfl ?_
        refine g_iload_n hC dX12_tangents_22 rfl 1 rfl ?_
        refine g_aload_n hC dX12_tangents_23 rfl 0 rfl ?_
        refine g_iload_n hC dX12_tangents_24 rfl 3 rfl ?_
        refine g_callVi (As := [.int v3]) (st' := [.int a1, vr X a0, .int v2]) (k := a0) (L' := 2) hC Y_X12_polarOf I_X12_polarOf k_1343 ⟨by decide, by decide⟩ h0 (ci := 11) (by decide) rfl dX12_tangents_25 rfl rfl rfl (Nat.le_of_ble_eq_true rfl) ⟨Nat.zero_le _, Nat.zero_le _⟩ hM (fun c hc => c_X12_polarOf (xE X) a0 h0 v3 c hc) (fun c3 hM => ?_)
        refine g_callVi (As := [.int a1, .int c3.1]) (st' := [.int v2]) (k := a0) (L' := 1) hC Y_X12_isOnLine I_X12_isOnLine k_1235 ⟨by decide, by decide⟩ h0 (ci := 11) (by decide) rfl dX12_tangents_28 rfl rfl rfl (Nat.le_of_ble_eq_true rfl) ⟨Nat.zero_le _, Nat.zero_le _⟩ hM (fun c hc => c_X12_isOnLine (xE X) a0 h0 a1 c3.1 c hc) (fun c4 hM => ?_)
        refine g_if_eq (tgt := 38) hC dX12_tangents_31 rfl (by decide) hM (fun hM => ?_) (fun hM => ?_)
        · exact g_sub [0, 1, 3] ((bX12_tangents_38 hC hml hR a0 a1 h0 rec ih ) _ _ _ hM) rfl
        · refine g_iconst (v := 1) hC dX12_tangents_34 rfl ic_1 ?_
          refine g_goto (tgt := 39) hC dX12_tangents_35 rfl (by decide) ?_
          exact g_sub [0, 1, 3] ((bX12_tangents_39 hC hml hR a0 a1 h0 rec ih ) _ _ _ _ hM) rfl
def MX12_tangents (σ : Sto) (ρ : Rho) (a0 : Nat) (a1 : Int32) : Option (Int32 × Sto) :=
  bn ((0 : Int32)) fun y1 =>
  bn ((0 : Int32)) fun y2 =>
  fixN (fun _ _ _ => none) (FX12_tangents_4 ρ a0 a1) FU σ y1 y2
set_option maxHeartbeats 4000000 in
set_option maxRecDepth 100000 in
theorem c_X12_tangents (E : EX) {n : Nat} {σ : Sto} {ρ : Rho} (a0 : Nat) (h0 : Sh n a0 11) (a1 : Int32) (res : Int32 × Sto) (hM : MX12_tangents σ ρ a0 a1 = some res) : CTi E yX12_tangents cX12_tangents 4 (some .int) 3 [.ref (eb E + a0), .int a1] n σ ρ res.1 res.2 ρ := by
  refine ct_i (by decide +kernel) rfl (Nat.le_of_ble_eq_true rfl) (fun X hE hml hC hR => ?_)
  subst hE
  show G X 0 0 n σ ρ 0 [(0, vr X a0), (1, .int a1)] []
  replace hC : Cx X cX12_tangents RX12 3 := hC
  unfold MX12_tangents at hM
  refine g_iconst (v := 0) hC dX12_tangents_0 rfl ic_0 ?_
  refine g_istore_n hC (fun y1 => [(2, .int y1), (0, vr X a0), (1, .int a1)]) dX12_tangents_1 rfl hM hml (by decide) (fun _ => rfl) (fun y1 hM => ?_)
  refine g_iconst (v := 0) hC dX12_tangents_2 rfl ic_0 ?_
  refine g_istore_n hC (fun y2 => [(3, .int y2), (2, .int y1), (0, vr X a0), (1, .int a1)]) dX12_tangents_3 rfl hM hml (by decide) (fun _ => rfl) (fun y2 hM => ?_)
  exact g_sub [2, 3, 1, 0] ((bX12_tangents_4 hC hml hR a0 a1 h0  FU) _ _ _ hM) rfl
def MX12_liesOf (σ : Sto) (ρ : Rho) (a0 : Nat) (a1 : Int32) (a2 : Int32) : Option (Int32 × Sto) :=
  Option.bind (MX12_isOn σ ρ a0 a1) fun c1 =>
  if c1.1 = 0 then
    if a2 = (4 : Int32) then
      Option.bind (MX12_tangents c1.2 ρ a0 a1) fun c2 =>
      if c2.1 ≤ 0 then
        some ((2 : Int32), c2.2)
      else
        some ((1 : Int32), c2.2)
    else
      some ((3 : Int32), c1.2)
  else
    some ((0 : Int32), c1.2)
set_option maxHeartbeats 4000000 in
set_option maxRecDepth 100000 in
theorem c_X12_liesOf (E : EX) {n : Nat} {σ : Sto} {ρ : Rho} (a0 : Nat) (h0 : Sh n a0 11) (a1 : Int32) (a2 : Int32) (res : Int32 × Sto) (hM : MX12_liesOf σ ρ a0 a1 a2 = some res) : CTi E yX12_liesOf cX12_liesOf 3 (some .int) 4 [.ref (eb E + a0), .int a1, .int a2] n σ ρ res.1 res.2 ρ := by
  refine ct_i (by decide +kernel) rfl (Nat.le_of_ble_eq_true rfl) (fun X hE hml hC hR => ?_)
  subst hE
  show G X 0 0 n σ ρ 0 [(0, vr X a0), (1, .int a1), (2, .int a2)] []
  replace hC : Cx X cX12_liesOf RX12 4 := hC
  unfold MX12_liesOf at hM
  refine g_aload_n hC dX12_liesOf_0 rfl 0 rfl ?_
  refine g_iload_n hC dX12_liesOf_1 rfl 1 rfl ?_
  refine g_callVi (As := [.int a1]) (st' := []) (k := a0) (L' := 1) hC Y_X12_isOn I_X12_isOn k_1243 ⟨by decide, by decide⟩ h0 (ci := 11) (by decide) rfl dX12_liesOf_2 rfl rfl rfl (Nat.le_of_ble_eq_true rfl) ⟨Nat.zero_le _, Nat.zero_le _⟩ hM (fun c hc => c_X12_isOn (xE X) a0 h0 a1 c hc) (fun c1 hM => ?_)
  refine g_if_eq (tgt := 12) hC dX12_liesOf_5 rfl (by decide) hM (fun hM => ?_) (fun hM => ?_)
  · refine g_iload_n hC dX12_liesOf_12 rfl 2 rfl ?_
    refine g_iconst (v := 4) hC dX12_liesOf_13 rfl ic_4 ?_
    refine g_icmp_eq (tgt := 21) hC dX12_liesOf_14 rfl (by decide) hM (fun hM => ?_) (fun hM => ?_)
    · refine g_aload_n hC dX12_liesOf_21 rfl 0 rfl ?_
      refine g_iload_n hC dX12_liesOf_22 rfl 1 rfl ?_
      refine g_callVi (As := [.int a1]) (st' := []) (k := a0) (L' := 3) hC Y_X12_tangents I_X12_tangents k_1339 ⟨by decide, by decide⟩ h0 (ci := 11) (by decide) rfl dX12_liesOf_23 rfl rfl rfl (Nat.le_of_ble_eq_true rfl) ⟨Nat.zero_le _, Nat.zero_le _⟩ hM (fun c hc => c_X12_tangents (xE X) a0 h0 a1 c hc) (fun c2 hM => ?_)
      refine g_if_le (tgt := 33) hC dX12_liesOf_26 rfl (by decide) hM (fun hM => ?_) (fun hM => ?_)
      · refine g_iconst (v := 2) hC dX12_liesOf_33 rfl ic_2 ?_
        cases hM
        exact g_reti hR dX12_liesOf_34 rfl
      · refine g_iconst (v := 1) hC dX12_liesOf_29 rfl ic_1 ?_
        refine g_goto (tgt := 34) hC dX12_liesOf_30 rfl (by decide) ?_
        cases hM
        exact g_reti hR dX12_liesOf_34 rfl
    · refine g_iconst (v := 3) hC dX12_liesOf_17 rfl ic_3 ?_
      refine g_goto (tgt := 34) hC dX12_liesOf_18 rfl (by decide) ?_
      cases hM
      exact g_reti hR dX12_liesOf_34 rfl
  · refine g_iconst (v := 0) hC dX12_liesOf_8 rfl ic_0 ?_
    refine g_goto (tgt := 34) hC dX12_liesOf_9 rfl (by decide) ?_
    cases hM
    exact g_reti hR dX12_liesOf_34 rfl
def BX12_sided_28 (ρ : Rho) (a0 : Nat) (a1 : Int32) (rec : Sto → Int32 → Int32 → Option (Int32 × Sto)) (σ : Sto) (v3 : Int32) (t0 : Int32) (t1 : Int32) : Option (Int32 × Sto) :=
  bn ((t0 + t1)) fun y1 =>
  bn (v3 + (1 : Int32)) fun y2 =>
  rec σ y1 y2
set_option maxHeartbeats 4000000 in
set_option maxRecDepth 100000 in
theorem bX12_sided_28 {X : CX} {n : Nat} {ρ : Rho} {res : Int32 × Sto} (hC : Cx X cX12_sided RX12 5) (hml : (xc X).maxLocals = 4) (hR : RtT (some .int) X cX12_sided n res.1 res.2 ρ) (a0 : Nat) (a1 : Int32) (h0 : Sh n a0 11) (rec : Sto → Int32 → Int32 → Option (Int32 × Sto)) (ih : ∀ (σ : Sto) (v2 : Int32) (v3 : Int32), rec σ v2 v3 = some res → G X 0 0 n σ ρ 4 [(0, vr X a0), (1, .int a1), (2, .int v2), (3, .int v3)] []) : ∀ (σ : Sto) (v3 : Int32) (t0 : Int32) (t1 : Int32), BX12_sided_28 ρ a0 a1 rec σ v3 t0 t1 = some res → G X 0 0 n σ ρ 28 [(0, vr X a0), (1, .int a1), (3, .int v3)] [.int t1, .int t0] := by
  intro σ v3 t0 t1 hM
  unfold BX12_sided_28 at hM
  refine g_iadd hC dX12_sided_28 rfl ?_
  refine g_istore_n hC (fun y1 => [(2, .int y1), (0, vr X a0), (1, .int a1), (3, .int v3)]) dX12_sided_29 rfl hM hml (by decide) (fun _ => rfl) (fun y1 hM => ?_)
  refine g_iinc (v := 1) hC (fun y2 => [(3, .int y2), (2, .int y1), (0, vr X a0), (1, .int a1)]) dX12_sided_30 rfl hM (j := 3) rfl ic_1 hml (by decide) (fun _ => rfl) (fun y2 hM => ?_)
  refine g_goto (tgt := 4) hC dX12_sided_33 rfl (by decide) ?_
  exact g_sub [2, 3, 1, 0] (ih _ _ _ hM) rfl
def FX12_sided_4 (ρ : Rho) (a0 : Nat) (a1 : Int32) (rec : Sto → Int32 → Int32 → Option (Int32 × Sto)) (σ : Sto) (v2 : Int32) (v3 : Int32) : Option (Int32 × Sto) :=
  Option.bind (MX12_places σ a0) fun c1 =>
  if c1 ≤ v3 then
    some (v2, σ)
  else
    Option.bind (MX12_liesOf σ ρ a0 v3 ((4 : Int32))) fun c2 =>
    if c2.1 = a1 then
      BX12_sided_28 ρ a0 a1 rec c2.2 v3 v2 ((1 : Int32))
    else
      BX12_sided_28 ρ a0 a1 rec c2.2 v3 v2 ((0 : Int32))
set_option maxHeartbeats 4000000 in
set_option maxRecDepth 100000 in
theorem bX12_sided_4 {X : CX} {n : Nat} {ρ : Rho} {res : Int32 × Sto} (hC : Cx X cX12_sided RX12 5) (hml : (xc X).maxLocals = 4) (hR : RtT (some .int) X cX12_sided n res.1 res.2 ρ) (a0 : Nat) (a1 : Int32) (h0 : Sh n a0 11) (fu : Nat) : ∀ (σ : Sto) (v2 : Int32) (v3 : Int32), fixN (fun _ _ _ => none) (FX12_sided_4 ρ a0 a1) fu σ v2 v3 = some res → G X 0 0 n σ ρ 4 [(0, vr X a0), (1, .int a1), (2, .int v2), (3, .int v3)] [] := by
  refine fixN_ind (P := fun (f : Sto → Int32 → Int32 → Option (Int32 × Sto)) => ∀ (σ : Sto) (v2 : Int32) (v3 : Int32), f σ v2 v3 = some res → G X 0 0 n σ ρ 4 [(0, vr X a0), (1, .int a1), (2, .int v2), (3, .int v3)] []) ?_ ?_ fu
  · intro σ v2 v3 hM; cases hM
  · intro rec ih σ v2 v3 hM
    unfold FX12_sided_4 at hM
    refine g_iload_n hC dX12_sided_4 rfl 3 rfl ?_
    refine g_aload_n hC dX12_sided_5 rfl 0 rfl ?_
    refine g_callVi (As := []) (st' := [.int v3]) (k := a0) (L' := 0) hC Y_X12_places I_X12_places k_1227 ⟨by decide, by decide⟩ h0 (ci := 11) (by decide) rfl dX12_sided_6 rfl rfl rfl (Nat.le_of_ble_eq_true rfl) ⟨Nat.zero_le _, Nat.zero_le _⟩ hM (fun c hc => c_X12_places (xE X) a0 h0 c hc) (fun c1 hM => ?_)
    refine g_icmp_ge (tgt := 36) hC dX12_sided_9 rfl (by decide) hM (fun hM => ?_) (fun hM => ?_)
    · refine g_iload_n hC dX12_sided_36 rfl 2 rfl ?_
      cases hM
      exact g_reti hR dX12_sided_37 rfl
    · refine g_iload_n hC dX12_sided_12 rfl 2 rfl ?_
      refine g_aload_n hC dX12_sided_13 rfl 0 rfl ?_
      refine g_iload_n hC dX12_sided_14 rfl 3 rfl ?_
      refine g_iconst (v := 4) hC dX12_sided_15 rfl ic_4 ?_
      refine g_callVi (As := [.int v3, .int ((4 : Int32))]) (st' := [.int v2]) (k := a0) (L' := 4) hC Y_X12_liesOf I_X12_liesOf k_1335 ⟨by decide, by decide⟩ h0 (ci := 11) (by decide) rfl dX12_sided_16 rfl rfl rfl (Nat.le_of_ble_eq_true rfl) ⟨Nat.zero_le _, Nat.zero_le _⟩ hM (fun c hc => c_X12_liesOf (xE X) a0 h0 v3 ((4 : Int32)) c hc) (fun c2 hM => ?_)
      refine g_iload_n hC dX12_sided_19 rfl 1 rfl ?_
      refine g_icmp_ne (tgt := 27) hC dX12_sided_20 rfl (by decide) hM (fun hM => ?_) (fun hM => ?_)
      · refine g_iconst (v := 0) hC dX12_sided_27 rfl ic_0 ?_
        exact g_sub [0, 1, 3] ((bX12_sided_28 hC hml hR a0 a1 h0 rec ih ) _ _ _ _ hM) rfl
      · refine g_iconst (v := 1) hC dX12_sided_23 rfl ic_1 ?_
        refine g_goto (tgt := 28) hC dX12_sided_24 rfl (by decide) ?_
        exact g_sub [0, 1, 3] ((bX12_sided_28 hC hml hR a0 a1 h0 rec ih ) _ _ _ _ hM) rfl
def MX12_sided (σ : Sto) (ρ : Rho) (a0 : Nat) (a1 : Int32) : Option (Int32 × Sto) :=
  bn ((0 : Int32)) fun y1 =>
  bn ((0 : Int32)) fun y2 =>
  fixN (fun _ _ _ => none) (FX12_sided_4 ρ a0 a1) FU σ y1 y2
set_option maxHeartbeats 4000000 in
set_option maxRecDepth 100000 in
theorem c_X12_sided (E : EX) {n : Nat} {σ : Sto} {ρ : Rho} (a0 : Nat) (h0 : Sh n a0 11) (a1 : Int32) (res : Int32 × Sto) (hM : MX12_sided σ ρ a0 a1 = some res) : CTi E yX12_sided cX12_sided 4 (some .int) 5 [.ref (eb E + a0), .int a1] n σ ρ res.1 res.2 ρ := by
  refine ct_i (by decide +kernel) rfl (Nat.le_of_ble_eq_true rfl) (fun X hE hml hC hR => ?_)
  subst hE
  show G X 0 0 n σ ρ 0 [(0, vr X a0), (1, .int a1)] []
  replace hC : Cx X cX12_sided RX12 5 := hC
  unfold MX12_sided at hM
  refine g_iconst (v := 0) hC dX12_sided_0 rfl ic_0 ?_
  refine g_istore_n hC (fun y1 => [(2, .int y1), (0, vr X a0), (1, .int a1)]) dX12_sided_1 rfl hM hml (by decide) (fun _ => rfl) (fun y1 hM => ?_)
  refine g_iconst (v := 0) hC dX12_sided_2 rfl ic_0 ?_
  refine g_istore_n hC (fun y2 => [(3, .int y2), (2, .int y1), (0, vr X a0), (1, .int a1)]) dX12_sided_3 rfl hM hml (by decide) (fun _ => rfl) (fun y2 hM => ?_)
  exact g_sub [2, 3, 1, 0] ((bX12_sided_4 hC hml hR a0 a1 h0  FU) _ _ _ hM) rfl
def MX12_told (σ : Sto) (ρ : Rho) (a0 : Nat) (a1 : Int32) (a2 : Int32) : Option (Int32) :=
  bn (((6 : Int32) * a1)) fun y1 =>
  Option.bind (ρ a0 0) fun j2 =>
  Option.bind (ag σ j2 y1) fun x3 =>
  bn x3 fun y4 =>
  Option.bind (ρ a0 0) fun j5 =>
  Option.bind (ag σ j5 ((y1 + (1 : Int32)))) fun x6 =>
  bn x6 fun y7 =>
  Option.bind (ρ a0 0) fun j8 =>
  Option.bind (ag σ j8 ((y1 + (2 : Int32)))) fun x9 =>
  bn x9 fun y10 =>
  Option.bind (ρ a0 0) fun j11 =>
  Option.bind (ag σ j11 ((y1 + (3 : Int32)))) fun x12 =>
  bn x12 fun y13 =>
  Option.bind (ρ a0 0) fun j14 =>
  Option.bind (ag σ j14 ((y1 + (4 : Int32)))) fun x15 =>
  bn x15 fun y16 =>
  Option.bind (ρ a0 0) fun j17 =>
  Option.bind (ag σ j17 ((y1 + (5 : Int32)))) fun x18 =>
  bn x18 fun y19 =>
  if a2 = (3 : Int32) then
    some ((((4 : Int32) * y4) * y7) - (y19 * y19))
  else
    if a2 = (4 : Int32) then
      some ((((((((8 : Int32) * y4) * y7) * y10) + ((((2 : Int32) * y13) * y16) * y19)) - ((((2 : Int32) * y4) * y13) * y13)) - ((((2 : Int32) * y7) * y16) * y16)) - ((((2 : Int32) * y10) * y19) * y19))
    else
      some ((((((4 : Int32) * y7) * y10) - (y13 * y13)) + (((4 : Int32) * y4) * y10)) - (y16 * y16))
set_option maxHeartbeats 4000000 in
set_option maxRecDepth 100000 in
theorem c_X12_told (E : EX) {n : Nat} {σ : Sto} {ρ : Rho} (a0 : Nat) (h0 : Sh n a0 11) (a1 : Int32) (a2 : Int32) (res : Int32) (hM : MX12_told σ ρ a0 a1 a2 = some res) : CTi E yX12_told cX12_told 10 (some .int) 0 [.ref (eb E + a0), .int a1, .int a2] n σ ρ res σ ρ := by
  refine ct_i (by decide +kernel) rfl (Nat.le_of_ble_eq_true rfl) (fun X hE hml hC hR => ?_)
  subst hE
  show G X 0 0 n σ ρ 0 [(0, vr X a0), (1, .int a1), (2, .int a2)] []
  replace hC : Cx X cX12_told RX12 0 := hC
  unfold MX12_told at hM
  refine g_bipush (v := 6) hC dX12_told_0 rfl ib_6 ?_
  refine g_iload_n hC dX12_told_2 rfl 1 rfl ?_
  refine g_imul hC dX12_told_3 rfl ?_
  refine g_istore_n hC (fun y1 => [(3, .int y1), (0, vr X a0), (1, .int a1), (2, .int a2)]) dX12_told_4 rfl hM hml (by decide) (fun _ => rfl) (fun y1 hM => ?_)
  refine g_aload_n hC dX12_told_5 rfl 1 rfl ?_
  refine fg_11_0 hC h0 k_1082 dX12_told_6 rfl hM (fun j2 hj2 hM => ?_)
  refine g_iload_n hC dX12_told_9 rfl 0 rfl ?_
  refine g_iald hC hj2 dX12_told_10 rfl hM (fun x3 hM => ?_)
  refine g_istore hC (fun y4 => [(4, .int y4), (3, .int y1), (0, vr X a0), (1, .int a1), (2, .int a2)]) dX12_told_11 rfl hM hml (by decide) (fun _ => rfl) (fun y4 hM => ?_)
  refine g_aload_n hC dX12_told_13 rfl 2 rfl ?_
  refine fg_11_0 hC h0 k_1082 dX12_told_14 rfl hM (fun j5 hj5 hM => ?_)
  refine g_iload_n hC dX12_told_17 rfl 1 rfl ?_
  refine g_iconst (v := 1) hC dX12_told_18 rfl ic_1 ?_
  refine g_iadd hC dX12_told_19 rfl ?_
  refine g_iald hC hj5 dX12_told_20 rfl hM (fun x6 hM => ?_)
  refine g_istore hC (fun y7 => [(5, .int y7), (4, .int y4), (3, .int y1), (0, vr X a0), (1, .int a1), (2, .int a2)]) dX12_told_21 rfl hM hml (by decide) (fun _ => rfl) (fun y7 hM => ?_)
  refine g_aload_n hC dX12_told_23 rfl 3 rfl ?_
  refine fg_11_0 hC h0 k_1082 dX12_told_24 rfl hM (fun j8 hj8 hM => ?_)
  refine g_iload_n hC dX12_told_27 rfl 2 rfl ?_
  refine g_iconst (v := 2) hC dX12_told_28 rfl ic_2 ?_
  refine g_iadd hC dX12_told_29 rfl ?_
  refine g_iald hC hj8 dX12_told_30 rfl hM (fun x9 hM => ?_)
  refine g_istore hC (fun y10 => [(6, .int y10), (5, .int y7), (4, .int y4), (3, .int y1), (0, vr X a0), (1, .int a1), (2, .int a2)]) dX12_told_31 rfl hM hml (by decide) (fun _ => rfl) (fun y10 hM => ?_)
  refine g_aload_n hC dX12_told_33 rfl 4 rfl ?_
  refine fg_11_0 hC h0 k_1082 dX12_told_34 rfl hM (fun j11 hj11 hM => ?_)
  refine g_iload_n hC dX12_told_37 rfl 3 rfl ?_
  refine g_iconst (v := 3) hC dX12_told_38 rfl ic_3 ?_
  refine g_iadd hC dX12_told_39 rfl ?_
  refine g_iald hC hj11 dX12_told_40 rfl hM (fun x12 hM => ?_)
  refine g_istore hC (fun y13 => [(7, .int y13), (6, .int y10), (5, .int y7), (4, .int y4), (3, .int y1), (0, vr X a0), (1, .int a1), (2, .int a2)]) dX12_told_41 rfl hM hml (by decide) (fun _ => rfl) (fun y13 hM => ?_)
  refine g_aload_n hC dX12_told_43 rfl 5 rfl ?_
  refine fg_11_0 hC h0 k_1082 dX12_told_44 rfl hM (fun j14 hj14 hM => ?_)
  refine g_iload_n hC dX12_told_47 rfl 4 rfl ?_
  refine g_iconst (v := 4) hC dX12_told_48 rfl ic_4 ?_
  refine g_iadd hC dX12_told_49 rfl ?_
  refine g_iald hC hj14 dX12_told_50 rfl hM (fun x15 hM => ?_)
  refine g_istore hC (fun y16 => [(8, .int y16), (7, .int y13), (6, .int y10), (5, .int y7), (4, .int y4), (3, .int y1), (0, vr X a0), (1, .int a1), (2, .int a2)]) dX12_told_51 rfl hM hml (by decide) (fun _ => rfl) (fun y16 hM => ?_)
  refine g_aload_n hC dX12_told_53 rfl 6 rfl ?_
  refine fg_11_0 hC h0 k_1082 dX12_told_54 rfl hM (fun j17 hj17 hM => ?_)
  refine g_iload_n hC dX12_told_57 rfl 5 rfl ?_
  refine g_iconst (v := 5) hC dX12_told_58 rfl ic_5 ?_
  refine g_iadd hC dX12_told_59 rfl ?_
  refine g_iald hC hj17 dX12_told_60 rfl hM (fun x18 hM => ?_)
  refine g_istore hC (fun y19 => [(9, .int y19), (8, .int y16), (7, .int y13), (6, .int y10), (5, .int y7), (4, .int y4), (3, .int y1), (0, vr X a0), (1, .int a1), (2, .int a2)]) dX12_told_61 rfl hM hml (by decide) (fun _ => rfl) (fun y19 hM => ?_)
  refine g_iload_n hC dX12_told_63 rfl 9 rfl ?_
  refine g_iconst (v := 3) hC dX12_told_64 rfl ic_3 ?_
  refine g_icmp_ne (tgt := 84) hC dX12_told_65 rfl (by decide) hM (fun hM => ?_) (fun hM => ?_)
  · refine g_iload_n hC dX12_told_84 rfl 9 rfl ?_
    refine g_iconst (v := 4) hC dX12_told_85 rfl ic_4 ?_
    refine g_icmp_ne (tgt := 147) hC dX12_told_86 rfl (by decide) hM (fun hM => ?_) (fun hM => ?_)
    · refine g_iconst (v := 4) hC dX12_told_147 rfl ic_4 ?_
      refine g_iload hC dX12_told_148 rfl 4 rfl ?_
      refine g_imul hC dX12_told_150 rfl ?_
      refine g_iload hC dX12_told_151 rfl 3 rfl ?_
      refine g_imul hC dX12_told_153 rfl ?_
      refine g_iload hC dX12_told_154 rfl 2 rfl ?_
      refine g_iload hC dX12_told_156 rfl 2 rfl ?_
      refine g_imul hC dX12_told_158 rfl ?_
      refine g_isub hC dX12_told_159 rfl ?_
      refine g_iconst (v := 4) hC dX12_told_160 rfl ic_4 ?_
      refine g_iload hC dX12_told_161 rfl 5 rfl ?_
      refine g_imul hC dX12_told_163 rfl ?_
      refine g_iload hC dX12_told_164 rfl 3 rfl ?_
      refine g_imul hC dX12_told_166 rfl ?_
      refine g_iadd hC dX12_told_167 rfl ?_
      refine g_iload hC dX12_told_168 rfl 1 rfl ?_
      refine g_iload hC dX12_told_170 rfl 1 rfl ?_
      refine g_imul hC dX12_told_172 rfl ?_
      refine g_isub hC dX12_told_173 rfl ?_
      obtain rfl := Option.some.inj hM
      exact g_reti hR dX12_told_174 rfl
    · refine g_bipush (v := 8) hC dX12_told_89 rfl ib_8 ?_
      refine g_iload hC dX12_told_91 rfl 5 rfl ?_
      refine g_imul hC dX12_told_93 rfl ?_
      refine g_iload hC dX12_told_94 rfl 4 rfl ?_
      refine g_imul hC dX12_told_96 rfl ?_
      refine g_iload hC dX12_told_97 rfl 3 rfl ?_
      refine g_imul hC dX12_told_99 rfl ?_
      refine g_iconst (v := 2) hC dX12_told_100 rfl ic_2 ?_
      refine g_iload hC dX12_told_101 rfl 2 rfl ?_
      refine g_imul hC dX12_told_103 rfl ?_
      refine g_iload hC dX12_told_104 rfl 1 rfl ?_
      refine g_imul hC dX12_told_106 rfl ?_
      refine g_iload hC dX12_told_107 rfl 0 rfl ?_
      refine g_imul hC dX12_told_109 rfl ?_
      refine g_iadd hC dX12_told_110 rfl ?_
      refine g_iconst (v := 2) hC dX12_told_111 rfl ic_2 ?_
      refine g_iload hC dX12_told_112 rfl 5 rfl ?_
      refine g_imul hC dX12_told_114 rfl ?_
      refine g_iload hC dX12_told_115 rfl 2 rfl ?_
      refine g_imul hC dX12_told_117 rfl ?_
      refine g_iload hC dX12_told_118 rfl 2 rfl ?_
      refine g_imul hC dX12_told_120 rfl ?_
      refine g_isub hC dX12_told_121 rfl ?_
      refine g_iconst (v := 2) hC dX12_told_122 rfl ic_2 ?_
      refine g_iload hC dX12_told_123 rfl 4 rfl ?_
      refine g_imul hC dX12_told_125 rfl ?_
      refine g_iload hC dX12_told_126 rfl 1 rfl ?_
      refine g_imul hC dX12_told_128 rfl ?_
      refine g_iload hC dX12_told_129 rfl 1 rfl ?_
      refine g_imul hC dX12_told_131 rfl ?_
      refine g_isub hC dX12_told_132 rfl ?_
      refine g_iconst (v := 2) hC dX12_told_133 rfl ic_2 ?_
      refine g_iload hC dX12_told_134 rfl 3 rfl ?_
      refine g_imul hC dX12_told_136 rfl ?_
      refine g_iload hC dX12_told_137 rfl 0 rfl ?_
      refine g_imul hC dX12_told_139 rfl ?_
      refine g_iload hC dX12_told_140 rfl 0 rfl ?_
      refine g_imul hC dX12_told_142 rfl ?_
      refine g_isub hC dX12_told_143 rfl ?_
      refine g_goto (tgt := 174) hC dX12_told_144 rfl (by decide) ?_
      obtain rfl := Option.some.inj hM
      exact g_reti hR dX12_told_174 rfl
  · refine g_iconst (v := 4) hC dX12_told_68 rfl ic_4 ?_
    refine g_iload hC dX12_told_69 rfl 5 rfl ?_
    refine g_imul hC dX12_told_71 rfl ?_
    refine g_iload hC dX12_told_72 rfl 4 rfl ?_
    refine g_imul hC dX12_told_74 rfl ?_
    refine g_iload hC dX12_told_75 rfl 0 rfl ?_
    refine g_iload hC dX12_told_77 rfl 0 rfl ?_
    refine g_imul hC dX12_told_79 rfl ?_
    refine g_isub hC dX12_told_80 rfl ?_
    refine g_goto (tgt := 174) hC dX12_told_81 rfl (by decide) ?_
    obtain rfl := Option.some.inj hM
    exact g_reti hR dX12_told_174 rfl
def BX12_turned_34 (a0 : Int32) (a1 : Int32) (t0 : Int32) (t1 : Int32) : Option (Int32) :=
  some (t0 * t1)
set_option maxHeartbeats 4000000 in
set_option maxRecDepth 100000 in
theorem bX12_turned_34 {X : CX} {n : Nat} {σ : Sto} {ρ : Rho} {res : Int32} (hC : Cx X cX12_turned RX12 0) (hml : (xc X).maxLocals = 2) (hR : RtT (some .int) X cX12_turned n res σ ρ) (a0 : Int32) (a1 : Int32) : ∀ (t0 : Int32) (t1 : Int32), BX12_turned_34 a0 a1 t0 t1 = some res → G X 0 0 n σ ρ 34 [(0, .int a0), (1, .int a1)] [.int t1, .int t0] := by
  intro t0 t1 hM
  unfold BX12_turned_34 at hM
  refine g_imul hC dX12_turned_34 rfl ?_
  cases hM
  exact g_reti hR dX12_turned_35 rfl
def BX12_turned_17 (a0 : Int32) (a1 : Int32) (t0 : Int32) : Option (Int32) :=
  if 0 ≤ a1 then
    if a1 ≤ 0 then
      BX12_turned_34 a0 a1 t0 ((0 : Int32))
    else
      BX12_turned_34 a0 a1 t0 ((1 : Int32))
  else
    BX12_turned_34 a0 a1 t0 ((-1 : Int32))
set_option maxHeartbeats 4000000 in
set_option maxRecDepth 100000 in
theorem bX12_turned_17 {X : CX} {n : Nat} {σ : Sto} {ρ : Rho} {res : Int32} (hC : Cx X cX12_turned RX12 0) (hml : (xc X).maxLocals = 2) (hR : RtT (some .int) X cX12_turned n res σ ρ) (a0 : Int32) (a1 : Int32) : ∀ (t0 : Int32), BX12_turned_17 a0 a1 t0 = some res → G X 0 0 n σ ρ 17 [(0, .int a0), (1, .int a1)] [.int t0] := by
  intro t0 hM
  unfold BX12_turned_17 at hM
  refine g_iload_n hC dX12_turned_17 rfl 1 rfl ?_
  refine g_if_ge (tgt := 25) hC dX12_turned_18 rfl (by decide) hM (fun hM => ?_) (fun hM => ?_)
  · refine g_iload_n hC dX12_turned_25 rfl 1 rfl ?_
    refine g_if_le (tgt := 33) hC dX12_turned_26 rfl (by decide) hM (fun hM => ?_) (fun hM => ?_)
    · refine g_iconst (v := 0) hC dX12_turned_33 rfl ic_0 ?_
      exact g_sub [0, 1] ((bX12_turned_34 hC hml hR a0 a1 ) _ _ hM) rfl
    · refine g_iconst (v := 1) hC dX12_turned_29 rfl ic_1 ?_
      refine g_goto (tgt := 34) hC dX12_turned_30 rfl (by decide) ?_
      exact g_sub [0, 1] ((bX12_turned_34 hC hml hR a0 a1 ) _ _ hM) rfl
  · refine g_iconst (v := -1) hC dX12_turned_21 rfl ic_m1 ?_
    refine g_goto (tgt := 34) hC dX12_turned_22 rfl (by decide) ?_
    exact g_sub [0, 1] ((bX12_turned_34 hC hml hR a0 a1 ) _ _ hM) rfl
def MX12_turned (a0 : Int32) (a1 : Int32) : Option (Int32) :=
  if 0 ≤ a0 then
    if a0 ≤ 0 then
      BX12_turned_17 a0 a1 ((0 : Int32))
    else
      BX12_turned_17 a0 a1 ((1 : Int32))
  else
    BX12_turned_17 a0 a1 ((-1 : Int32))
set_option maxHeartbeats 4000000 in
set_option maxRecDepth 100000 in
theorem c_X12_turned (E : EX) {n : Nat} {σ : Sto} {ρ : Rho} (a0 : Int32) (a1 : Int32) (res : Int32) (hM : MX12_turned a0 a1 = some res) : CTi E yX12_turned cX12_turned 2 (some .int) 0 [.int a0, .int a1] n σ ρ res σ ρ := by
  refine ct_i (by decide +kernel) rfl (Nat.le_of_ble_eq_true rfl) (fun X hE hml hC hR => ?_)
  subst hE
  show G X 0 0 n σ ρ 0 [(0, .int a0), (1, .int a1)] []
  replace hC : Cx X cX12_turned RX12 0 := hC
  unfold MX12_turned at hM
  refine g_iload_n hC dX12_turned_0 rfl 0 rfl ?_
  refine g_if_ge (tgt := 8) hC dX12_turned_1 rfl (by decide) hM (fun hM => ?_) (fun hM => ?_)
  · refine g_iload_n hC dX12_turned_8 rfl 0 rfl ?_
    refine g_if_le (tgt := 16) hC dX12_turned_9 rfl (by decide) hM (fun hM => ?_) (fun hM => ?_)
    · refine g_iconst (v := 0) hC dX12_turned_16 rfl ic_0 ?_
      exact g_sub [0, 1] ((bX12_turned_17 hC hml hR a0 a1 ) _ hM) rfl
    · refine g_iconst (v := 1) hC dX12_turned_12 rfl ic_1 ?_
      refine g_goto (tgt := 17) hC dX12_turned_13 rfl (by decide) ?_
      exact g_sub [0, 1] ((bX12_turned_17 hC hml hR a0 a1 ) _ hM) rfl
  · refine g_iconst (v := -1) hC dX12_turned_4 rfl ic_m1 ?_
    refine g_goto (tgt := 17) hC dX12_turned_5 rfl (by decide) ?_
    exact g_sub [0, 1] ((bX12_turned_17 hC hml hR a0 a1 ) _ hM) rfl
def BX12_sort_123 (σ : Sto) (ρ : Rho) (a0 : Nat) (a1 : Int32) (v5 : Int32) : Option (Int32) :=
  if 0 ≤ v5 then
    if v5 ≤ 0 then
      some (8 : Int32)
    else
      some (7 : Int32)
  else
    some (6 : Int32)
set_option maxHeartbeats 4000000 in
set_option maxRecDepth 100000 in
theorem bX12_sort_123 {X : CX} {n : Nat} {σ : Sto} {ρ : Rho} {res : Int32} (hC : Cx X cX12_sort RX12 1) (hml : (xc X).maxLocals = 6) (hR : RtT (some .int) X cX12_sort n res σ ρ) (a0 : Nat) (a1 : Int32) (h0 : Sh n a0 11) : ∀ (v5 : Int32), BX12_sort_123 σ ρ a0 a1 v5 = some res → G X 0 0 n σ ρ 123 [(0, vr X a0), (1, .int a1), (5, .int v5)] [] := by
  intro v5 hM
  unfold BX12_sort_123 at hM
  refine g_iload hC dX12_sort_123 rfl 2 rfl ?_
  refine g_if_ge (tgt := 133) hC dX12_sort_125 rfl (by decide) hM (fun hM => ?_) (fun hM => ?_)
  · refine g_iload hC dX12_sort_133 rfl 2 rfl ?_
    refine g_if_le (tgt := 143) hC dX12_sort_135 rfl (by decide) hM (fun hM => ?_) (fun hM => ?_)
    · refine g_bipush (v := 8) hC dX12_sort_143 rfl ib_8 ?_
      cases hM
      exact g_reti hR dX12_sort_145 rfl
    · refine g_bipush (v := 7) hC dX12_sort_138 rfl ib_7 ?_
      refine g_goto (tgt := 145) hC dX12_sort_140 rfl (by decide) ?_
      cases hM
      exact g_reti hR dX12_sort_145 rfl
  · refine g_bipush (v := 6) hC dX12_sort_128 rfl ib_6 ?_
    refine g_goto (tgt := 145) hC dX12_sort_130 rfl (by decide) ?_
    cases hM
    exact g_reti hR dX12_sort_145 rfl
def MX12_sort (σ : Sto) (ρ : Rho) (a0 : Nat) (a1 : Int32) : Option (Int32) :=
  bn (((6 : Int32) * a1)) fun y1 =>
  Option.bind (MX12_told σ ρ a0 a1 ((3 : Int32))) fun c2 =>
  bn c2 fun y3 =>
  Option.bind (MX12_told σ ρ a0 a1 ((4 : Int32))) fun c4 =>
  bn c4 fun y5 =>
  Option.bind (MX12_told σ ρ a0 a1 ((5 : Int32))) fun c6 =>
  bn c6 fun y7 =>
  if y5 = 0 then
    if y3 = 0 then
      Option.bind (ρ a0 0) fun j8 =>
      Option.bind (ag σ j8 y1) fun x9 =>
      if x9 = 0 then
        Option.bind (ρ a0 0) fun j10 =>
        Option.bind (ag σ j10 ((y1 + (1 : Int32)))) fun x11 =>
        if x11 = 0 then
          Option.bind (ρ a0 0) fun j12 =>
          Option.bind (ag σ j12 ((y1 + (5 : Int32)))) fun x13 =>
          if x13 = 0 then
            Option.bind (ρ a0 0) fun j14 =>
            Option.bind (ag σ j14 ((y1 + (3 : Int32)))) fun x15 =>
            if x15 = 0 then
              Option.bind (ρ a0 0) fun j16 =>
              Option.bind (ag σ j16 ((y1 + (4 : Int32)))) fun x17 =>
              if x17 = 0 then
                some (10 : Int32)
              else
                some (9 : Int32)
            else
              some (9 : Int32)
          else
            BX12_sort_123 σ ρ a0 a1 y7
        else
          BX12_sort_123 σ ρ a0 a1 y7
      else
        BX12_sort_123 σ ρ a0 a1 y7
    else
      if y3 ≤ 0 then
        some (5 : Int32)
      else
        some (4 : Int32)
  else
    if y3 ≤ 0 then
      if y3 = 0 then
        some (2 : Int32)
      else
        some (3 : Int32)
    else
      Option.bind (ρ a0 0) fun j18 =>
      Option.bind (ag σ j18 y1) fun x19 =>
      Option.bind (ρ a0 0) fun j20 =>
      Option.bind (ag σ j20 ((y1 + (1 : Int32)))) fun x21 =>
      Option.bind (MX12_turned y5 ((x19 + x21))) fun c22 =>
      if 0 ≤ c22 then
        some (1 : Int32)
      else
        some (0 : Int32)
set_option maxHeartbeats 4000000 in
set_option maxRecDepth 100000 in
theorem c_X12_sort (E : EX) {n : Nat} {σ : Sto} {ρ : Rho} (a0 : Nat) (h0 : Sh n a0 11) (a1 : Int32) (res : Int32) (hM : MX12_sort σ ρ a0 a1 = some res) : CTi E yX12_sort cX12_sort 6 (some .int) 1 [.ref (eb E + a0), .int a1] n σ ρ res σ ρ := by
  refine ct_i (by decide +kernel) rfl (Nat.le_of_ble_eq_true rfl) (fun X hE hml hC hR => ?_)
  subst hE
  show G X 0 0 n σ ρ 0 [(0, vr X a0), (1, .int a1)] []
  replace hC : Cx X cX12_sort RX12 1 := hC
  unfold MX12_sort at hM
  refine g_bipush (v := 6) hC dX12_sort_0 rfl ib_6 ?_
  refine g_iload_n hC dX12_sort_2 rfl 1 rfl ?_
  refine g_imul hC dX12_sort_3 rfl ?_
  refine g_istore_n hC (fun y1 => [(2, .int y1), (0, vr X a0), (1, .int a1)]) dX12_sort_4 rfl hM hml (by decide) (fun _ => rfl) (fun y1 hM => ?_)
  refine g_aload_n hC dX12_sort_5 rfl 1 rfl ?_
  refine g_iload_n hC dX12_sort_6 rfl 2 rfl ?_
  refine g_iconst (v := 3) hC dX12_sort_7 rfl ic_3 ?_
  refine g_callVi (As := [.int a1, .int ((3 : Int32))]) (st' := []) (k := a0) (L' := 0) hC Y_X12_told I_X12_told k_1320 ⟨by decide, by decide⟩ h0 (ci := 11) (by decide) rfl dX12_sort_8 rfl rfl rfl (Nat.le_of_ble_eq_true rfl) ⟨Nat.zero_le _, Nat.zero_le _⟩ hM (fun c hc => c_X12_told (xE X) a0 h0 a1 ((3 : Int32)) c hc) (fun c2 hM => ?_)
  refine g_istore_n hC (fun y3 => [(3, .int y3), (2, .int y1), (0, vr X a0), (1, .int a1)]) dX12_sort_11 rfl hM hml (by decide) (fun _ => rfl) (fun y3 hM => ?_)
  refine g_aload_n hC dX12_sort_12 rfl 2 rfl ?_
  refine g_iload_n hC dX12_sort_13 rfl 3 rfl ?_
  refine g_iconst (v := 4) hC dX12_sort_14 rfl ic_4 ?_
  refine g_callVi (As := [.int a1, .int ((4 : Int32))]) (st' := []) (k := a0) (L' := 0) hC Y_X12_told I_X12_told k_1320 ⟨by decide, by decide⟩ h0 (ci := 11) (by decide) rfl dX12_sort_15 rfl rfl rfl (Nat.le_of_ble_eq_true rfl) ⟨Nat.zero_le _, Nat.zero_le _⟩ hM (fun c hc => c_X12_told (xE X) a0 h0 a1 ((4 : Int32)) c hc) (fun c4 hM => ?_)
  refine g_istore hC (fun y5 => [(4, .int y5), (3, .int y3), (2, .int y1), (0, vr X a0), (1, .int a1)]) dX12_sort_18 rfl hM hml (by decide) (fun _ => rfl) (fun y5 hM => ?_)
  refine g_aload_n hC dX12_sort_20 rfl 3 rfl ?_
  refine g_iload_n hC dX12_sort_21 rfl 4 rfl ?_
  refine g_iconst (v := 5) hC dX12_sort_22 rfl ic_5 ?_
  refine g_callVi (As := [.int a1, .int ((5 : Int32))]) (st' := []) (k := a0) (L' := 0) hC Y_X12_told I_X12_told k_1320 ⟨by decide, by decide⟩ h0 (ci := 11) (by decide) rfl dX12_sort_23 rfl rfl rfl (Nat.le_of_ble_eq_true rfl) ⟨Nat.zero_le _, Nat.zero_le _⟩ hM (fun c hc => c_X12_told (xE X) a0 h0 a1 ((5 : Int32)) c hc) (fun c6 hM => ?_)
  refine g_istore hC (fun y7 => [(5, .int y7), (4, .int y5), (3, .int y3), (2, .int y1), (0, vr X a0), (1, .int a1)]) dX12_sort_26 rfl hM hml (by decide) (fun _ => rfl) (fun y7 hM => ?_)
  refine g_iload hC dX12_sort_28 rfl 1 rfl ?_
  refine g_if_eq (tgt := 78) hC dX12_sort_30 rfl (by decide) hM (fun hM => ?_) (fun hM => ?_)
  · refine g_iload_n hC dX12_sort_78 rfl 2 rfl ?_
    refine g_if_eq (tgt := 92) hC dX12_sort_79 rfl (by decide) hM (fun hM => ?_) (fun hM => ?_)
    · refine g_aload_n hC dX12_sort_92 rfl 4 rfl ?_
      refine fg_11_0 hC h0 k_1082 dX12_sort_93 rfl hM (fun j8 hj8 hM => ?_)
      refine g_iload_n hC dX12_sort_96 rfl 3 rfl ?_
      refine g_iald hC hj8 dX12_sort_97 rfl hM (fun x9 hM => ?_)
      refine g_if_ne (tgt := 123) hC dX12_sort_98 rfl (by decide) hM (fun hM => ?_) (fun hM => ?_)
      · exact g_sub [4, 5, 0] ((bX12_sort_123 hC hml hR a0 a1 h0 ) _ hM) rfl
      · refine g_aload_n hC dX12_sort_101 rfl 4 rfl ?_
        refine fg_11_0 hC h0 k_1082 dX12_sort_102 rfl hM (fun j10 hj10 hM => ?_)
        refine g_iload_n hC dX12_sort_105 rfl 3 rfl ?_
        refine g_iconst (v := 1) hC dX12_sort_106 rfl ic_1 ?_
        refine g_iadd hC dX12_sort_107 rfl ?_
        refine g_iald hC hj10 dX12_sort_108 rfl hM (fun x11 hM => ?_)
        refine g_if_ne (tgt := 123) hC dX12_sort_109 rfl (by decide) hM (fun hM => ?_) (fun hM => ?_)
        · exact g_sub [4, 5, 0] ((bX12_sort_123 hC hml hR a0 a1 h0 ) _ hM) rfl
        · refine g_aload_n hC dX12_sort_112 rfl 4 rfl ?_
          refine fg_11_0 hC h0 k_1082 dX12_sort_113 rfl hM (fun j12 hj12 hM => ?_)
          refine g_iload_n hC dX12_sort_116 rfl 3 rfl ?_
          refine g_iconst (v := 5) hC dX12_sort_117 rfl ic_5 ?_
          refine g_iadd hC dX12_sort_118 rfl ?_
          refine g_iald hC hj12 dX12_sort_119 rfl hM (fun x13 hM => ?_)
          refine g_if_eq (tgt := 146) hC dX12_sort_120 rfl (by decide) hM (fun hM => ?_) (fun hM => ?_)
          · refine g_aload_n hC dX12_sort_146 rfl 4 rfl ?_
            refine fg_11_0 hC h0 k_1082 dX12_sort_147 rfl hM (fun j14 hj14 hM => ?_)
            refine g_iload_n hC dX12_sort_150 rfl 3 rfl ?_
            refine g_iconst (v := 3) hC dX12_sort_151 rfl ic_3 ?_
            refine g_iadd hC dX12_sort_152 rfl ?_
            refine g_iald hC hj14 dX12_sort_153 rfl hM (fun x15 hM => ?_)
            refine g_if_ne (tgt := 168) hC dX12_sort_154 rfl (by decide) hM (fun hM => ?_) (fun hM => ?_)
            · refine g_bipush (v := 9) hC dX12_sort_168 rfl ib_9 ?_
              refine g_goto (tgt := 175) hC dX12_sort_170 rfl (by decide) ?_
              cases hM
              exact g_reti hR dX12_sort_175 rfl
            · refine g_aload_n hC dX12_sort_157 rfl 4 rfl ?_
              refine fg_11_0 hC h0 k_1082 dX12_sort_158 rfl hM (fun j16 hj16 hM => ?_)
              refine g_iload_n hC dX12_sort_161 rfl 3 rfl ?_
              refine g_iconst (v := 4) hC dX12_sort_162 rfl ic_4 ?_
              refine g_iadd hC dX12_sort_163 rfl ?_
              refine g_iald hC hj16 dX12_sort_164 rfl hM (fun x17 hM => ?_)
              refine g_if_eq (tgt := 173) hC dX12_sort_165 rfl (by decide) hM (fun hM => ?_) (fun hM => ?_)
              · refine g_bipush (v := 10) hC dX12_sort_173 rfl ib_10 ?_
                cases hM
                exact g_reti hR dX12_sort_175 rfl
              · refine g_bipush (v := 9) hC dX12_sort_168 rfl ib_9 ?_
                refine g_goto (tgt := 175) hC dX12_sort_170 rfl (by decide) ?_
                cases hM
                exact g_reti hR dX12_sort_175 rfl
          · exact g_sub [4, 5, 0] ((bX12_sort_123 hC hml hR a0 a1 h0 ) _ hM) rfl
    · refine g_iload_n hC dX12_sort_82 rfl 2 rfl ?_
      refine g_if_le (tgt := 90) hC dX12_sort_83 rfl (by decide) hM (fun hM => ?_) (fun hM => ?_)
      · refine g_iconst (v := 5) hC dX12_sort_90 rfl ic_5 ?_
        cases hM
        exact g_reti hR dX12_sort_91 rfl
      · refine g_iconst (v := 4) hC dX12_sort_86 rfl ic_4 ?_
        refine g_goto (tgt := 91) hC dX12_sort_87 rfl (by decide) ?_
        cases hM
        exact g_reti hR dX12_sort_91 rfl
  · refine g_iload_n hC dX12_sort_33 rfl 2 rfl ?_
    refine g_if_le (tgt := 68) hC dX12_sort_34 rfl (by decide) hM (fun hM => ?_) (fun hM => ?_)
    · refine g_iload_n hC dX12_sort_68 rfl 2 rfl ?_
      refine g_if_ne (tgt := 76) hC dX12_sort_69 rfl (by decide) hM (fun hM => ?_) (fun hM => ?_)
      · refine g_iconst (v := 3) hC dX12_sort_76 rfl ic_3 ?_
        cases hM
        exact g_reti hR dX12_sort_77 rfl
      · refine g_iconst (v := 2) hC dX12_sort_72 rfl ic_2 ?_
        refine g_goto (tgt := 77) hC dX12_sort_73 rfl (by decide) ?_
        cases hM
        exact g_reti hR dX12_sort_77 rfl
    · refine g_iload hC dX12_sort_37 rfl 1 rfl ?_
      refine g_aload_n hC dX12_sort_39 rfl 4 rfl ?_
      refine fg_11_0 hC h0 k_1082 dX12_sort_40 rfl hM (fun j18 hj18 hM => ?_)
      refine g_iload_n hC dX12_sort_43 rfl 3 rfl ?_
      refine g_iald hC hj18 dX12_sort_44 rfl hM (fun x19 hM => ?_)
      refine g_aload_n hC dX12_sort_45 rfl 4 rfl ?_
      refine fg_11_0 hC h0 k_1082 dX12_sort_46 rfl hM (fun j20 hj20 hM => ?_)
      refine g_iload_n hC dX12_sort_49 rfl 3 rfl ?_
      refine g_iconst (v := 1) hC dX12_sort_50 rfl ic_1 ?_
      refine g_iadd hC dX12_sort_51 rfl ?_
      refine g_iald hC hj20 dX12_sort_52 rfl hM (fun x21 hM => ?_)
      refine g_iadd hC dX12_sort_53 rfl ?_
      refine g_callSi (As := [.int y5, .int ((x19 + x21))]) (st' := []) (L' := 0) hC Y_X12_turned k_1325 k_1324 ⟨by decide, by decide⟩ dX12_sort_54 rfl rfl rfl (Nat.le_of_ble_eq_true rfl) ⟨Nat.zero_le _, Nat.zero_le _⟩ hM (fun c hc => c_X12_turned (xE X) y5 ((x19 + x21)) c hc) (fun c22 hM => ?_)
      refine g_if_ge (tgt := 64) hC dX12_sort_57 rfl (by decide) hM (fun hM => ?_) (fun hM => ?_)
      · refine g_iconst (v := 1) hC dX12_sort_64 rfl ic_1 ?_
        refine g_goto (tgt := 77) hC dX12_sort_65 rfl (by decide) ?_
        cases hM
        exact g_reti hR dX12_sort_77 rfl
      · refine g_iconst (v := 0) hC dX12_sort_60 rfl ic_0 ?_
        refine g_goto (tgt := 77) hC dX12_sort_61 rfl (by decide) ?_
        cases hM
        exact g_reti hR dX12_sort_77 rfl
def BX12_keeps_31 (ρ : Rho) (a0 : Nat) (σ : Sto) : Option (Sto) :=
  Option.bind (MX12_copies σ ρ a0 ((0 : Int32)) (((94 : Int32) + ((46 : Int32) * (σ a0 6)))) ((46 : Int32))) fun c1 =>
  bn (su c1 a0 6 (((c1 a0 6) + (1 : Int32)))) fun σ2 =>
  some σ2
set_option maxHeartbeats 4000000 in
set_option maxRecDepth 100000 in
theorem bX12_keeps_31 {X : CX} {n : Nat} {ρ : Rho} {res : Sto} (hC : Cx X cX12_keeps RX12 1) (hml : (xc X).maxLocals = 1) (hR : RtV X cX12_keeps 0 0 n res ρ) (a0 : Nat) (h0 : Sh n a0 11) : ∀ (σ : Sto), BX12_keeps_31 ρ a0 σ = some res → G X 0 0 n σ ρ 31 [(0, vr X a0)] [] := by
  intro σ hM
  unfold BX12_keeps_31 at hM
  refine g_aload_n hC dX12_keeps_31 rfl 0 rfl ?_
  refine g_iconst (v := 0) hC dX12_keeps_32 rfl ic_0 ?_
  refine g_bipush (v := 94) hC dX12_keeps_33 rfl ib_94 ?_
  refine g_bipush (v := 46) hC dX12_keeps_35 rfl ib_46 ?_
  refine g_aload_n hC dX12_keeps_37 rfl 0 rfl ?_
  refine fg_11_6 hC h0 k_1088 dX12_keeps_38 rfl ?_
  refine g_imul hC dX12_keeps_41 rfl ?_
  refine g_iadd hC dX12_keeps_42 rfl ?_
  refine g_bipush (v := 46) hC dX12_keeps_43 rfl ib_46 ?_
  refine g_callVv0 (As := [.int ((0 : Int32)), .int (((94 : Int32) + ((46 : Int32) * (σ a0 6)))), .int ((46 : Int32))]) (st' := []) (k := a0) (L' := 0) hC Y_X12_copies I_X12_copies k_1158 ⟨by decide, by decide⟩ h0 (ci := 11) (by decide) rfl dX12_keeps_45 rfl rfl rfl (Nat.le_of_ble_eq_true rfl) ⟨Nat.zero_le _, Nat.zero_le _⟩ hM (fun c hc => c_X12_copies (xE X) a0 h0 ((0 : Int32)) (((94 : Int32) + ((46 : Int32) * (σ a0 6)))) ((46 : Int32)) c hc) (fun c1 hM => ?_)
  refine g_aload_n hC dX12_keeps_48 rfl 0 rfl ?_
  refine g_dup hC dX12_keeps_49 rfl rfl ?_
  refine fg_11_6 hC h0 k_1088 dX12_keeps_50 rfl ?_
  refine g_iconst (v := 1) hC dX12_keeps_53 rfl ic_1 ?_
  refine g_iadd hC dX12_keeps_54 rfl ?_
  refine fp_11_6 hC h0 k_1088 dX12_keeps_55 rfl hM (fun σ2 hM => ?_)
  cases hM
  exact g_retv hR dX12_keeps_58 rfl
def MX12_keeps (σ : Sto) (ρ : Rho) (a0 : Nat) : Option (Sto) :=
  if (σ a0 6) = (8 : Int32) then
    Option.bind (MX12_copies σ ρ a0 ((140 : Int32)) ((94 : Int32)) ((322 : Int32))) fun c1 =>
    bn (su c1 a0 6 (((c1 a0 6) - (1 : Int32)))) fun σ2 =>
    BX12_keeps_31 ρ a0 σ2
  else
    BX12_keeps_31 ρ a0 σ
set_option maxHeartbeats 4000000 in
set_option maxRecDepth 100000 in
theorem c_X12_keeps (E : EX) {n : Nat} {σ : Sto} {ρ : Rho} (a0 : Nat) (h0 : Sh n a0 11) (res : Sto) (hM : MX12_keeps σ ρ a0 = some res) : CTv E yX12_keeps cX12_keeps 1 1 0 0 [.ref (eb E + a0)] n σ ρ res ρ := by
  refine ct_v (by decide +kernel) (Nat.le_of_ble_eq_true rfl) (fun X hE hml hin hRm hC hR => ?_)
  subst hE
  show G X 0 0 n σ ρ 0 [(0, vr X a0)] []
  replace hC : Cx X cX12_keeps RX12 1 := hC
  unfold MX12_keeps at hM
  refine g_aload_n hC dX12_keeps_0 rfl 0 rfl ?_
  refine fg_11_6 hC h0 k_1088 dX12_keeps_1 rfl ?_
  refine g_bipush (v := 8) hC dX12_keeps_4 rfl ib_8 ?_
  refine g_icmp_ne (tgt := 31) hC dX12_keeps_6 rfl (by decide) hM (fun hM => ?_) (fun hM => ?_)
  · exact g_sub [0] ((bX12_keeps_31 hC hml hR a0 h0 ) _ hM) rfl
  · refine g_aload_n hC dX12_keeps_9 rfl 0 rfl ?_
    refine g_sipush (v := 140) hC dX12_keeps_10 rfl is_140 ?_
    refine g_bipush (v := 94) hC dX12_keeps_13 rfl ib_94 ?_
    refine g_sipush (v := 322) hC dX12_keeps_15 rfl is_322 ?_
    refine g_callVv0 (As := [.int ((140 : Int32)), .int ((94 : Int32)), .int ((322 : Int32))]) (st' := []) (k := a0) (L' := 0) hC Y_X12_copies I_X12_copies k_1158 ⟨by decide, by decide⟩ h0 (ci := 11) (by decide) rfl dX12_keeps_18 rfl rfl rfl (Nat.le_of_ble_eq_true rfl) ⟨Nat.zero_le _, Nat.zero_le _⟩ hM (fun c hc => c_X12_copies (xE X) a0 h0 ((140 : Int32)) ((94 : Int32)) ((322 : Int32)) c hc) (fun c1 hM => ?_)
    refine g_aload_n hC dX12_keeps_21 rfl 0 rfl ?_
    refine g_dup hC dX12_keeps_22 rfl rfl ?_
    refine fg_11_6 hC h0 k_1088 dX12_keeps_23 rfl ?_
    refine g_iconst (v := 1) hC dX12_keeps_26 rfl ic_1 ?_
    refine g_isub hC dX12_keeps_27 rfl ?_
    refine fp_11_6 hC h0 k_1088 dX12_keeps_28 rfl hM (fun σ2 hM => ?_)
    exact g_sub [0] ((bX12_keeps_31 hC hml hR a0 h0 ) _ hM) rfl
def MX12_refused (σ : Sto) (ρ : Rho) (a0 : Nat) (a1 : Int32) (a2 : Int32) : Option (Int32 × Sto) :=
  Option.bind (ρ a0 0) fun j1 =>
  Option.bind (ap σ j1 ((46 : Int32)) a1) fun σ2 =>
  Option.bind (ρ a0 0) fun j3 =>
  Option.bind (ap σ2 j3 ((47 : Int32)) a2) fun σ4 =>
  some (a1, σ4)
set_option maxHeartbeats 4000000 in
set_option maxRecDepth 100000 in
theorem c_X12_refused (E : EX) {n : Nat} {σ : Sto} {ρ : Rho} (a0 : Nat) (h0 : Sh n a0 11) (a1 : Int32) (a2 : Int32) (res : Int32 × Sto) (hM : MX12_refused σ ρ a0 a1 a2 = some res) : CTi E yX12_refused cX12_refused 3 (some .int) 0 [.ref (eb E + a0), .int a1, .int a2] n σ ρ res.1 res.2 ρ := by
  refine ct_i (by decide +kernel) rfl (Nat.le_of_ble_eq_true rfl) (fun X hE hml hC hR => ?_)
  subst hE
  show G X 0 0 n σ ρ 0 [(0, vr X a0), (1, .int a1), (2, .int a2)] []
  replace hC : Cx X cX12_refused RX12 0 := hC
  unfold MX12_refused at hM
  refine g_aload_n hC dX12_refused_0 rfl 0 rfl ?_
  refine fg_11_0 hC h0 k_1082 dX12_refused_1 rfl hM (fun j1 hj1 hM => ?_)
  refine g_bipush (v := 46) hC dX12_refused_4 rfl ib_46 ?_
  refine g_iload_n hC dX12_refused_6 rfl 1 rfl ?_
  refine g_iast hC hj1 dX12_refused_7 rfl hM (fun σ2 hM => ?_)
  refine g_aload_n hC dX12_refused_8 rfl 0 rfl ?_
  refine fg_11_0 hC h0 k_1082 dX12_refused_9 rfl hM (fun j3 hj3 hM => ?_)
  refine g_bipush (v := 47) hC dX12_refused_12 rfl ib_47 ?_
  refine g_iload_n hC dX12_refused_14 rfl 2 rfl ?_
  refine g_iast hC hj3 dX12_refused_15 rfl hM (fun σ4 hM => ?_)
  refine g_iload_n hC dX12_refused_16 rfl 1 rfl ?_
  cases hM
  exact g_reti hR dX12_refused_17 rfl
