def MX12_polarOf (σ : Sto) (ρ : Rho) (a0 : Nat) (a1 : Int32) : Option (Int32 × Sto) :=
  Option.bind (MX12_laysPlace σ a0 a1) fun c1 =>
  Option.bind (ρ a0 11) fun j2 =>
  Option.bind (ag c1 j2 ((0 : Int32))) fun x3 =>
  Option.bind (ρ a0 11) fun j4 =>
  Option.bind (ag c1 j4 ((5 : Int32))) fun x5 =>
  Option.bind (ρ a0 11) fun j6 =>
  Option.bind (ag c1 j6 ((4 : Int32))) fun x7 =>
  bn ((((((2 : Int32) * x3) * (c1 a0 8)) + (x5 * (c1 a0 9))) + (x7 * (c1 a0 10)))) fun y8 =>
  Option.bind (ρ a0 11) fun j9 =>
  Option.bind (ag c1 j9 ((5 : Int32))) fun x10 =>
  Option.bind (ρ a0 11) fun j11 =>
  Option.bind (ag c1 j11 ((1 : Int32))) fun x12 =>
  Option.bind (ρ a0 11) fun j13 =>
  Option.bind (ag c1 j13 ((3 : Int32))) fun x14 =>
  bn ((((x10 * (c1 a0 8)) + (((2 : Int32) * x12) * (c1 a0 9))) + (x14 * (c1 a0 10)))) fun y15 =>
  Option.bind (ρ a0 11) fun j16 =>
  Option.bind (ag c1 j16 ((4 : Int32))) fun x17 =>
  Option.bind (ρ a0 11) fun j18 =>
  Option.bind (ag c1 j18 ((3 : Int32))) fun x19 =>
  Option.bind (ρ a0 11) fun j20 =>
  Option.bind (ag c1 j20 ((2 : Int32))) fun x21 =>
  bn ((((x17 * (c1 a0 8)) + (x19 * (c1 a0 9))) + (((2 : Int32) * x21) * (c1 a0 10)))) fun y22 =>
  Option.bind (MX12_numberOf c1 a0 y8 y15 y22) fun c23 =>
  some (c23, c1)
set_option maxHeartbeats 4000000 in
set_option maxRecDepth 100000 in
theorem c_X12_polarOf (E : EX) {n : Nat} {σ : Sto} {ρ : Rho} (a0 : Nat) (h0 : Sh n a0 11) (a1 : Int32) (res : Int32 × Sto) (hM : MX12_polarOf σ ρ a0 a1 = some res) : CTi E yX12_polarOf cX12_polarOf 5 (some .int) 2 [.ref (eb E + a0), .int a1] n σ ρ res.1 res.2 ρ := by
  refine ct_i (by decide +kernel) rfl (Nat.le_of_ble_eq_true rfl) (fun X hE hml hC hR => ?_)
  subst hE
  show G X 0 0 n σ ρ 0 [(0, vr X a0), (1, .int a1)] []
  replace hC : Cx X cX12_polarOf RX12 2 := hC
  unfold MX12_polarOf at hM
  refine g_aload_n hC dX12_polarOf_0 rfl 0 rfl ?_
  refine g_iload_n hC dX12_polarOf_1 rfl 1 rfl ?_
  refine g_callVv0 (As := [.int a1]) (st' := []) (k := a0) (L' := 0) hC Y_X12_laysPlace I_X12_laysPlace k_1239 ⟨by decide, by decide⟩ h0 (ci := 11) (by decide) rfl dX12_polarOf_2 rfl rfl rfl (Nat.le_of_ble_eq_true rfl) ⟨Nat.zero_le _, Nat.zero_le _⟩ hM (fun c hc => c_X12_laysPlace (xE X) a0 h0 a1 c hc) (fun c1 hM => ?_)
  refine g_iconst (v := 2) hC dX12_polarOf_5 rfl ic_2 ?_
  refine g_aload_n hC dX12_polarOf_6 rfl 0 rfl ?_
  refine fg_11_11 hC h0 k_1093 dX12_polarOf_7 rfl hM (fun j2 hj2 hM => ?_)
  refine g_iconst (v := 0) hC dX12_polarOf_10 rfl ic_0 ?_
  refine g_iald hC hj2 dX12_polarOf_11 rfl hM (fun x3 hM => ?_)
  refine g_imul hC dX12_polarOf_12 rfl ?_
  refine g_aload_n hC dX12_polarOf_13 rfl 0 rfl ?_
  refine fg_11_8 hC h0 k_1090 dX12_polarOf_14 rfl ?_
  refine g_imul hC dX12_polarOf_17 rfl ?_
  refine g_aload_n hC dX12_polarOf_18 rfl 0 rfl ?_
  refine fg_11_11 hC h0 k_1093 dX12_polarOf_19 rfl hM (fun j4 hj4 hM => ?_)
  refine g_iconst (v := 5) hC dX12_polarOf_22 rfl ic_5 ?_
  refine g_iald hC hj4 dX12_polarOf_23 rfl hM (fun x5 hM => ?_)
  refine g_aload_n hC dX12_polarOf_24 rfl 0 rfl ?_
  refine fg_11_9 hC h0 k_1091 dX12_polarOf_25 rfl ?_
  refine g_imul hC dX12_polarOf_28 rfl ?_
  refine g_iadd hC dX12_polarOf_29 rfl ?_
  refine g_aload_n hC dX12_polarOf_30 rfl 0 rfl ?_
  refine fg_11_11 hC h0 k_1093 dX12_polarOf_31 rfl hM (fun j6 hj6 hM => ?_)
  refine g_iconst (v := 4) hC dX12_polarOf_34 rfl ic_4 ?_
  refine g_iald hC hj6 dX12_polarOf_35 rfl hM (fun x7 hM => ?_)
  refine g_aload_n hC dX12_polarOf_36 rfl 0 rfl ?_
  refine fg_11_10 hC h0 k_1092 dX12_polarOf_37 rfl ?_
  refine g_imul hC dX12_polarOf_40 rfl ?_
  refine g_iadd hC dX12_polarOf_41 rfl ?_
  refine g_istore_n hC (fun y8 => [(2, .int y8), (0, vr X a0), (1, .int a1)]) dX12_polarOf_42 rfl hM hml (by decide) (fun _ => rfl) (fun y8 hM => ?_)
  refine g_aload_n hC dX12_polarOf_43 rfl 1 rfl ?_
  refine fg_11_11 hC h0 k_1093 dX12_polarOf_44 rfl hM (fun j9 hj9 hM => ?_)
  refine g_iconst (v := 5) hC dX12_polarOf_47 rfl ic_5 ?_
  refine g_iald hC hj9 dX12_polarOf_48 rfl hM (fun x10 hM => ?_)
  refine g_aload_n hC dX12_polarOf_49 rfl 1 rfl ?_
  refine fg_11_8 hC h0 k_1090 dX12_polarOf_50 rfl ?_
  refine g_imul hC dX12_polarOf_53 rfl ?_
  refine g_iconst (v := 2) hC dX12_polarOf_54 rfl ic_2 ?_
  refine g_aload_n hC dX12_polarOf_55 rfl 1 rfl ?_
  refine fg_11_11 hC h0 k_1093 dX12_polarOf_56 rfl hM (fun j11 hj11 hM => ?_)
  refine g_iconst (v := 1) hC dX12_polarOf_59 rfl ic_1 ?_
  refine g_iald hC hj11 dX12_polarOf_60 rfl hM (fun x12 hM => ?_)
  refine g_imul hC dX12_polarOf_61 rfl ?_
  refine g_aload_n hC dX12_polarOf_62 rfl 1 rfl ?_
  refine fg_11_9 hC h0 k_1091 dX12_polarOf_63 rfl ?_
  refine g_imul hC dX12_polarOf_66 rfl ?_
  refine g_iadd hC dX12_polarOf_67 rfl ?_
  refine g_aload_n hC dX12_polarOf_68 rfl 1 rfl ?_
  refine fg_11_11 hC h0 k_1093 dX12_polarOf_69 rfl hM (fun j13 hj13 hM => ?_)
  refine g_iconst (v := 3) hC dX12_polarOf_72 rfl ic_3 ?_
  refine g_iald hC hj13 dX12_polarOf_73 rfl hM (fun x14 hM => ?_)
  refine g_aload_n hC dX12_polarOf_74 rfl 1 rfl ?_
  refine fg_11_10 hC h0 k_1092 dX12_polarOf_75 rfl ?_
  refine g_imul hC dX12_polarOf_78 rfl ?_
  refine g_iadd hC dX12_polarOf_79 rfl ?_
  refine g_istore_n hC (fun y15 => [(3, .int y15), (2, .int y8), (0, vr X a0), (1, .int a1)]) dX12_polarOf_80 rfl hM hml (by decide) (fun _ => rfl) (fun y15 hM => ?_)
  refine g_aload_n hC dX12_polarOf_81 rfl 2 rfl ?_
  refine fg_11_11 hC h0 k_1093 dX12_polarOf_82 rfl hM (fun j16 hj16 hM => ?_)
  refine g_iconst (v := 4) hC dX12_polarOf_85 rfl ic_4 ?_
  refine g_iald hC hj16 dX12_polarOf_86 rfl hM (fun x17 hM => ?_)
  refine g_aload_n hC dX12_polarOf_87 rfl 2 rfl ?_
  refine fg_11_8 hC h0 k_1090 dX12_polarOf_88 rfl ?_
  refine g_imul hC dX12_polarOf_91 rfl ?_
  refine g_aload_n hC dX12_polarOf_92 rfl 2 rfl ?_
  refine fg_11_11 hC h0 k_1093 dX12_polarOf_93 rfl hM (fun j18 hj18 hM => ?_)
  refine g_iconst (v := 3) hC dX12_polarOf_96 rfl ic_3 ?_
  refine g_iald hC hj18 dX12_polarOf_97 rfl hM (fun x19 hM => ?_)
  refine g_aload_n hC dX12_polarOf_98 rfl 2 rfl ?_
  refine fg_11_9 hC h0 k_1091 dX12_polarOf_99 rfl ?_
  refine g_imul hC dX12_polarOf_102 rfl ?_
  refine g_iadd hC dX12_polarOf_103 rfl ?_
  refine g_iconst (v := 2) hC dX12_polarOf_104 rfl ic_2 ?_
  refine g_aload_n hC dX12_polarOf_105 rfl 2 rfl ?_
  refine fg_11_11 hC h0 k_1093 dX12_polarOf_106 rfl hM (fun j20 hj20 hM => ?_)
  refine g_iconst (v := 2) hC dX12_polarOf_109 rfl ic_2 ?_
  refine g_iald hC hj20 dX12_polarOf_110 rfl hM (fun x21 hM => ?_)
  refine g_imul hC dX12_polarOf_111 rfl ?_
  refine g_aload_n hC dX12_polarOf_112 rfl 2 rfl ?_
  refine fg_11_10 hC h0 k_1092 dX12_polarOf_113 rfl ?_
  refine g_imul hC dX12_polarOf_116 rfl ?_
  refine g_iadd hC dX12_polarOf_117 rfl ?_
  refine g_istore hC (fun y22 => [(4, .int y22), (3, .int y15), (2, .int y8), (0, vr X a0), (1, .int a1)]) dX12_polarOf_118 rfl hM hml (by decide) (fun _ => rfl) (fun y22 hM => ?_)
  refine g_aload_n hC dX12_polarOf_120 rfl 3 rfl ?_
  refine g_iload_n hC dX12_polarOf_121 rfl 2 rfl ?_
  refine g_iload_n hC dX12_polarOf_122 rfl 1 rfl ?_
  refine g_iload hC dX12_polarOf_123 rfl 0 rfl ?_
  refine g_callVi (As := [.int y8, .int y15, .int y22]) (st' := []) (k := a0) (L' := 1) hC Y_X12_numberOf I_X12_numberOf k_1307 ⟨by decide, by decide⟩ h0 (ci := 11) (by decide) rfl dX12_polarOf_125 rfl rfl rfl (Nat.le_of_ble_eq_true rfl) ⟨Nat.zero_le _, Nat.zero_le _⟩ hM (fun c hc => c_X12_numberOf (xE X) a0 h0 y8 y15 y22 c hc) (fun c23 hM => ?_)
  cases hM
  exact g_reti hR dX12_polarOf_128 rfl
def BX12_pointsOn_26 (ρ : Rho) (a0 : Nat) (rec : Sto → Int32 → Int32 → Option (Int32 × Sto)) (σ : Sto) (v2 : Int32) (t0 : Int32) (t1 : Int32) : Option (Int32 × Sto) :=
  bn ((t0 + t1)) fun y1 =>
  bn (v2 + (1 : Int32)) fun y2 =>
  rec σ y1 y2
set_option maxHeartbeats 4000000 in
set_option maxRecDepth 100000 in
theorem bX12_pointsOn_26 {X : CX} {n : Nat} {ρ : Rho} {res : Int32 × Sto} (hC : Cx X cX12_pointsOn RX12 2) (hml : (xc X).maxLocals = 3) (hR : RtT (some .int) X cX12_pointsOn n res.1 res.2 ρ) (a0 : Nat) (h0 : Sh n a0 11) (rec : Sto → Int32 → Int32 → Option (Int32 × Sto)) (ih : ∀ (σ : Sto) (v1 : Int32) (v2 : Int32), rec σ v1 v2 = some res → G X 0 0 n σ ρ 4 [(0, vr X a0), (1, .int v1), (2, .int v2)] []) : ∀ (σ : Sto) (v2 : Int32) (t0 : Int32) (t1 : Int32), BX12_pointsOn_26 ρ a0 rec σ v2 t0 t1 = some res → G X 0 0 n σ ρ 26 [(0, vr X a0), (2, .int v2)] [.int t1, .int t0] := by
  intro σ v2 t0 t1 hM
  unfold BX12_pointsOn_26 at hM
  refine g_iadd hC dX12_pointsOn_26 rfl ?_
  refine g_istore_n hC (fun y1 => [(1, .int y1), (0, vr X a0), (2, .int v2)]) dX12_pointsOn_27 rfl hM hml (by decide) (fun _ => rfl) (fun y1 hM => ?_)
  refine g_iinc (v := 1) hC (fun y2 => [(2, .int y2), (1, .int y1), (0, vr X a0)]) dX12_pointsOn_28 rfl hM (j := 2) rfl ic_1 hml (by decide) (fun _ => rfl) (fun y2 hM => ?_)
  refine g_goto (tgt := 4) hC dX12_pointsOn_31 rfl (by decide) ?_
  exact g_sub [2, 1, 0] (ih _ _ _ hM) rfl
def FX12_pointsOn_4 (ρ : Rho) (a0 : Nat) (rec : Sto → Int32 → Int32 → Option (Int32 × Sto)) (σ : Sto) (v1 : Int32) (v2 : Int32) : Option (Int32 × Sto) :=
  Option.bind (MX12_places σ a0) fun c1 =>
  if c1 ≤ v2 then
    some (v1, σ)
  else
    Option.bind (MX12_isOn σ ρ a0 v2) fun c2 =>
    if c2.1 = 0 then
      BX12_pointsOn_26 ρ a0 rec c2.2 v2 v1 ((0 : Int32))
    else
      BX12_pointsOn_26 ρ a0 rec c2.2 v2 v1 ((1 : Int32))
set_option maxHeartbeats 4000000 in
set_option maxRecDepth 100000 in
theorem bX12_pointsOn_4 {X : CX} {n : Nat} {ρ : Rho} {res : Int32 × Sto} (hC : Cx X cX12_pointsOn RX12 2) (hml : (xc X).maxLocals = 3) (hR : RtT (some .int) X cX12_pointsOn n res.1 res.2 ρ) (a0 : Nat) (h0 : Sh n a0 11) (fu : Nat) : ∀ (σ : Sto) (v1 : Int32) (v2 : Int32), fixN (fun _ _ _ => none) (FX12_pointsOn_4 ρ a0) fu σ v1 v2 = some res → G X 0 0 n σ ρ 4 [(0, vr X a0), (1, .int v1), (2, .int v2)] [] := by
  refine fixN_ind (P := fun (f : Sto → Int32 → Int32 → Option (Int32 × Sto)) => ∀ (σ : Sto) (v1 : Int32) (v2 : Int32), f σ v1 v2 = some res → G X 0 0 n σ ρ 4 [(0, vr X a0), (1, .int v1), (2, .int v2)] []) ?_ ?_ fu
  · intro σ v1 v2 hM; cases hM
  · intro rec ih σ v1 v2 hM
    unfold FX12_pointsOn_4 at hM
    refine g_iload_n hC dX12_pointsOn_4 rfl 2 rfl ?_
    refine g_aload_n hC dX12_pointsOn_5 rfl 0 rfl ?_
    refine g_callVi (As := []) (st' := [.int v2]) (k := a0) (L' := 0) hC Y_X12_places I_X12_places k_1227 ⟨by decide, by decide⟩ h0 (ci := 11) (by decide) rfl dX12_pointsOn_6 rfl rfl rfl (Nat.le_of_ble_eq_true rfl) ⟨Nat.zero_le _, Nat.zero_le _⟩ hM (fun c hc => c_X12_places (xE X) a0 h0 c hc) (fun c1 hM => ?_)
    refine g_icmp_ge (tgt := 34) hC dX12_pointsOn_9 rfl (by decide) hM (fun hM => ?_) (fun hM => ?_)
    · refine g_iload_n hC dX12_pointsOn_34 rfl 1 rfl ?_
      cases hM
      exact g_reti hR dX12_pointsOn_35 rfl
    · refine g_iload_n hC dX12_pointsOn_12 rfl 1 rfl ?_
      refine g_aload_n hC dX12_pointsOn_13 rfl 0 rfl ?_
      refine g_iload_n hC dX12_pointsOn_14 rfl 2 rfl ?_
      refine g_callVi (As := [.int v2]) (st' := [.int v1]) (k := a0) (L' := 1) hC Y_X12_isOn I_X12_isOn k_1243 ⟨by decide, by decide⟩ h0 (ci := 11) (by decide) rfl dX12_pointsOn_15 rfl rfl rfl (Nat.le_of_ble_eq_true rfl) ⟨Nat.zero_le _, Nat.zero_le _⟩ hM (fun c hc => c_X12_isOn (xE X) a0 h0 v2 c hc) (fun c2 hM => ?_)
      refine g_if_eq (tgt := 25) hC dX12_pointsOn_18 rfl (by decide) hM (fun hM => ?_) (fun hM => ?_)
      · refine g_iconst (v := 0) hC dX12_pointsOn_25 rfl ic_0 ?_
        exact g_sub [0, 2] ((bX12_pointsOn_26 hC hml hR a0 h0 rec ih ) _ _ _ _ hM) rfl
      · refine g_iconst (v := 1) hC dX12_pointsOn_21 rfl ic_1 ?_
        refine g_goto (tgt := 26) hC dX12_pointsOn_22 rfl (by decide) ?_
        exact g_sub [0, 2] ((bX12_pointsOn_26 hC hml hR a0 h0 rec ih ) _ _ _ _ hM) rfl
def MX12_pointsOn (σ : Sto) (ρ : Rho) (a0 : Nat) : Option (Int32 × Sto) :=
  bn ((0 : Int32)) fun y1 =>
  bn ((0 : Int32)) fun y2 =>
  fixN (fun _ _ _ => none) (FX12_pointsOn_4 ρ a0) FU σ y1 y2
set_option maxHeartbeats 4000000 in
set_option maxRecDepth 100000 in
theorem c_X12_pointsOn (E : EX) {n : Nat} {σ : Sto} {ρ : Rho} (a0 : Nat) (h0 : Sh n a0 11) (res : Int32 × Sto) (hM : MX12_pointsOn σ ρ a0 = some res) : CTi E yX12_pointsOn cX12_pointsOn 3 (some .int) 2 [.ref (eb E + a0)] n σ ρ res.1 res.2 ρ := by
  refine ct_i (by decide +kernel) rfl (Nat.le_of_ble_eq_true rfl) (fun X hE hml hC hR => ?_)
  subst hE
  show G X 0 0 n σ ρ 0 [(0, vr X a0)] []
  replace hC : Cx X cX12_pointsOn RX12 2 := hC
  unfold MX12_pointsOn at hM
  refine g_iconst (v := 0) hC dX12_pointsOn_0 rfl ic_0 ?_
  refine g_istore_n hC (fun y1 => [(1, .int y1), (0, vr X a0)]) dX12_pointsOn_1 rfl hM hml (by decide) (fun _ => rfl) (fun y1 hM => ?_)
  refine g_iconst (v := 0) hC dX12_pointsOn_2 rfl ic_0 ?_
  refine g_istore_n hC (fun y2 => [(2, .int y2), (1, .int y1), (0, vr X a0)]) dX12_pointsOn_3 rfl hM hml (by decide) (fun _ => rfl) (fun y2 hM => ?_)
  exact g_sub [2, 1, 0] ((bX12_pointsOn_4 hC hml hR a0 h0  FU) _ _ _ hM) rfl
def BX12_isOfAll_29 (ρ : Rho) (a0 : Nat) (a1 : Int32) (rec : Sto → Int32 → Option (Int32 × Sto)) (σ : Sto) (v2 : Int32) : Option (Int32 × Sto) :=
  bn (v2 + (1 : Int32)) fun y1 =>
  rec σ y1
set_option maxHeartbeats 4000000 in
set_option maxRecDepth 100000 in
theorem bX12_isOfAll_29 {X : CX} {n : Nat} {ρ : Rho} {res : Int32 × Sto} (hC : Cx X cX12_isOfAll RX12 2) (hml : (xc X).maxLocals = 3) (hR : RtT (some .boolean) X cX12_isOfAll n res.1 res.2 ρ) (a0 : Nat) (a1 : Int32) (h0 : Sh n a0 11) (rec : Sto → Int32 → Option (Int32 × Sto)) (ih : ∀ (σ : Sto) (v2 : Int32), rec σ v2 = some res → G X 0 0 n σ ρ 2 [(0, vr X a0), (1, .int a1), (2, .int v2)] []) : ∀ (σ : Sto) (v2 : Int32), BX12_isOfAll_29 ρ a0 a1 rec σ v2 = some res → G X 0 0 n σ ρ 29 [(0, vr X a0), (1, .int a1), (2, .int v2)] [] := by
  intro σ v2 hM
  unfold BX12_isOfAll_29 at hM
  refine g_iinc (v := 1) hC (fun y1 => [(2, .int y1), (0, vr X a0), (1, .int a1)]) dX12_isOfAll_29 rfl hM (j := 2) rfl ic_1 hml (by decide) (fun _ => rfl) (fun y1 hM => ?_)
  refine g_goto (tgt := 2) hC dX12_isOfAll_32 rfl (by decide) ?_
  exact g_sub [1, 2, 0] (ih _ _ hM) rfl
def FX12_isOfAll_2 (ρ : Rho) (a0 : Nat) (a1 : Int32) (rec : Sto → Int32 → Option (Int32 × Sto)) (σ : Sto) (v2 : Int32) : Option (Int32 × Sto) :=
  Option.bind (MX12_places σ a0) fun c1 =>
  if c1 ≤ v2 then
    zr ((1 : Int32)) (some ((1 : Int32), σ))
  else
    Option.bind (MX12_isOnLine σ a0 v2 a1) fun c2 =>
    if c2.1 = 0 then
      BX12_isOfAll_29 ρ a0 a1 rec c2.2 v2
    else
      Option.bind (MX12_isOn c2.2 ρ a0 v2) fun c3 =>
      if c3.1 = 0 then
        zr ((0 : Int32)) (some ((0 : Int32), c3.2))
      else
        BX12_isOfAll_29 ρ a0 a1 rec c3.2 v2
set_option maxHeartbeats 4000000 in
set_option maxRecDepth 100000 in
theorem bX12_isOfAll_2 {X : CX} {n : Nat} {ρ : Rho} {res : Int32 × Sto} (hC : Cx X cX12_isOfAll RX12 2) (hml : (xc X).maxLocals = 3) (hR : RtT (some .boolean) X cX12_isOfAll n res.1 res.2 ρ) (a0 : Nat) (a1 : Int32) (h0 : Sh n a0 11) (fu : Nat) : ∀ (σ : Sto) (v2 : Int32), fixN (fun _ _ => none) (FX12_isOfAll_2 ρ a0 a1) fu σ v2 = some res → G X 0 0 n σ ρ 2 [(0, vr X a0), (1, .int a1), (2, .int v2)] [] := by
  refine fixN_ind (P := fun (f : Sto → Int32 → Option (Int32 × Sto)) => ∀ (σ : Sto) (v2 : Int32), f σ v2 = some res → G X 0 0 n σ ρ 2 [(0, vr X a0), (1, .int a1), (2, .int v2)] []) ?_ ?_ fu
  · intro σ v2 hM; cases hM
  · intro rec ih σ v2 hM
    unfold FX12_isOfAll_2 at hM
    refine g_iload_n hC dX12_isOfAll_2 rfl 2 rfl ?_
    refine g_aload_n hC dX12_isOfAll_3 rfl 0 rfl ?_
    refine g_callVi (As := []) (st' := [.int v2]) (k := a0) (L' := 0) hC Y_X12_places I_X12_places k_1227 ⟨by decide, by decide⟩ h0 (ci := 11) (by decide) rfl dX12_isOfAll_4 rfl rfl rfl (Nat.le_of_ble_eq_true rfl) ⟨Nat.zero_le _, Nat.zero_le _⟩ hM (fun c hc => c_X12_places (xE X) a0 h0 c hc) (fun c1 hM => ?_)
    refine g_icmp_ge (tgt := 35) hC dX12_isOfAll_7 rfl (by decide) hM (fun hM => ?_) (fun hM => ?_)
    · refine g_iconst (v := 1) hC dX12_isOfAll_35 rfl ic_1 ?_
      exact g_retz hM dX12_isOfAll_36 rfl (fun h => by cases h; exact hR)
    · refine g_aload_n hC dX12_isOfAll_10 rfl 0 rfl ?_
      refine g_iload_n hC dX12_isOfAll_11 rfl 2 rfl ?_
      refine g_iload_n hC dX12_isOfAll_12 rfl 1 rfl ?_
      refine g_callVi (As := [.int v2, .int a1]) (st' := []) (k := a0) (L' := 1) hC Y_X12_isOnLine I_X12_isOnLine k_1235 ⟨by decide, by decide⟩ h0 (ci := 11) (by decide) rfl dX12_isOfAll_13 rfl rfl rfl (Nat.le_of_ble_eq_true rfl) ⟨Nat.zero_le _, Nat.zero_le _⟩ hM (fun c hc => c_X12_isOnLine (xE X) a0 h0 v2 a1 c hc) (fun c2 hM => ?_)
      refine g_if_eq (tgt := 29) hC dX12_isOfAll_16 rfl (by decide) hM (fun hM => ?_) (fun hM => ?_)
      · exact g_sub [0, 1, 2] ((bX12_isOfAll_29 hC hml hR a0 a1 h0 rec ih ) _ _ hM) rfl
      · refine g_aload_n hC dX12_isOfAll_19 rfl 0 rfl ?_
        refine g_iload_n hC dX12_isOfAll_20 rfl 2 rfl ?_
        refine g_callVi (As := [.int v2]) (st' := []) (k := a0) (L' := 1) hC Y_X12_isOn I_X12_isOn k_1243 ⟨by decide, by decide⟩ h0 (ci := 11) (by decide) rfl dX12_isOfAll_21 rfl rfl rfl (Nat.le_of_ble_eq_true rfl) ⟨Nat.zero_le _, Nat.zero_le _⟩ hM (fun c hc => c_X12_isOn (xE X) a0 h0 v2 c hc) (fun c3 hM => ?_)
        refine g_if_ne (tgt := 29) hC dX12_isOfAll_24 rfl (by decide) hM (fun hM => ?_) (fun hM => ?_)
        · exact g_sub [0, 1, 2] ((bX12_isOfAll_29 hC hml hR a0 a1 h0 rec ih ) _ _ hM) rfl
        · refine g_iconst (v := 0) hC dX12_isOfAll_27 rfl ic_0 ?_
          exact g_retz hM dX12_isOfAll_28 rfl (fun h => by cases h; exact hR)
def MX12_isOfAll (σ : Sto) (ρ : Rho) (a0 : Nat) (a1 : Int32) : Option (Int32 × Sto) :=
  bn ((0 : Int32)) fun y1 =>
  fixN (fun _ _ => none) (FX12_isOfAll_2 ρ a0 a1) FU σ y1
set_option maxHeartbeats 4000000 in
set_option maxRecDepth 100000 in
theorem c_X12_isOfAll (E : EX) {n : Nat} {σ : Sto} {ρ : Rho} (a0 : Nat) (h0 : Sh n a0 11) (a1 : Int32) (res : Int32 × Sto) (hM : MX12_isOfAll σ ρ a0 a1 = some res) : CTi E yX12_isOfAll cX12_isOfAll 3 (some .boolean) 2 [.ref (eb E + a0), .int a1] n σ ρ res.1 res.2 ρ := by
  refine ct_i (by decide +kernel) rfl (Nat.le_of_ble_eq_true rfl) (fun X hE hml hC hR => ?_)
  subst hE
  show G X 0 0 n σ ρ 0 [(0, vr X a0), (1, .int a1)] []
  replace hC : Cx X cX12_isOfAll RX12 2 := hC
  unfold MX12_isOfAll at hM
  refine g_iconst (v := 0) hC dX12_isOfAll_0 rfl ic_0 ?_
  refine g_istore_n hC (fun y1 => [(2, .int y1), (0, vr X a0), (1, .int a1)]) dX12_isOfAll_1 rfl hM hml (by decide) (fun _ => rfl) (fun y1 hM => ?_)
  exact g_sub [1, 2, 0] ((bX12_isOfAll_2 hC hml hR a0 a1 h0  FU) _ _ hM) rfl
def BX12_linesOn_26 (ρ : Rho) (a0 : Nat) (rec : Sto → Int32 → Int32 → Option (Int32 × Sto)) (σ : Sto) (v2 : Int32) (t0 : Int32) (t1 : Int32) : Option (Int32 × Sto) :=
  bn ((t0 + t1)) fun y1 =>
  bn (v2 + (1 : Int32)) fun y2 =>
  rec σ y1 y2
set_option maxHeartbeats 4000000 in
set_option maxRecDepth 100000 in
theorem bX12_linesOn_26 {X : CX} {n : Nat} {ρ : Rho} {res : Int32 × Sto} (hC : Cx X cX12_linesOn RX12 3) (hml : (xc X).maxLocals = 3) (hR : RtT (some .int) X cX12_linesOn n res.1 res.2 ρ) (a0 : Nat) (h0 : Sh n a0 11) (rec : Sto → Int32 → Int32 → Option (Int32 × Sto)) (ih : ∀ (σ : Sto) (v1 : Int32) (v2 : Int32), rec σ v1 v2 = some res → G X 0 0 n σ ρ 4 [(0, vr X a0), (1, .int v1), (2, .int v2)] []) : ∀ (σ : Sto) (v2 : Int32) (t0 : Int32) (t1 : Int32), BX12_linesOn_26 ρ a0 rec σ v2 t0 t1 = some res → G X 0 0 n σ ρ 26 [(0, vr X a0), (2, .int v2)] [.int t1, .int t0] := by
  intro σ v2 t0 t1 hM
  unfold BX12_linesOn_26 at hM
  refine g_iadd hC dX12_linesOn_26 rfl ?_
  refine g_istore_n hC (fun y1 => [(1, .int y1), (0, vr X a0), (2, .int v2)]) dX12_linesOn_27 rfl hM hml (by decide) (fun _ => rfl) (fun y1 hM => ?_)
  refine g_iinc (v := 1) hC (fun y2 => [(2, .int y2), (1, .int y1), (0, vr X a0)]) dX12_linesOn_28 rfl hM (j := 2) rfl ic_1 hml (by decide) (fun _ => rfl) (fun y2 hM => ?_)
  refine g_goto (tgt := 4) hC dX12_linesOn_31 rfl (by decide) ?_
  exact g_sub [2, 1, 0] (ih _ _ _ hM) rfl
def FX12_linesOn_4 (ρ : Rho) (a0 : Nat) (rec : Sto → Int32 → Int32 → Option (Int32 × Sto)) (σ : Sto) (v1 : Int32) (v2 : Int32) : Option (Int32 × Sto) :=
  Option.bind (MX12_places σ a0) fun c1 =>
  if c1 ≤ v2 then
    some (v1, σ)
  else
    Option.bind (MX12_isOfAll σ ρ a0 v2) fun c2 =>
    if c2.1 = 0 then
      BX12_linesOn_26 ρ a0 rec c2.2 v2 v1 ((0 : Int32))
    else
      BX12_linesOn_26 ρ a0 rec c2.2 v2 v1 ((1 : Int32))
set_option maxHeartbeats 4000000 in
set_option maxRecDepth 100000 in
theorem bX12_linesOn_4 {X : CX} {n : Nat} {ρ : Rho} {res : Int32 × Sto} (hC : Cx X cX12_linesOn RX12 3) (hml : (xc X).maxLocals = 3) (hR : RtT (some .int) X cX12_linesOn n res.1 res.2 ρ) (a0 : Nat) (h0 : Sh n a0 11) (fu : Nat) : ∀ (σ : Sto) (v1 : Int32) (v2 : Int32), fixN (fun _ _ _ => none) (FX12_linesOn_4 ρ a0) fu σ v1 v2 = some res → G X 0 0 n σ ρ 4 [(0, vr X a0), (1, .int v1), (2, .int v2)] [] := by
  refine fixN_ind (P := fun (f : Sto → Int32 → Int32 → Option (Int32 × Sto)) => ∀ (σ : Sto) (v1 : Int32) (v2 : Int32), f σ v1 v2 = some res → G X 0 0 n σ ρ 4 [(0, vr X a0), (1, .int v1), (2, .int v2)] []) ?_ ?_ fu
  · intro σ v1 v2 hM; cases hM
  · intro rec ih σ v1 v2 hM
    unfold FX12_linesOn_4 at hM
    refine g_iload_n hC dX12_linesOn_4 rfl 2 rfl ?_
    refine g_aload_n hC dX12_linesOn_5 rfl 0 rfl ?_
    refine g_callVi (As := []) (st' := [.int v2]) (k := a0) (L' := 0) hC Y_X12_places I_X12_places k_1227 ⟨by decide, by decide⟩ h0 (ci := 11) (by decide) rfl dX12_linesOn_6 rfl rfl rfl (Nat.le_of_ble_eq_true rfl) ⟨Nat.zero_le _, Nat.zero_le _⟩ hM (fun c hc => c_X12_places (xE X) a0 h0 c hc) (fun c1 hM => ?_)
    refine g_icmp_ge (tgt := 34) hC dX12_linesOn_9 rfl (by decide) hM (fun hM => ?_) (fun hM => ?_)
    · refine g_iload_n hC dX12_linesOn_34 rfl 1 rfl ?_
      cases hM
      exact g_reti hR dX12_linesOn_35 rfl
    · refine g_iload_n hC dX12_linesOn_12 rfl 1 rfl ?_
      refine g_aload_n hC dX12_linesOn_13 rfl 0 rfl ?_
      refine g_iload_n hC dX12_linesOn_14 rfl 2 rfl ?_
      refine g_callVi (As := [.int v2]) (st' := [.int v1]) (k := a0) (L' := 2) hC Y_X12_isOfAll I_X12_isOfAll k_1231 ⟨by decide, by decide⟩ h0 (ci := 11) (by decide) rfl dX12_linesOn_15 rfl rfl rfl (Nat.le_of_ble_eq_true rfl) ⟨Nat.zero_le _, Nat.zero_le _⟩ hM (fun c hc => c_X12_isOfAll (xE X) a0 h0 v2 c hc) (fun c2 hM => ?_)
      refine g_if_eq (tgt := 25) hC dX12_linesOn_18 rfl (by decide) hM (fun hM => ?_) (fun hM => ?_)
      · refine g_iconst (v := 0) hC dX12_linesOn_25 rfl ic_0 ?_
        exact g_sub [0, 2] ((bX12_linesOn_26 hC hml hR a0 h0 rec ih ) _ _ _ _ hM) rfl
      · refine g_iconst (v := 1) hC dX12_linesOn_21 rfl ic_1 ?_
        refine g_goto (tgt := 26) hC dX12_linesOn_22 rfl (by decide) ?_
        exact g_sub [0, 2] ((bX12_linesOn_26 hC hml hR a0 h0 rec ih ) _ _ _ _ hM) rfl
def MX12_linesOn (σ : Sto) (ρ : Rho) (a0 : Nat) : Option (Int32 × Sto) :=
  bn ((0 : Int32)) fun y1 =>
  bn ((0 : Int32)) fun y2 =>
  fixN (fun _ _ _ => none) (FX12_linesOn_4 ρ a0) FU σ y1 y2
set_option maxHeartbeats 4000000 in
set_option maxRecDepth 100000 in
theorem c_X12_linesOn (E : EX) {n : Nat} {σ : Sto} {ρ : Rho} (a0 : Nat) (h0 : Sh n a0 11) (res : Int32 × Sto) (hM : MX12_linesOn σ ρ a0 = some res) : CTi E yX12_linesOn cX12_linesOn 3 (some .int) 3 [.ref (eb E + a0)] n σ ρ res.1 res.2 ρ := by
  refine ct_i (by decide +kernel) rfl (Nat.le_of_ble_eq_true rfl) (fun X hE hml hC hR => ?_)
  subst hE
  show G X 0 0 n σ ρ 0 [(0, vr X a0)] []
  replace hC : Cx X cX12_linesOn RX12 3 := hC
  unfold MX12_linesOn at hM
  refine g_iconst (v := 0) hC dX12_linesOn_0 rfl ic_0 ?_
  refine g_istore_n hC (fun y1 => [(1, .int y1), (0, vr X a0)]) dX12_linesOn_1 rfl hM hml (by decide) (fun _ => rfl) (fun y1 hM => ?_)
  refine g_iconst (v := 0) hC dX12_linesOn_2 rfl ic_0 ?_
  refine g_istore_n hC (fun y2 => [(2, .int y2), (1, .int y1), (0, vr X a0)]) dX12_linesOn_3 rfl hM hml (by decide) (fun _ => rfl) (fun y2 hM => ?_)
  exact g_sub [2, 1, 0] ((bX12_linesOn_4 hC hml hR a0 h0  FU) _ _ _ hM) rfl
def BX12_rank_293 (ρ : Rho) (a0 : Nat) (a1 : Int32) (a2 : Int32) (rec : Sto → Int32 → Int32 → Option (Int32 × Sto)) (σ : Sto) (v3 : Int32) (v4 : Int32) : Option (Int32 × Sto) :=
  bn (v4 + (1 : Int32)) fun y1 =>
  rec σ v3 y1
set_option maxHeartbeats 4000000 in
set_option maxRecDepth 100000 in
theorem bX12_rank_293 {X : CX} {n : Nat} {ρ : Rho} {res : Int32 × Sto} (hC : Cx X cX12_rank RX12 1) (hml : (xc X).maxLocals = 10) (hR : RtT (some .int) X cX12_rank n res.1 res.2 ρ) (a0 : Nat) (a1 : Int32) (a2 : Int32) (h0 : Sh n a0 11) (rec : Sto → Int32 → Int32 → Option (Int32 × Sto)) (ih : ∀ (σ : Sto) (v3 : Int32) (v4 : Int32), rec σ v3 v4 = some res → G X 0 0 n σ ρ 5 [(0, vr X a0), (1, .int a1), (2, .int a2), (3, .int v3), (4, .int v4)] []) : ∀ (σ : Sto) (v3 : Int32) (v4 : Int32), BX12_rank_293 ρ a0 a1 a2 rec σ v3 v4 = some res → G X 0 0 n σ ρ 293 [(0, vr X a0), (1, .int a1), (2, .int a2), (3, .int v3), (4, .int v4)] [] := by
  intro σ v3 v4 hM
  unfold BX12_rank_293 at hM
  refine g_iinc (v := 1) hC (fun y1 => [(4, .int y1), (0, vr X a0), (1, .int a1), (2, .int a2), (3, .int v3)]) dX12_rank_293 rfl hM (j := 4) rfl ic_1 hml (by decide) (fun _ => rfl) (fun y1 hM => ?_)
  refine g_goto (tgt := 5) hC dX12_rank_296 rfl (by decide) ?_
  exact g_sub [1, 2, 3, 4, 0] (ih _ _ _ hM) rfl
def BX12_rank_284 (ρ : Rho) (a0 : Nat) (a1 : Int32) (a2 : Int32) (rec : Sto → Int32 → Int32 → Int32 → Option (Int32 × Sto)) (k290 : Sto → Int32 → Int32 → Option (Int32 × Sto)) (σ : Sto) (v3 : Int32) (v4 : Int32) (v7 : Int32) : Option (Int32 × Sto) :=
  bn (v7 + (1 : Int32)) fun y1 =>
  rec σ v3 v4 y1
set_option maxHeartbeats 4000000 in
set_option maxRecDepth 100000 in
theorem bX12_rank_284 {X : CX} {n : Nat} {ρ : Rho} {res : Int32 × Sto} (hC : Cx X cX12_rank RX12 1) (hml : (xc X).maxLocals = 10) (hR : RtT (some .int) X cX12_rank n res.1 res.2 ρ) (a0 : Nat) (a1 : Int32) (a2 : Int32) (h0 : Sh n a0 11) (rec : Sto → Int32 → Int32 → Int32 → Option (Int32 × Sto)) (ih : ∀ (σ : Sto) (v3 : Int32) (v4 : Int32) (v7 : Int32), rec σ v3 v4 v7 = some res → G X 0 0 n σ ρ 188 [(0, vr X a0), (1, .int a1), (2, .int a2), (3, .int v3), (4, .int v4), (7, .int v7)] []) (k290 : Sto → Int32 → Int32 → Option (Int32 × Sto)) (hk290 : ∀ (σ : Sto) (v3 : Int32) (v4 : Int32), k290 σ v3 v4 = some res → G X 0 0 n σ ρ 290 [(0, vr X a0), (1, .int a1), (2, .int a2), (3, .int v3), (4, .int v4)] []) : ∀ (σ : Sto) (v3 : Int32) (v4 : Int32) (v7 : Int32), BX12_rank_284 ρ a0 a1 a2 rec k290 σ v3 v4 v7 = some res → G X 0 0 n σ ρ 284 [(0, vr X a0), (1, .int a1), (2, .int a2), (3, .int v3), (4, .int v4), (7, .int v7)] [] := by
  intro σ v3 v4 v7 hM
  unfold BX12_rank_284 at hM
  refine g_iinc (v := 1) hC (fun y1 => [(7, .int y1), (0, vr X a0), (1, .int a1), (2, .int a2), (3, .int v3), (4, .int v4)]) dX12_rank_284 rfl hM (j := 5) rfl ic_1 hml (by decide) (fun _ => rfl) (fun y1 hM => ?_)
  refine g_goto (tgt := 188) hC dX12_rank_287 rfl (by decide) ?_
  exact g_sub [1, 2, 3, 4, 5, 0] (ih _ _ _ _ hM) rfl
def FX12_rank_226 (ρ : Rho) (a0 : Nat) (a1 : Int32) (a2 : Int32) (k284 : Sto → Int32 → Int32 → Int32 → Option (Int32 × Sto)) (rec : Sto → Int32 → Int32 → Int32 → Int32 → Int32 → Option (Int32 × Sto)) (σ : Sto) (v3 : Int32) (v4 : Int32) (v7 : Int32) (v8 : Int32) (v9 : Int32) : Option (Int32 × Sto) :=
  if a2 ≤ v9 then
    k284 σ v3 v4 v7
  else
    Option.bind (ρ a0 12) fun j1 =>
    Option.bind (ρ a0 12) fun j2 =>
    Option.bind (ag σ j2 ((((6 : Int32) * v7) + v9))) fun x3 =>
    Option.bind (ρ a0 12) fun j4 =>
    Option.bind (ag σ j4 ((((6 : Int32) * v3) + v9))) fun x5 =>
    Option.bind (MX12_rest σ a0 ((x3 - (v8 * x5)))) fun c6 =>
    Option.bind (ap σ j1 ((((6 : Int32) * v7) + v9)) c6) fun σ7 =>
    bn (v9 + (1 : Int32)) fun y8 =>
    rec σ7 v3 v4 v7 v8 y8
set_option maxHeartbeats 4000000 in
set_option maxRecDepth 100000 in
theorem bX12_rank_226 {X : CX} {n : Nat} {ρ : Rho} {res : Int32 × Sto} (hC : Cx X cX12_rank RX12 1) (hml : (xc X).maxLocals = 10) (hR : RtT (some .int) X cX12_rank n res.1 res.2 ρ) (a0 : Nat) (a1 : Int32) (a2 : Int32) (h0 : Sh n a0 11) (k284 : Sto → Int32 → Int32 → Int32 → Option (Int32 × Sto)) (hk284 : ∀ (σ : Sto) (v3 : Int32) (v4 : Int32) (v7 : Int32), k284 σ v3 v4 v7 = some res → G X 0 0 n σ ρ 284 [(0, vr X a0), (1, .int a1), (2, .int a2), (3, .int v3), (4, .int v4), (7, .int v7)] []) (fu : Nat) : ∀ (σ : Sto) (v3 : Int32) (v4 : Int32) (v7 : Int32) (v8 : Int32) (v9 : Int32), fixN (fun _ _ _ _ _ _ => none) (FX12_rank_226 ρ a0 a1 a2 k284) fu σ v3 v4 v7 v8 v9 = some res → G X 0 0 n σ ρ 226 [(0, vr X a0), (1, .int a1), (2, .int a2), (3, .int v3), (4, .int v4), (7, .int v7), (8, .int v8), (9, .int v9)] [] := by
  refine fixN_ind (P := fun (f : Sto → Int32 → Int32 → Int32 → Int32 → Int32 → Option (Int32 × Sto)) => ∀ (σ : Sto) (v3 : Int32) (v4 : Int32) (v7 : Int32) (v8 : Int32) (v9 : Int32), f σ v3 v4 v7 v8 v9 = some res → G X 0 0 n σ ρ 226 [(0, vr X a0), (1, .int a1), (2, .int a2), (3, .int v3), (4, .int v4), (7, .int v7), (8, .int v8), (9, .int v9)] []) ?_ ?_ fu
  · intro σ v3 v4 v7 v8 v9 hM; cases hM
  · intro rec ih σ v3 v4 v7 v8 v9 hM
    unfold FX12_rank_226 at hM
    refine g_iload hC dX12_rank_226 rfl 7 rfl ?_
    refine g_iload_n hC dX12_rank_228 rfl 2 rfl ?_
    refine g_icmp_ge (tgt := 284) hC dX12_rank_229 rfl (by decide) hM (fun hM => ?_) (fun hM => ?_)
    · exact g_sub [0, 1, 2, 3, 4, 5] (hk284 _ _ _ _ hM) rfl
    · refine g_aload_n hC dX12_rank_232 rfl 0 rfl ?_
      refine fg_11_12 hC h0 k_1094 dX12_rank_233 rfl hM (fun j1 hj1 hM => ?_)
      refine g_bipush (v := 6) hC dX12_rank_236 rfl ib_6 ?_
      refine g_iload hC dX12_rank_238 rfl 5 rfl ?_
      refine g_imul hC dX12_rank_240 rfl ?_
      refine g_iload hC dX12_rank_241 rfl 7 rfl ?_
      refine g_iadd hC dX12_rank_243 rfl ?_
      refine g_aload_n hC dX12_rank_244 rfl 0 rfl ?_
      refine g_aload_n hC dX12_rank_245 rfl 0 rfl ?_
      refine fg_11_12 hC h0 k_1094 dX12_rank_246 rfl hM (fun j2 hj2 hM => ?_)
      refine g_bipush (v := 6) hC dX12_rank_249 rfl ib_6 ?_
      refine g_iload hC dX12_rank_251 rfl 5 rfl ?_
      refine g_imul hC dX12_rank_253 rfl ?_
      refine g_iload hC dX12_rank_254 rfl 7 rfl ?_
      refine g_iadd hC dX12_rank_256 rfl ?_
      refine g_iald hC hj2 dX12_rank_257 rfl hM (fun x3 hM => ?_)
      refine g_iload hC dX12_rank_258 rfl 6 rfl ?_
      refine g_aload_n hC dX12_rank_260 rfl 0 rfl ?_
      refine fg_11_12 hC h0 k_1094 dX12_rank_261 rfl hM (fun j4 hj4 hM => ?_)
      refine g_bipush (v := 6) hC dX12_rank_264 rfl ib_6 ?_
      refine g_iload_n hC dX12_rank_266 rfl 3 rfl ?_
      refine g_imul hC dX12_rank_267 rfl ?_
      refine g_iload hC dX12_rank_268 rfl 7 rfl ?_
      refine g_iadd hC dX12_rank_270 rfl ?_
      refine g_iald hC hj4 dX12_rank_271 rfl hM (fun x5 hM => ?_)
      refine g_imul hC dX12_rank_272 rfl ?_
      refine g_isub hC dX12_rank_273 rfl ?_
      refine g_callVi (As := [.int ((x3 - (v8 * x5)))]) (st' := [.int ((((6 : Int32) * v7) + v9)), vr X j1]) (k := a0) (L' := 0) hC Y_X12_rest I_X12_rest k_1203 ⟨by decide, by decide⟩ h0 (ci := 11) (by decide) rfl dX12_rank_274 rfl rfl rfl (Nat.le_of_ble_eq_true rfl) ⟨Nat.zero_le _, Nat.zero_le _⟩ hM (fun c hc => c_X12_rest (xE X) a0 h0 ((x3 - (v8 * x5))) c hc) (fun c6 hM => ?_)
      refine g_iast hC hj1 dX12_rank_277 rfl hM (fun σ7 hM => ?_)
      refine g_iinc (v := 1) hC (fun y8 => [(9, .int y8), (0, vr X a0), (1, .int a1), (2, .int a2), (3, .int v3), (4, .int v4), (7, .int v7), (8, .int v8)]) dX12_rank_278 rfl hM (j := 7) rfl ic_1 hml (by decide) (fun _ => rfl) (fun y8 hM => ?_)
      refine g_goto (tgt := 226) hC dX12_rank_281 rfl (by decide) ?_
      exact g_sub [1, 2, 3, 4, 5, 6, 7, 0] (ih _ _ _ _ _ _ hM) rfl
def BX12_rank_290 (ρ : Rho) (a0 : Nat) (a1 : Int32) (a2 : Int32) (rec : Sto → Int32 → Int32 → Option (Int32 × Sto)) (σ : Sto) (v3 : Int32) (v4 : Int32) : Option (Int32 × Sto) :=
  bn (v3 + (1 : Int32)) fun y1 =>
  BX12_rank_293 ρ a0 a1 a2 rec σ y1 v4
set_option maxHeartbeats 4000000 in
set_option maxRecDepth 100000 in
theorem bX12_rank_290 {X : CX} {n : Nat} {ρ : Rho} {res : Int32 × Sto} (hC : Cx X cX12_rank RX12 1) (hml : (xc X).maxLocals = 10) (hR : RtT (some .int) X cX12_rank n res.1 res.2 ρ) (a0 : Nat) (a1 : Int32) (a2 : Int32) (h0 : Sh n a0 11) (rec : Sto → Int32 → Int32 → Option (Int32 × Sto)) (ih : ∀ (σ : Sto) (v3 : Int32) (v4 : Int32), rec σ v3 v4 = some res → G X 0 0 n σ ρ 5 [(0, vr X a0), (1, .int a1), (2, .int a2), (3, .int v3), (4, .int v4)] []) : ∀ (σ : Sto) (v3 : Int32) (v4 : Int32), BX12_rank_290 ρ a0 a1 a2 rec σ v3 v4 = some res → G X 0 0 n σ ρ 290 [(0, vr X a0), (1, .int a1), (2, .int a2), (3, .int v3), (4, .int v4)] [] := by
  intro σ v3 v4 hM
  unfold BX12_rank_290 at hM
  refine g_iinc (v := 1) hC (fun y1 => [(3, .int y1), (0, vr X a0), (1, .int a1), (2, .int a2), (4, .int v4)]) dX12_rank_290 rfl hM (j := 3) rfl ic_1 hml (by decide) (fun _ => rfl) (fun y1 hM => ?_)
  exact g_sub [1, 2, 3, 0, 4] ((bX12_rank_293 hC hml hR a0 a1 a2 h0 rec ih ) _ _ _ hM) rfl
def FX12_rank_188 (ρ : Rho) (a0 : Nat) (a1 : Int32) (a2 : Int32) (k290 : Sto → Int32 → Int32 → Option (Int32 × Sto)) (rec : Sto → Int32 → Int32 → Int32 → Option (Int32 × Sto)) (σ : Sto) (v3 : Int32) (v4 : Int32) (v7 : Int32) : Option (Int32 × Sto) :=
  if a1 ≤ v7 then
    k290 σ v3 v4
  else
    Option.bind (ρ a0 12) fun j1 =>
    Option.bind (ag σ j1 ((((6 : Int32) * v7) + v4))) fun x2 =>
    bn x2 fun y3 =>
    if v7 = v3 then
      BX12_rank_284 ρ a0 a1 a2 rec k290 σ v3 v4 v7
    else
      if y3 = 0 then
        BX12_rank_284 ρ a0 a1 a2 rec k290 σ v3 v4 v7
      else
        bn ((0 : Int32)) fun y4 =>
        fixN (fun _ _ _ _ _ _ => none) (FX12_rank_226 ρ a0 a1 a2 (BX12_rank_284 ρ a0 a1 a2 rec k290)) FU σ v3 v4 v7 y3 y4
set_option maxHeartbeats 4000000 in
set_option maxRecDepth 100000 in
theorem bX12_rank_188 {X : CX} {n : Nat} {ρ : Rho} {res : Int32 × Sto} (hC : Cx X cX12_rank RX12 1) (hml : (xc X).maxLocals = 10) (hR : RtT (some .int) X cX12_rank n res.1 res.2 ρ) (a0 : Nat) (a1 : Int32) (a2 : Int32) (h0 : Sh n a0 11) (k290 : Sto → Int32 → Int32 → Option (Int32 × Sto)) (hk290 : ∀ (σ : Sto) (v3 : Int32) (v4 : Int32), k290 σ v3 v4 = some res → G X 0 0 n σ ρ 290 [(0, vr X a0), (1, .int a1), (2, .int a2), (3, .int v3), (4, .int v4)] []) (fu : Nat) : ∀ (σ : Sto) (v3 : Int32) (v4 : Int32) (v7 : Int32), fixN (fun _ _ _ _ => none) (FX12_rank_188 ρ a0 a1 a2 k290) fu σ v3 v4 v7 = some res → G X 0 0 n σ ρ 188 [(0, vr X a0), (1, .int a1), (2, .int a2), (3, .int v3), (4, .int v4), (7, .int v7)] [] := by
  refine fixN_ind (P := fun (f : Sto → Int32 → Int32 → Int32 → Option (Int32 × Sto)) => ∀ (σ : Sto) (v3 : Int32) (v4 : Int32) (v7 : Int32), f σ v3 v4 v7 = some res → G X 0 0 n σ ρ 188 [(0, vr X a0), (1, .int a1), (2, .int a2), (3, .int v3), (4, .int v4), (7, .int v7)] []) ?_ ?_ fu
  · intro σ v3 v4 v7 hM; cases hM
  · intro rec ih σ v3 v4 v7 hM
    unfold FX12_rank_188 at hM
    refine g_iload hC dX12_rank_188 rfl 5 rfl ?_
    refine g_iload_n hC dX12_rank_190 rfl 1 rfl ?_
    refine g_icmp_ge (tgt := 290) hC dX12_rank_191 rfl (by decide) hM (fun hM => ?_) (fun hM => ?_)
    · exact g_sub [0, 1, 2, 3, 4] (hk290 _ _ _ hM) rfl
    · refine g_aload_n hC dX12_rank_194 rfl 0 rfl ?_
      refine fg_11_12 hC h0 k_1094 dX12_rank_195 rfl hM (fun j1 hj1 hM => ?_)
      refine g_bipush (v := 6) hC dX12_rank_198 rfl ib_6 ?_
      refine g_iload hC dX12_rank_200 rfl 5 rfl ?_
      refine g_imul hC dX12_rank_202 rfl ?_
      refine g_iload hC dX12_rank_203 rfl 4 rfl ?_
      refine g_iadd hC dX12_rank_205 rfl ?_
      refine g_iald hC hj1 dX12_rank_206 rfl hM (fun x2 hM => ?_)
      refine g_istore hC (fun y3 => [(8, .int y3), (0, vr X a0), (1, .int a1), (2, .int a2), (3, .int v3), (4, .int v4), (7, .int v7)]) dX12_rank_207 rfl hM hml (by decide) (fun _ => rfl) (fun y3 hM => ?_)
      refine g_iload hC dX12_rank_209 rfl 6 rfl ?_
      refine g_iload_n hC dX12_rank_211 rfl 4 rfl ?_
      refine g_icmp_eq (tgt := 284) hC dX12_rank_212 rfl (by decide) hM (fun hM => ?_) (fun hM => ?_)
      · exact g_sub [1, 2, 3, 4, 5, 6] ((bX12_rank_284 hC hml hR a0 a1 a2 h0 rec ih k290 hk290) _ _ _ _ hM) rfl
      · refine g_iload hC dX12_rank_215 rfl 0 rfl ?_
        refine g_if_ne (tgt := 223) hC dX12_rank_217 rfl (by decide) hM (fun hM => ?_) (fun hM => ?_)
        · refine g_iconst (v := 0) hC dX12_rank_223 rfl ic_0 ?_
          refine g_istore hC (fun y4 => [(9, .int y4), (8, .int y3), (0, vr X a0), (1, .int a1), (2, .int a2), (3, .int v3), (4, .int v4), (7, .int v7)]) dX12_rank_224 rfl hM hml (by decide) (fun _ => rfl) (fun y4 hM => ?_)
          exact g_sub [2, 3, 4, 5, 6, 7, 1, 0] ((bX12_rank_226 hC hml hR a0 a1 a2 h0 (BX12_rank_284 ρ a0 a1 a2 rec k290) (bX12_rank_284 hC hml hR a0 a1 a2 h0 rec ih k290 hk290) FU) _ _ _ _ _ _ hM) rfl
        · refine g_goto (tgt := 284) hC dX12_rank_220 rfl (by decide) ?_
          exact g_sub [1, 2, 3, 4, 5, 6] ((bX12_rank_284 hC hml hR a0 a1 a2 h0 rec ih k290 hk290) _ _ _ _ hM) rfl
def BX12_rank_185 (ρ : Rho) (a0 : Nat) (a1 : Int32) (a2 : Int32) (rec : Sto → Int32 → Int32 → Option (Int32 × Sto)) (σ : Sto) (v3 : Int32) (v4 : Int32) : Option (Int32 × Sto) :=
  bn ((0 : Int32)) fun y1 =>
  fixN (fun _ _ _ _ => none) (FX12_rank_188 ρ a0 a1 a2 (BX12_rank_290 ρ a0 a1 a2 rec)) FU σ v3 v4 y1
set_option maxHeartbeats 4000000 in
set_option maxRecDepth 100000 in
theorem bX12_rank_185 {X : CX} {n : Nat} {ρ : Rho} {res : Int32 × Sto} (hC : Cx X cX12_rank RX12 1) (hml : (xc X).maxLocals = 10) (hR : RtT (some .int) X cX12_rank n res.1 res.2 ρ) (a0 : Nat) (a1 : Int32) (a2 : Int32) (h0 : Sh n a0 11) (rec : Sto → Int32 → Int32 → Option (Int32 × Sto)) (ih : ∀ (σ : Sto) (v3 : Int32) (v4 : Int32), rec σ v3 v4 = some res → G X 0 0 n σ ρ 5 [(0, vr X a0), (1, .int a1), (2, .int a2), (3, .int v3), (4, .int v4)] []) : ∀ (σ : Sto) (v3 : Int32) (v4 : Int32), BX12_rank_185 ρ a0 a1 a2 rec σ v3 v4 = some res → G X 0 0 n σ ρ 185 [(0, vr X a0), (1, .int a1), (2, .int a2), (3, .int v3), (4, .int v4)] [] := by
  intro σ v3 v4 hM
  unfold BX12_rank_185 at hM
  refine g_iconst (v := 0) hC dX12_rank_185 rfl ic_0 ?_
  refine g_istore hC (fun y1 => [(7, .int y1), (0, vr X a0), (1, .int a1), (2, .int a2), (3, .int v3), (4, .int v4)]) dX12_rank_186 rfl hM hml (by decide) (fun _ => rfl) (fun y1 hM => ?_)
  exact g_sub [1, 2, 3, 4, 5, 0] ((bX12_rank_188 hC hml hR a0 a1 a2 h0 (BX12_rank_290 ρ a0 a1 a2 rec) (bX12_rank_290 hC hml hR a0 a1 a2 h0 rec ih ) FU) _ _ _ _ hM) rfl
def FX12_rank_141 (ρ : Rho) (a0 : Nat) (a1 : Int32) (a2 : Int32) (k185 : Sto → Int32 → Int32 → Option (Int32 × Sto)) (rec : Sto → Int32 → Int32 → Int32 → Int32 → Option (Int32 × Sto)) (σ : Sto) (v3 : Int32) (v4 : Int32) (v6 : Int32) (v7 : Int32) : Option (Int32 × Sto) :=
  if a2 ≤ v7 then
    k185 σ v3 v4
  else
    Option.bind (ρ a0 12) fun j1 =>
    Option.bind (ρ a0 12) fun j2 =>
    Option.bind (ag σ j2 ((((6 : Int32) * v3) + v7))) fun x3 =>
    Option.bind (rmi ((x3 * v6)) ((σ a0 7))) fun z4 =>
    Option.bind (ap σ j1 ((((6 : Int32) * v3) + v7)) z4) fun σ5 =>
    bn (v7 + (1 : Int32)) fun y6 =>
    rec σ5 v3 v4 v6 y6
set_option maxHeartbeats 4000000 in
set_option maxRecDepth 100000 in
theorem bX12_rank_141 {X : CX} {n : Nat} {ρ : Rho} {res : Int32 × Sto} (hC : Cx X cX12_rank RX12 1) (hml : (xc X).maxLocals = 10) (hR : RtT (some .int) X cX12_rank n res.1 res.2 ρ) (a0 : Nat) (a1 : Int32) (a2 : Int32) (h0 : Sh n a0 11) (k185 : Sto → Int32 → Int32 → Option (Int32 × Sto)) (hk185 : ∀ (σ : Sto) (v3 : Int32) (v4 : Int32), k185 σ v3 v4 = some res → G X 0 0 n σ ρ 185 [(0, vr X a0), (1, .int a1), (2, .int a2), (3, .int v3), (4, .int v4)] []) (fu : Nat) : ∀ (σ : Sto) (v3 : Int32) (v4 : Int32) (v6 : Int32) (v7 : Int32), fixN (fun _ _ _ _ _ => none) (FX12_rank_141 ρ a0 a1 a2 k185) fu σ v3 v4 v6 v7 = some res → G X 0 0 n σ ρ 141 [(0, vr X a0), (1, .int a1), (2, .int a2), (3, .int v3), (4, .int v4), (6, .int v6), (7, .int v7)] [] := by
  refine fixN_ind (P := fun (f : Sto → Int32 → Int32 → Int32 → Int32 → Option (Int32 × Sto)) => ∀ (σ : Sto) (v3 : Int32) (v4 : Int32) (v6 : Int32) (v7 : Int32), f σ v3 v4 v6 v7 = some res → G X 0 0 n σ ρ 141 [(0, vr X a0), (1, .int a1), (2, .int a2), (3, .int v3), (4, .int v4), (6, .int v6), (7, .int v7)] []) ?_ ?_ fu
  · intro σ v3 v4 v6 v7 hM; cases hM
  · intro rec ih σ v3 v4 v6 v7 hM
    unfold FX12_rank_141 at hM
    refine g_iload hC dX12_rank_141 rfl 6 rfl ?_
    refine g_iload_n hC dX12_rank_143 rfl 2 rfl ?_
    refine g_icmp_ge (tgt := 185) hC dX12_rank_144 rfl (by decide) hM (fun hM => ?_) (fun hM => ?_)
    · exact g_sub [0, 1, 2, 3, 4] (hk185 _ _ _ hM) rfl
    · refine g_aload_n hC dX12_rank_147 rfl 0 rfl ?_
      refine fg_11_12 hC h0 k_1094 dX12_rank_148 rfl hM (fun j1 hj1 hM => ?_)
      refine g_bipush (v := 6) hC dX12_rank_151 rfl ib_6 ?_
      refine g_iload_n hC dX12_rank_153 rfl 3 rfl ?_
      refine g_imul hC dX12_rank_154 rfl ?_
      refine g_iload hC dX12_rank_155 rfl 6 rfl ?_
      refine g_iadd hC dX12_rank_157 rfl ?_
      refine g_aload_n hC dX12_rank_158 rfl 0 rfl ?_
      refine fg_11_12 hC h0 k_1094 dX12_rank_159 rfl hM (fun j2 hj2 hM => ?_)
      refine g_bipush (v := 6) hC dX12_rank_162 rfl ib_6 ?_
      refine g_iload_n hC dX12_rank_164 rfl 3 rfl ?_
      refine g_imul hC dX12_rank_165 rfl ?_
      refine g_iload hC dX12_rank_166 rfl 6 rfl ?_
      refine g_iadd hC dX12_rank_168 rfl ?_
      refine g_iald hC hj2 dX12_rank_169 rfl hM (fun x3 hM => ?_)
      refine g_iload hC dX12_rank_170 rfl 5 rfl ?_
      refine g_imul hC dX12_rank_172 rfl ?_
      refine g_aload_n hC dX12_rank_173 rfl 0 rfl ?_
      refine fg_11_7 hC h0 k_1089 dX12_rank_174 rfl ?_
      refine g_irem hC dX12_rank_177 rfl hM (fun z4 hM => ?_)
      refine g_iast hC hj1 dX12_rank_178 rfl hM (fun σ5 hM => ?_)
      refine g_iinc (v := 1) hC (fun y6 => [(7, .int y6), (0, vr X a0), (1, .int a1), (2, .int a2), (3, .int v3), (4, .int v4), (6, .int v6)]) dX12_rank_179 rfl hM (j := 6) rfl ic_1 hml (by decide) (fun _ => rfl) (fun y6 hM => ?_)
      refine g_goto (tgt := 141) hC dX12_rank_182 rfl (by decide) ?_
      exact g_sub [1, 2, 3, 4, 5, 6, 0] (ih _ _ _ _ _ hM) rfl
def BX12_rank_120 (ρ : Rho) (a0 : Nat) (a1 : Int32) (a2 : Int32) (rec : Sto → Int32 → Int32 → Option (Int32 × Sto)) (σ : Sto) (v3 : Int32) (v4 : Int32) : Option (Int32 × Sto) :=
  Option.bind (ρ a0 12) fun j1 =>
  Option.bind (ag σ j1 ((((6 : Int32) * v3) + v4))) fun x2 =>
  Option.bind (MX12_inverse σ a0 x2) fun c3 =>
  bn c3 fun y4 =>
  bn ((0 : Int32)) fun y5 =>
  fixN (fun _ _ _ _ _ => none) (FX12_rank_141 ρ a0 a1 a2 (BX12_rank_185 ρ a0 a1 a2 rec)) FU σ v3 v4 y4 y5
set_option maxHeartbeats 4000000 in
set_option maxRecDepth 100000 in
theorem bX12_rank_120 {X : CX} {n : Nat} {ρ : Rho} {res : Int32 × Sto} (hC : Cx X cX12_rank RX12 1) (hml : (xc X).maxLocals = 10) (hR : RtT (some .int) X cX12_rank n res.1 res.2 ρ) (a0 : Nat) (a1 : Int32) (a2 : Int32) (h0 : Sh n a0 11) (rec : Sto → Int32 → Int32 → Option (Int32 × Sto)) (ih : ∀ (σ : Sto) (v3 : Int32) (v4 : Int32), rec σ v3 v4 = some res → G X 0 0 n σ ρ 5 [(0, vr X a0), (1, .int a1), (2, .int a2), (3, .int v3), (4, .int v4)] []) : ∀ (σ : Sto) (v3 : Int32) (v4 : Int32), BX12_rank_120 ρ a0 a1 a2 rec σ v3 v4 = some res → G X 0 0 n σ ρ 120 [(0, vr X a0), (1, .int a1), (2, .int a2), (3, .int v3), (4, .int v4)] [] := by
  intro σ v3 v4 hM
  unfold BX12_rank_120 at hM
  refine g_aload_n hC dX12_rank_120 rfl 0 rfl ?_
  refine g_aload_n hC dX12_rank_121 rfl 0 rfl ?_
  refine fg_11_12 hC h0 k_1094 dX12_rank_122 rfl hM (fun j1 hj1 hM => ?_)
  refine g_bipush (v := 6) hC dX12_rank_125 rfl ib_6 ?_
  refine g_iload_n hC dX12_rank_127 rfl 3 rfl ?_
  refine g_imul hC dX12_rank_128 rfl ?_
  refine g_iload hC dX12_rank_129 rfl 4 rfl ?_
  refine g_iadd hC dX12_rank_131 rfl ?_
  refine g_iald hC hj1 dX12_rank_132 rfl hM (fun x2 hM => ?_)
  refine g_callVi (As := [.int x2]) (st' := []) (k := a0) (L' := 0) hC Y_X12_inverse I_X12_inverse k_1219 ⟨by decide, by decide⟩ h0 (ci := 11) (by decide) rfl dX12_rank_133 rfl rfl rfl (Nat.le_of_ble_eq_true rfl) ⟨Nat.zero_le _, Nat.zero_le _⟩ hM (fun c hc => c_X12_inverse (xE X) a0 h0 x2 c hc) (fun c3 hM => ?_)
  refine g_istore hC (fun y4 => [(6, .int y4), (0, vr X a0), (1, .int a1), (2, .int a2), (3, .int v3), (4, .int v4)]) dX12_rank_136 rfl hM hml (by decide) (fun _ => rfl) (fun y4 hM => ?_)
  refine g_iconst (v := 0) hC dX12_rank_138 rfl ic_0 ?_
  refine g_istore hC (fun y5 => [(7, .int y5), (6, .int y4), (0, vr X a0), (1, .int a1), (2, .int a2), (3, .int v3), (4, .int v4)]) dX12_rank_139 rfl hM hml (by decide) (fun _ => rfl) (fun y5 hM => ?_)
  exact g_sub [2, 3, 4, 5, 6, 1, 0] ((bX12_rank_141 hC hml hR a0 a1 a2 h0 (BX12_rank_185 ρ a0 a1 a2 rec) (bX12_rank_185 hC hml hR a0 a1 a2 h0 rec ih ) FU) _ _ _ _ _ hM) rfl
def FX12_rank_54 (ρ : Rho) (a0 : Nat) (a1 : Int32) (a2 : Int32) (k120 : Sto → Int32 → Int32 → Option (Int32 × Sto)) (rec : Sto → Int32 → Int32 → Int32 → Int32 → Option (Int32 × Sto)) (σ : Sto) (v3 : Int32) (v4 : Int32) (v5 : Int32) (v6 : Int32) : Option (Int32 × Sto) :=
  if a2 ≤ v6 then
    k120 σ v3 v4
  else
    Option.bind (ρ a0 12) fun j1 =>
    Option.bind (ag σ j1 ((((6 : Int32) * v5) + v6))) fun x2 =>
    bn x2 fun y3 =>
    Option.bind (ρ a0 12) fun j4 =>
    Option.bind (ρ a0 12) fun j5 =>
    Option.bind (ag σ j5 ((((6 : Int32) * v3) + v6))) fun x6 =>
    Option.bind (ap σ j4 ((((6 : Int32) * v5) + v6)) x6) fun σ7 =>
    Option.bind (ρ a0 12) fun j8 =>
    Option.bind (ap σ7 j8 ((((6 : Int32) * v3) + v6)) y3) fun σ9 =>
    bn (v6 + (1 : Int32)) fun y10 =>
    rec σ9 v3 v4 v5 y10
set_option maxHeartbeats 4000000 in
set_option maxRecDepth 100000 in
theorem bX12_rank_54 {X : CX} {n : Nat} {ρ : Rho} {res : Int32 × Sto} (hC : Cx X cX12_rank RX12 1) (hml : (xc X).maxLocals = 10) (hR : RtT (some .int) X cX12_rank n res.1 res.2 ρ) (a0 : Nat) (a1 : Int32) (a2 : Int32) (h0 : Sh n a0 11) (k120 : Sto → Int32 → Int32 → Option (Int32 × Sto)) (hk120 : ∀ (σ : Sto) (v3 : Int32) (v4 : Int32), k120 σ v3 v4 = some res → G X 0 0 n σ ρ 120 [(0, vr X a0), (1, .int a1), (2, .int a2), (3, .int v3), (4, .int v4)] []) (fu : Nat) : ∀ (σ : Sto) (v3 : Int32) (v4 : Int32) (v5 : Int32) (v6 : Int32), fixN (fun _ _ _ _ _ => none) (FX12_rank_54 ρ a0 a1 a2 k120) fu σ v3 v4 v5 v6 = some res → G X 0 0 n σ ρ 54 [(0, vr X a0), (1, .int a1), (2, .int a2), (3, .int v3), (4, .int v4), (5, .int v5), (6, .int v6)] [] := by
  refine fixN_ind (P := fun (f : Sto → Int32 → Int32 → Int32 → Int32 → Option (Int32 × Sto)) => ∀ (σ : Sto) (v3 : Int32) (v4 : Int32) (v5 : Int32) (v6 : Int32), f σ v3 v4 v5 v6 = some res → G X 0 0 n σ ρ 54 [(0, vr X a0), (1, .int a1), (2, .int a2), (3, .int v3), (4, .int v4), (5, .int v5), (6, .int v6)] []) ?_ ?_ fu
  · intro σ v3 v4 v5 v6 hM; cases hM
  · intro rec ih σ v3 v4 v5 v6 hM
    unfold FX12_rank_54 at hM
    refine g_iload hC dX12_rank_54 rfl 6 rfl ?_
    refine g_iload_n hC dX12_rank_56 rfl 2 rfl ?_
    refine g_icmp_ge (tgt := 120) hC dX12_rank_57 rfl (by decide) hM (fun hM => ?_) (fun hM => ?_)
    · exact g_sub [0, 1, 2, 3, 4] (hk120 _ _ _ hM) rfl
    · refine g_aload_n hC dX12_rank_60 rfl 0 rfl ?_
      refine fg_11_12 hC h0 k_1094 dX12_rank_61 rfl hM (fun j1 hj1 hM => ?_)
      refine g_bipush (v := 6) hC dX12_rank_64 rfl ib_6 ?_
      refine g_iload hC dX12_rank_66 rfl 5 rfl ?_
      refine g_imul hC dX12_rank_68 rfl ?_
      refine g_iload hC dX12_rank_69 rfl 6 rfl ?_
      refine g_iadd hC dX12_rank_71 rfl ?_
      refine g_iald hC hj1 dX12_rank_72 rfl hM (fun x2 hM => ?_)
      refine g_istore hC (fun y3 => [(7, .int y3), (0, vr X a0), (1, .int a1), (2, .int a2), (3, .int v3), (4, .int v4), (5, .int v5), (6, .int v6)]) dX12_rank_73 rfl hM hml (by decide) (fun _ => rfl) (fun y3 hM => ?_)
      refine g_aload_n hC dX12_rank_75 rfl 1 rfl ?_
      refine fg_11_12 hC h0 k_1094 dX12_rank_76 rfl hM (fun j4 hj4 hM => ?_)
      refine g_bipush (v := 6) hC dX12_rank_79 rfl ib_6 ?_
      refine g_iload hC dX12_rank_81 rfl 6 rfl ?_
      refine g_imul hC dX12_rank_83 rfl ?_
      refine g_iload hC dX12_rank_84 rfl 7 rfl ?_
      refine g_iadd hC dX12_rank_86 rfl ?_
      refine g_aload_n hC dX12_rank_87 rfl 1 rfl ?_
      refine fg_11_12 hC h0 k_1094 dX12_rank_88 rfl hM (fun j5 hj5 hM => ?_)
      refine g_bipush (v := 6) hC dX12_rank_91 rfl ib_6 ?_
      refine g_iload_n hC dX12_rank_93 rfl 4 rfl ?_
      refine g_imul hC dX12_rank_94 rfl ?_
      refine g_iload hC dX12_rank_95 rfl 7 rfl ?_
      refine g_iadd hC dX12_rank_97 rfl ?_
      refine g_iald hC hj5 dX12_rank_98 rfl hM (fun x6 hM => ?_)
      refine g_iast hC hj4 dX12_rank_99 rfl hM (fun σ7 hM => ?_)
      refine g_aload_n hC dX12_rank_100 rfl 1 rfl ?_
      refine fg_11_12 hC h0 k_1094 dX12_rank_101 rfl hM (fun j8 hj8 hM => ?_)
      refine g_bipush (v := 6) hC dX12_rank_104 rfl ib_6 ?_
      refine g_iload_n hC dX12_rank_106 rfl 4 rfl ?_
      refine g_imul hC dX12_rank_107 rfl ?_
      refine g_iload hC dX12_rank_108 rfl 7 rfl ?_
      refine g_iadd hC dX12_rank_110 rfl ?_
      refine g_iload hC dX12_rank_111 rfl 0 rfl ?_
      refine g_iast hC hj8 dX12_rank_113 rfl hM (fun σ9 hM => ?_)
      refine g_iinc (v := 1) hC (fun y10 => [(6, .int y10), (7, .int y3), (0, vr X a0), (1, .int a1), (2, .int a2), (3, .int v3), (4, .int v4), (5, .int v5)]) dX12_rank_114 rfl hM (j := 7) rfl ic_1 hml (by decide) (fun _ => rfl) (fun y10 hM => ?_)
      refine g_goto (tgt := 54) hC dX12_rank_117 rfl (by decide) ?_
      exact g_sub [2, 3, 4, 5, 6, 7, 0] (ih _ _ _ _ _ hM) rfl
def BX12_rank_42 (ρ : Rho) (a0 : Nat) (a1 : Int32) (a2 : Int32) (rec : Sto → Int32 → Int32 → Option (Int32 × Sto)) (σ : Sto) (v3 : Int32) (v4 : Int32) (v5 : Int32) : Option (Int32 × Sto) :=
  if v5 = a1 then
    BX12_rank_293 ρ a0 a1 a2 rec σ v3 v4
  else
    bn ((0 : Int32)) fun y1 =>
    fixN (fun _ _ _ _ _ => none) (FX12_rank_54 ρ a0 a1 a2 (BX12_rank_120 ρ a0 a1 a2 rec)) FU σ v3 v4 v5 y1
set_option maxHeartbeats 4000000 in
set_option maxRecDepth 100000 in
theorem bX12_rank_42 {X : CX} {n : Nat} {ρ : Rho} {res : Int32 × Sto} (hC : Cx X cX12_rank RX12 1) (hml : (xc X).maxLocals = 10) (hR : RtT (some .int) X cX12_rank n res.1 res.2 ρ) (a0 : Nat) (a1 : Int32) (a2 : Int32) (h0 : Sh n a0 11) (rec : Sto → Int32 → Int32 → Option (Int32 × Sto)) (ih : ∀ (σ : Sto) (v3 : Int32) (v4 : Int32), rec σ v3 v4 = some res → G X 0 0 n σ ρ 5 [(0, vr X a0), (1, .int a1), (2, .int a2), (3, .int v3), (4, .int v4)] []) : ∀ (σ : Sto) (v3 : Int32) (v4 : Int32) (v5 : Int32), BX12_rank_42 ρ a0 a1 a2 rec σ v3 v4 v5 = some res → G X 0 0 n σ ρ 42 [(0, vr X a0), (1, .int a1), (2, .int a2), (3, .int v3), (4, .int v4), (5, .int v5)] [] := by
  intro σ v3 v4 v5 hM
  unfold BX12_rank_42 at hM
  refine g_iload hC dX12_rank_42 rfl 5 rfl ?_
  refine g_iload_n hC dX12_rank_44 rfl 1 rfl ?_
  refine g_icmp_ne (tgt := 51) hC dX12_rank_45 rfl (by decide) hM (fun hM => ?_) (fun hM => ?_)
  · refine g_iconst (v := 0) hC dX12_rank_51 rfl ic_0 ?_
    refine g_istore hC (fun y1 => [(6, .int y1), (0, vr X a0), (1, .int a1), (2, .int a2), (3, .int v3), (4, .int v4), (5, .int v5)]) dX12_rank_52 rfl hM hml (by decide) (fun _ => rfl) (fun y1 hM => ?_)
    exact g_sub [1, 2, 3, 4, 5, 6, 0] ((bX12_rank_54 hC hml hR a0 a1 a2 h0 (BX12_rank_120 ρ a0 a1 a2 rec) (bX12_rank_120 hC hml hR a0 a1 a2 h0 rec ih ) FU) _ _ _ _ _ hM) rfl
  · refine g_goto (tgt := 293) hC dX12_rank_48 rfl (by decide) ?_
    exact g_sub [0, 1, 2, 3, 4] ((bX12_rank_293 hC hml hR a0 a1 a2 h0 rec ih ) _ _ _ hM) rfl
def FX12_rank_14 (ρ : Rho) (a0 : Nat) (a1 : Int32) (a2 : Int32) (k42 : Sto → Int32 → Int32 → Int32 → Option (Int32 × Sto)) (rec : Sto → Int32 → Int32 → Int32 → Option (Int32 × Sto)) (σ : Sto) (v3 : Int32) (v4 : Int32) (v5 : Int32) : Option (Int32 × Sto) :=
  if a1 ≤ v5 then
    k42 σ v3 v4 v5
  else
    Option.bind (ρ a0 12) fun j1 =>
    Option.bind (ag σ j1 ((((6 : Int32) * v5) + v4))) fun x2 =>
    if x2 = 0 then
      bn (v5 + (1 : Int32)) fun y3 =>
      rec σ v3 v4 y3
    else
      k42 σ v3 v4 v5
set_option maxHeartbeats 4000000 in
set_option maxRecDepth 100000 in
theorem bX12_rank_14 {X : CX} {n : Nat} {ρ : Rho} {res : Int32 × Sto} (hC : Cx X cX12_rank RX12 1) (hml : (xc X).maxLocals = 10) (hR : RtT (some .int) X cX12_rank n res.1 res.2 ρ) (a0 : Nat) (a1 : Int32) (a2 : Int32) (h0 : Sh n a0 11) (k42 : Sto → Int32 → Int32 → Int32 → Option (Int32 × Sto)) (hk42 : ∀ (σ : Sto) (v3 : Int32) (v4 : Int32) (v5 : Int32), k42 σ v3 v4 v5 = some res → G X 0 0 n σ ρ 42 [(0, vr X a0), (1, .int a1), (2, .int a2), (3, .int v3), (4, .int v4), (5, .int v5)] []) (fu : Nat) : ∀ (σ : Sto) (v3 : Int32) (v4 : Int32) (v5 : Int32), fixN (fun _ _ _ _ => none) (FX12_rank_14 ρ a0 a1 a2 k42) fu σ v3 v4 v5 = some res → G X 0 0 n σ ρ 14 [(0, vr X a0), (1, .int a1), (2, .int a2), (3, .int v3), (4, .int v4), (5, .int v5)] [] := by
  refine fixN_ind (P := fun (f : Sto → Int32 → Int32 → Int32 → Option (Int32 × Sto)) => ∀ (σ : Sto) (v3 : Int32) (v4 : Int32) (v5 : Int32), f σ v3 v4 v5 = some res → G X 0 0 n σ ρ 14 [(0, vr X a0), (1, .int a1), (2, .int a2), (3, .int v3), (4, .int v4), (5, .int v5)] []) ?_ ?_ fu
  · intro σ v3 v4 v5 hM; cases hM
  · intro rec ih σ v3 v4 v5 hM
    unfold FX12_rank_14 at hM
    refine g_iload hC dX12_rank_14 rfl 5 rfl ?_
    refine g_iload_n hC dX12_rank_16 rfl 1 rfl ?_
    refine g_icmp_ge (tgt := 42) hC dX12_rank_17 rfl (by decide) hM (fun hM => ?_) (fun hM => ?_)
    · exact g_sub [0, 1, 2, 3, 4, 5] (hk42 _ _ _ _ hM) rfl
    · refine g_aload_n hC dX12_rank_20 rfl 0 rfl ?_
      refine fg_11_12 hC h0 k_1094 dX12_rank_21 rfl hM (fun j1 hj1 hM => ?_)
      refine g_bipush (v := 6) hC dX12_rank_24 rfl ib_6 ?_
      refine g_iload hC dX12_rank_26 rfl 5 rfl ?_
      refine g_imul hC dX12_rank_28 rfl ?_
      refine g_iload hC dX12_rank_29 rfl 4 rfl ?_
      refine g_iadd hC dX12_rank_31 rfl ?_
      refine g_iald hC hj1 dX12_rank_32 rfl hM (fun x2 hM => ?_)
      refine g_if_ne (tgt := 42) hC dX12_rank_33 rfl (by decide) hM (fun hM => ?_) (fun hM => ?_)
      · exact g_sub [0, 1, 2, 3, 4, 5] (hk42 _ _ _ _ hM) rfl
      · refine g_iinc (v := 1) hC (fun y3 => [(5, .int y3), (0, vr X a0), (1, .int a1), (2, .int a2), (3, .int v3), (4, .int v4)]) dX12_rank_36 rfl hM (j := 5) rfl ic_1 hml (by decide) (fun _ => rfl) (fun y3 hM => ?_)
        refine g_goto (tgt := 14) hC dX12_rank_39 rfl (by decide) ?_
        exact g_sub [1, 2, 3, 4, 5, 0] (ih _ _ _ _ hM) rfl
def FX12_rank_5 (ρ : Rho) (a0 : Nat) (a1 : Int32) (a2 : Int32) (rec : Sto → Int32 → Int32 → Option (Int32 × Sto)) (σ : Sto) (v3 : Int32) (v4 : Int32) : Option (Int32 × Sto) :=
  if a2 ≤ v4 then
    some (v3, σ)
  else
    bn v3 fun y1 =>
    fixN (fun _ _ _ _ => none) (FX12_rank_14 ρ a0 a1 a2 (BX12_rank_42 ρ a0 a1 a2 rec)) FU σ v3 v4 y1
set_option maxHeartbeats 4000000 in
set_option maxRecDepth 100000 in
theorem bX12_rank_5 {X : CX} {n : Nat} {ρ : Rho} {res : Int32 × Sto} (hC : Cx X cX12_rank RX12 1) (hml : (xc X).maxLocals = 10) (hR : RtT (some .int) X cX12_rank n res.1 res.2 ρ) (a0 : Nat) (a1 : Int32) (a2 : Int32) (h0 : Sh n a0 11) (fu : Nat) : ∀ (σ : Sto) (v3 : Int32) (v4 : Int32), fixN (fun _ _ _ => none) (FX12_rank_5 ρ a0 a1 a2) fu σ v3 v4 = some res → G X 0 0 n σ ρ 5 [(0, vr X a0), (1, .int a1), (2, .int a2), (3, .int v3), (4, .int v4)] [] := by
  refine fixN_ind (P := fun (f : Sto → Int32 → Int32 → Option (Int32 × Sto)) => ∀ (σ : Sto) (v3 : Int32) (v4 : Int32), f σ v3 v4 = some res → G X 0 0 n σ ρ 5 [(0, vr X a0), (1, .int a1), (2, .int a2), (3, .int v3), (4, .int v4)] []) ?_ ?_ fu
  · intro σ v3 v4 hM; cases hM
  · intro rec ih σ v3 v4 hM
    unfold FX12_rank_5 at hM
    refine g_iload hC dX12_rank_5 rfl 4 rfl ?_
    refine g_iload_n hC dX12_rank_7 rfl 2 rfl ?_
    refine g_icmp_ge (tgt := 299) hC dX12_rank_8 rfl (by decide) hM (fun hM => ?_) (fun hM => ?_)
    · refine g_iload_n hC dX12_rank_299 rfl 3 rfl ?_
      cases hM
      exact g_reti hR dX12_rank_300 rfl
    · refine g_iload_n hC dX12_rank_11 rfl 3 rfl ?_
      refine g_istore hC (fun y1 => [(5, .int y1), (0, vr X a0), (1, .int a1), (2, .int a2), (3, .int v3), (4, .int v4)]) dX12_rank_12 rfl hM hml (by decide) (fun _ => rfl) (fun y1 hM => ?_)
      exact g_sub [1, 2, 3, 4, 5, 0] ((bX12_rank_14 hC hml hR a0 a1 a2 h0 (BX12_rank_42 ρ a0 a1 a2 rec) (bX12_rank_42 hC hml hR a0 a1 a2 h0 rec ih ) FU) _ _ _ _ hM) rfl
def MX12_rank (σ : Sto) (ρ : Rho) (a0 : Nat) (a1 : Int32) (a2 : Int32) : Option (Int32 × Sto) :=
  bn ((0 : Int32)) fun y1 =>
  bn ((0 : Int32)) fun y2 =>
  fixN (fun _ _ _ => none) (FX12_rank_5 ρ a0 a1 a2) FU σ y1 y2
set_option maxHeartbeats 4000000 in
set_option maxRecDepth 100000 in
theorem c_X12_rank (E : EX) {n : Nat} {σ : Sto} {ρ : Rho} (a0 : Nat) (h0 : Sh n a0 11) (a1 : Int32) (a2 : Int32) (res : Int32 × Sto) (hM : MX12_rank σ ρ a0 a1 a2 = some res) : CTi E yX12_rank cX12_rank 10 (some .int) 1 [.ref (eb E + a0), .int a1, .int a2] n σ ρ res.1 res.2 ρ := by
  refine ct_i (by decide +kernel) rfl (Nat.le_of_ble_eq_true rfl) (fun X hE hml hC hR => ?_)
  subst hE
  show G X 0 0 n σ ρ 0 [(0, vr X a0), (1, .int a1), (2, .int a2)] []
  replace hC : Cx X cX12_rank RX12 1 := hC
  unfold MX12_rank at hM
  refine g_iconst (v := 0) hC dX12_rank_0 rfl ic_0 ?_
  refine g_istore_n hC (fun y1 => [(3, .int y1), (0, vr X a0), (1, .int a1), (2, .int a2)]) dX12_rank_1 rfl hM hml (by decide) (fun _ => rfl) (fun y1 hM => ?_)
  refine g_iconst (v := 0) hC dX12_rank_2 rfl ic_0 ?_
  refine g_istore hC (fun y2 => [(4, .int y2), (3, .int y1), (0, vr X a0), (1, .int a1), (2, .int a2)]) dX12_rank_3 rfl hM hml (by decide) (fun _ => rfl) (fun y2 hM => ?_)
  exact g_sub [2, 3, 4, 1, 0] ((bX12_rank_5 hC hml hR a0 a1 a2 h0  FU) _ _ _ hM) rfl
