def BX12_text_64 (ρ : Rho) (a0 : Nat) (σ : Sto) (v1 : Int32) : Option (Int32 × Sto) :=
  Option.bind (MX12_isGood σ a0) fun c1 =>
  if c1 = 0 then
    some ((-1 : Int32), σ)
  else
    Option.bind (MX12_copies σ ρ a0 ((48 : Int32)) ((0 : Int32)) ((46 : Int32))) fun c2 =>
    bn (su c2 a0 6 ((0 : Int32))) fun σ3 =>
    some (v1, σ3)
set_option maxHeartbeats 4000000 in
set_option maxRecDepth 100000 in
theorem bX12_text_64 {X : CX} {n : Nat} {ρ : Rho} {res : Int32 × Sto} (hC : Cx X cX12_text RX12 6) (hml : (xc X).maxLocals = 2) (hR : RtT (some .int) X cX12_text n res.1 res.2 ρ) (a0 : Nat) (h0 : Sh n a0 11) : ∀ (σ : Sto) (v1 : Int32), BX12_text_64 ρ a0 σ v1 = some res → G X 0 0 n σ ρ 64 [(0, vr X a0), (1, .int v1)] [] := by
  intro σ v1 hM
  unfold BX12_text_64 at hM
  refine g_aload_n hC dX12_text_64 rfl 0 rfl ?_
  refine g_callVi (As := []) (st' := []) (k := a0) (L' := 0) hC Y_X12_isGood I_X12_isGood k_1478 ⟨by decide, by decide⟩ h0 (ci := 11) (by decide) rfl dX12_text_65 rfl rfl rfl (Nat.le_of_ble_eq_true rfl) ⟨Nat.zero_le _, Nat.zero_le _⟩ hM (fun c hc => c_X12_isGood (xE X) a0 h0 c hc) (fun c1 hM => ?_)
  refine g_if_ne (tgt := 73) hC dX12_text_68 rfl (by decide) hM (fun hM => ?_) (fun hM => ?_)
  · refine g_aload_n hC dX12_text_73 rfl 0 rfl ?_
    refine g_bipush (v := 48) hC dX12_text_74 rfl ib_48 ?_
    refine g_iconst (v := 0) hC dX12_text_76 rfl ic_0 ?_
    refine g_bipush (v := 46) hC dX12_text_77 rfl ib_46 ?_
    refine g_callVv0 (As := [.int ((48 : Int32)), .int ((0 : Int32)), .int ((46 : Int32))]) (st' := []) (k := a0) (L' := 0) hC Y_X12_copies I_X12_copies k_1158 ⟨by decide, by decide⟩ h0 (ci := 11) (by decide) rfl dX12_text_79 rfl rfl rfl (Nat.le_of_ble_eq_true rfl) ⟨Nat.zero_le _, Nat.zero_le _⟩ hM (fun c hc => c_X12_copies (xE X) a0 h0 ((48 : Int32)) ((0 : Int32)) ((46 : Int32)) c hc) (fun c2 hM => ?_)
    refine g_aload_n hC dX12_text_82 rfl 0 rfl ?_
    refine g_iconst (v := 0) hC dX12_text_83 rfl ic_0 ?_
    refine fp_11_6 hC h0 k_1088 dX12_text_84 rfl hM (fun σ3 hM => ?_)
    refine g_iload_n hC dX12_text_87 rfl 1 rfl ?_
    cases hM
    exact g_reti hR dX12_text_88 rfl
  · refine g_iconst (v := -1) hC dX12_text_71 rfl ic_m1 ?_
    obtain rfl := Option.some.inj hM
    exact g_reti hR dX12_text_72 rfl
def FX12_text_40 (ρ : Rho) (a0 : Nat) (k64 : Sto → Int32 → Option (Int32 × Sto)) (rec : Sto → Int32 → Option (Int32 × Sto)) (σ : Sto) (v1 : Int32) : Option (Int32 × Sto) :=
  Option.bind (MX12_isGood σ a0) fun c1 =>
  if c1 = 0 then
    k64 σ v1
  else
    if (σ a0 16) = 0 then
      k64 σ v1
    else
      Option.bind (MX12_readsLine σ ρ a0) fun c2 =>
      bn (v1 + (1 : Int32)) fun y3 =>
      rec c2 y3
set_option maxHeartbeats 4000000 in
set_option maxRecDepth 100000 in
theorem bX12_text_40 {X : CX} {n : Nat} {ρ : Rho} {res : Int32 × Sto} (hC : Cx X cX12_text RX12 6) (hml : (xc X).maxLocals = 2) (hR : RtT (some .int) X cX12_text n res.1 res.2 ρ) (a0 : Nat) (h0 : Sh n a0 11) (k64 : Sto → Int32 → Option (Int32 × Sto)) (hk64 : ∀ (σ : Sto) (v1 : Int32), k64 σ v1 = some res → G X 0 0 n σ ρ 64 [(0, vr X a0), (1, .int v1)] []) (fu : Nat) : ∀ (σ : Sto) (v1 : Int32), fixN (fun _ _ => none) (FX12_text_40 ρ a0 k64) fu σ v1 = some res → G X 0 0 n σ ρ 40 [(0, vr X a0), (1, .int v1)] [] := by
  refine fixN_ind (P := fun (f : Sto → Int32 → Option (Int32 × Sto)) => ∀ (σ : Sto) (v1 : Int32), f σ v1 = some res → G X 0 0 n σ ρ 40 [(0, vr X a0), (1, .int v1)] []) ?_ ?_ fu
  · intro σ v1 hM; cases hM
  · intro rec ih σ v1 hM
    unfold FX12_text_40 at hM
    refine g_aload_n hC dX12_text_40 rfl 0 rfl ?_
    refine g_callVi (As := []) (st' := []) (k := a0) (L' := 0) hC Y_X12_isGood I_X12_isGood k_1478 ⟨by decide, by decide⟩ h0 (ci := 11) (by decide) rfl dX12_text_41 rfl rfl rfl (Nat.le_of_ble_eq_true rfl) ⟨Nat.zero_le _, Nat.zero_le _⟩ hM (fun c hc => c_X12_isGood (xE X) a0 h0 c hc) (fun c1 hM => ?_)
    refine g_if_eq (tgt := 64) hC dX12_text_44 rfl (by decide) hM (fun hM => ?_) (fun hM => ?_)
    · exact g_sub [0, 1] (hk64 _ _ hM) rfl
    · refine g_aload_n hC dX12_text_47 rfl 0 rfl ?_
      refine fg_11_16 hC h0 k_1098 dX12_text_48 rfl ?_
      refine g_if_eq (tgt := 64) hC dX12_text_51 rfl (by decide) hM (fun hM => ?_) (fun hM => ?_)
      · exact g_sub [0, 1] (hk64 _ _ hM) rfl
      · refine g_aload_n hC dX12_text_54 rfl 0 rfl ?_
        refine g_callVv0 (As := []) (st' := []) (k := a0) (L' := 5) hC Y_X12_readsLine I_X12_readsLine k_1482 ⟨by decide, by decide⟩ h0 (ci := 11) (by decide) rfl dX12_text_55 rfl rfl rfl (Nat.le_of_ble_eq_true rfl) ⟨Nat.zero_le _, Nat.zero_le _⟩ hM (fun c hc => c_X12_readsLine (xE X) a0 h0 c hc) (fun c2 hM => ?_)
        refine g_iinc (v := 1) hC (fun y3 => [(1, .int y3), (0, vr X a0)]) dX12_text_58 rfl hM (j := 1) rfl ic_1 hml (by decide) (fun _ => rfl) (fun y3 hM => ?_)
        refine g_goto (tgt := 40) hC dX12_text_61 rfl (by decide) ?_
        exact g_sub [1, 0] (ih _ _ hM) rfl
def MX12_text (σ : Sto) (ρ : Rho) (a0 : Nat) : Option (Int32 × Sto) :=
  bn (su σ a0 14 ((σ a0 3))) fun σ1 =>
  bn (su σ1 a0 3 ((0 : Int32))) fun σ2 =>
  bn (su σ2 a0 4 ((0 : Int32))) fun σ3 =>
  bn (su σ3 a0 5 ((-1 : Int32))) fun σ4 =>
  bn (su σ4 a0 15 ((0 : Int32))) fun σ5 =>
  Option.bind (MX12_firsts σ5 ρ a0 ((48 : Int32))) fun c6 =>
  Option.bind (MX12_takes c6 ρ a0) fun c7 =>
  bn ((0 : Int32)) fun y8 =>
  fixN (fun _ _ => none) (FX12_text_40 ρ a0 (BX12_text_64 ρ a0)) FU c7 y8
set_option maxHeartbeats 4000000 in
set_option maxRecDepth 100000 in
theorem c_X12_text (E : EX) {n : Nat} {σ : Sto} {ρ : Rho} (a0 : Nat) (h0 : Sh n a0 11) (res : Int32 × Sto) (hM : MX12_text σ ρ a0 = some res) : CTi E yX12_text cX12_text 2 (some .int) 6 [.ref (eb E + a0)] n σ ρ res.1 res.2 ρ := by
  refine ct_i (by decide +kernel) rfl (Nat.le_of_ble_eq_true rfl) (fun X hE hml hC hR => ?_)
  subst hE
  show G X 0 0 n σ ρ 0 [(0, vr X a0)] []
  replace hC : Cx X cX12_text RX12 6 := hC
  unfold MX12_text at hM
  refine g_aload_n hC dX12_text_0 rfl 0 rfl ?_
  refine g_aload_n hC dX12_text_1 rfl 0 rfl ?_
  refine fg_11_3 hC h0 k_1085 dX12_text_2 rfl ?_
  refine fp_11_14 hC h0 k_1096 dX12_text_5 rfl hM (fun σ1 hM => ?_)
  refine g_aload_n hC dX12_text_8 rfl 0 rfl ?_
  refine g_iconst (v := 0) hC dX12_text_9 rfl ic_0 ?_
  refine fp_11_3 hC h0 k_1085 dX12_text_10 rfl hM (fun σ2 hM => ?_)
  refine g_aload_n hC dX12_text_13 rfl 0 rfl ?_
  refine g_iconst (v := 0) hC dX12_text_14 rfl ic_0 ?_
  refine fp_11_4 hC h0 k_1086 dX12_text_15 rfl hM (fun σ3 hM => ?_)
  refine g_aload_n hC dX12_text_18 rfl 0 rfl ?_
  refine g_iconst (v := -1) hC dX12_text_19 rfl ic_m1 ?_
  refine fp_11_5 hC h0 k_1087 dX12_text_20 rfl hM (fun σ4 hM => ?_)
  refine g_aload_n hC dX12_text_23 rfl 0 rfl ?_
  refine g_iconst (v := 0) hC dX12_text_24 rfl ic_0 ?_
  refine fp_11_15 hC h0 k_1097 dX12_text_25 rfl hM (fun σ5 hM => ?_)
  refine g_aload_n hC dX12_text_28 rfl 0 rfl ?_
  refine g_bipush (v := 48) hC dX12_text_29 rfl ib_48 ?_
  refine g_callVv0 (As := [.int ((48 : Int32))]) (st' := []) (k := a0) (L' := 0) hC Y_X12_firsts I_X12_firsts k_1078 ⟨by decide, by decide⟩ h0 (ci := 11) (by decide) rfl dX12_text_31 rfl rfl rfl (Nat.le_of_ble_eq_true rfl) ⟨Nat.zero_le _, Nat.zero_le _⟩ hM (fun c hc => c_X12_firsts (xE X) a0 h0 ((48 : Int32)) c hc) (fun c6 hM => ?_)
  refine g_aload_n hC dX12_text_34 rfl 0 rfl ?_
  refine g_callVv0 (As := []) (st' := []) (k := a0) (L' := 1) hC Y_X12_takes I_X12_takes k_1459 ⟨by decide, by decide⟩ h0 (ci := 11) (by decide) rfl dX12_text_35 rfl rfl rfl (Nat.le_of_ble_eq_true rfl) ⟨Nat.zero_le _, Nat.zero_le _⟩ hM (fun c hc => c_X12_takes (xE X) a0 h0 c hc) (fun c7 hM => ?_)
  refine g_iconst (v := 0) hC dX12_text_38 rfl ic_0 ?_
  refine g_istore_n hC (fun y8 => [(1, .int y8), (0, vr X a0)]) dX12_text_39 rfl hM hml (by decide) (fun _ => rfl) (fun y8 hM => ?_)
  exact g_sub [1, 0] ((bX12_text_40 hC hml hR a0 h0 (BX12_text_64 ρ a0) (bX12_text_64 hC hml hR a0 h0 ) FU) _ _ hM) rfl
def BX12_image_61 (ρ : Rho) (a0 : Nat) (a1 : Int32) (σ : Sto) (v2 : Int32) : Option (Int32 × Sto) :=
  Option.bind (ρ a0 0) fun j1 =>
  Option.bind (ap σ j1 (((v2 + (48 : Int32)) + (500 : Int32))) ((σ a0 3))) fun σ2 =>
  Option.bind (ρ a0 0) fun j3 =>
  Option.bind (ap σ2 j3 ((((v2 + (48 : Int32)) + (500 : Int32)) + (1 : Int32))) ((σ2 a0 4))) fun σ4 =>
  Option.bind (ρ a0 0) fun j5 =>
  Option.bind (ap σ4 j5 ((((v2 + (48 : Int32)) + (500 : Int32)) + (2 : Int32))) ((σ4 a0 5))) fun σ6 =>
  Option.bind (ρ a0 2) fun j7 =>
  Option.bind (ap σ6 j7 a1 ((1 : Int32))) fun σ8 =>
  zr ((1 : Int32)) (some ((1 : Int32), σ8))
set_option maxHeartbeats 4000000 in
set_option maxRecDepth 100000 in
theorem bX12_image_61 {X : CX} {n : Nat} {ρ : Rho} {res : Int32 × Sto} (hC : Cx X cX12_image RX12 1) (hml : (xc X).maxLocals = 4) (hR : RtT (some .boolean) X cX12_image n res.1 res.2 ρ) (a0 : Nat) (a1 : Int32) (h0 : Sh n a0 11) : ∀ (σ : Sto) (v2 : Int32), BX12_image_61 ρ a0 a1 σ v2 = some res → G X 0 0 n σ ρ 61 [(0, vr X a0), (1, .int a1), (2, .int v2)] [] := by
  intro σ v2 hM
  unfold BX12_image_61 at hM
  refine g_aload_n hC dX12_image_61 rfl 0 rfl ?_
  refine fg_11_0 hC h0 k_1082 dX12_image_62 rfl hM (fun j1 hj1 hM => ?_)
  refine g_iload_n hC dX12_image_65 rfl 2 rfl ?_
  refine g_bipush (v := 48) hC dX12_image_66 rfl ib_48 ?_
  refine g_iadd hC dX12_image_68 rfl ?_
  refine g_sipush (v := 500) hC dX12_image_69 rfl is_500 ?_
  refine g_iadd hC dX12_image_72 rfl ?_
  refine g_aload_n hC dX12_image_73 rfl 0 rfl ?_
  refine fg_11_3 hC h0 k_1085 dX12_image_74 rfl ?_
  refine g_iast hC hj1 dX12_image_77 rfl hM (fun σ2 hM => ?_)
  refine g_aload_n hC dX12_image_78 rfl 0 rfl ?_
  refine fg_11_0 hC h0 k_1082 dX12_image_79 rfl hM (fun j3 hj3 hM => ?_)
  refine g_iload_n hC dX12_image_82 rfl 2 rfl ?_
  refine g_bipush (v := 48) hC dX12_image_83 rfl ib_48 ?_
  refine g_iadd hC dX12_image_85 rfl ?_
  refine g_sipush (v := 500) hC dX12_image_86 rfl is_500 ?_
  refine g_iadd hC dX12_image_89 rfl ?_
  refine g_iconst (v := 1) hC dX12_image_90 rfl ic_1 ?_
  refine g_iadd hC dX12_image_91 rfl ?_
  refine g_aload_n hC dX12_image_92 rfl 0 rfl ?_
  refine fg_11_4 hC h0 k_1086 dX12_image_93 rfl ?_
  refine g_iast hC hj3 dX12_image_96 rfl hM (fun σ4 hM => ?_)
  refine g_aload_n hC dX12_image_97 rfl 0 rfl ?_
  refine fg_11_0 hC h0 k_1082 dX12_image_98 rfl hM (fun j5 hj5 hM => ?_)
  refine g_iload_n hC dX12_image_101 rfl 2 rfl ?_
  refine g_bipush (v := 48) hC dX12_image_102 rfl ib_48 ?_
  refine g_iadd hC dX12_image_104 rfl ?_
  refine g_sipush (v := 500) hC dX12_image_105 rfl is_500 ?_
  refine g_iadd hC dX12_image_108 rfl ?_
  refine g_iconst (v := 2) hC dX12_image_109 rfl ic_2 ?_
  refine g_iadd hC dX12_image_110 rfl ?_
  refine g_aload_n hC dX12_image_111 rfl 0 rfl ?_
  refine fg_11_5 hC h0 k_1087 dX12_image_112 rfl ?_
  refine g_iast hC hj5 dX12_image_115 rfl hM (fun σ6 hM => ?_)
  refine g_aload_n hC dX12_image_116 rfl 0 rfl ?_
  refine fg_11_2 hC h0 k_1084 dX12_image_117 rfl hM (fun j7 hj7 hM => ?_)
  refine g_iload_n hC dX12_image_120 rfl 1 rfl ?_
  refine g_iconst (v := 1) hC dX12_image_121 rfl ic_1 ?_
  refine g_zast hC (by decide) hj7 dX12_image_122 rfl hM (fun σ8 hM => ?_)
  refine g_iconst (v := 1) hC dX12_image_123 rfl ic_1 ?_
  exact g_retz hM dX12_image_124 rfl (fun h => by cases h; exact hR)
def FX12_image_31 (ρ : Rho) (a0 : Nat) (a1 : Int32) (k61 : Sto → Int32 → Option (Int32 × Sto)) (rec : Sto → Int32 → Int32 → Option (Int32 × Sto)) (σ : Sto) (v2 : Int32) (v3 : Int32) : Option (Int32 × Sto) :=
  if (500 : Int32) ≤ v3 then
    k61 σ v2
  else
    Option.bind (ρ a0 0) fun j1 =>
    Option.bind (ρ a0 1) fun j2 =>
    Option.bind (ag σ j2 v3) fun x3 =>
    Option.bind (ap σ j1 (((v2 + (48 : Int32)) + v3)) x3) fun σ4 =>
    bn (v3 + (1 : Int32)) fun y5 =>
    rec σ4 v2 y5
set_option maxHeartbeats 4000000 in
set_option maxRecDepth 100000 in
theorem bX12_image_31 {X : CX} {n : Nat} {ρ : Rho} {res : Int32 × Sto} (hC : Cx X cX12_image RX12 1) (hml : (xc X).maxLocals = 4) (hR : RtT (some .boolean) X cX12_image n res.1 res.2 ρ) (a0 : Nat) (a1 : Int32) (h0 : Sh n a0 11) (k61 : Sto → Int32 → Option (Int32 × Sto)) (hk61 : ∀ (σ : Sto) (v2 : Int32), k61 σ v2 = some res → G X 0 0 n σ ρ 61 [(0, vr X a0), (1, .int a1), (2, .int v2)] []) (fu : Nat) : ∀ (σ : Sto) (v2 : Int32) (v3 : Int32), fixN (fun _ _ _ => none) (FX12_image_31 ρ a0 a1 k61) fu σ v2 v3 = some res → G X 0 0 n σ ρ 31 [(0, vr X a0), (1, .int a1), (2, .int v2), (3, .int v3)] [] := by
  refine fixN_ind (P := fun (f : Sto → Int32 → Int32 → Option (Int32 × Sto)) => ∀ (σ : Sto) (v2 : Int32) (v3 : Int32), f σ v2 v3 = some res → G X 0 0 n σ ρ 31 [(0, vr X a0), (1, .int a1), (2, .int v2), (3, .int v3)] []) ?_ ?_ fu
  · intro σ v2 v3 hM; cases hM
  · intro rec ih σ v2 v3 hM
    unfold FX12_image_31 at hM
    refine g_iload_n hC dX12_image_31 rfl 3 rfl ?_
    refine g_sipush (v := 500) hC dX12_image_32 rfl is_500 ?_
    refine g_icmp_ge (tgt := 61) hC dX12_image_35 rfl (by decide) hM (fun hM => ?_) (fun hM => ?_)
    · exact g_sub [0, 1, 2] (hk61 _ _ hM) rfl
    · refine g_aload_n hC dX12_image_38 rfl 0 rfl ?_
      refine fg_11_0 hC h0 k_1082 dX12_image_39 rfl hM (fun j1 hj1 hM => ?_)
      refine g_iload_n hC dX12_image_42 rfl 2 rfl ?_
      refine g_bipush (v := 48) hC dX12_image_43 rfl ib_48 ?_
      refine g_iadd hC dX12_image_45 rfl ?_
      refine g_iload_n hC dX12_image_46 rfl 3 rfl ?_
      refine g_iadd hC dX12_image_47 rfl ?_
      refine g_aload_n hC dX12_image_48 rfl 0 rfl ?_
      refine fg_11_1 hC h0 k_1083 dX12_image_49 rfl hM (fun j2 hj2 hM => ?_)
      refine g_iload_n hC dX12_image_52 rfl 3 rfl ?_
      refine g_iald hC hj2 dX12_image_53 rfl hM (fun x3 hM => ?_)
      refine g_iast hC hj1 dX12_image_54 rfl hM (fun σ4 hM => ?_)
      refine g_iinc (v := 1) hC (fun y5 => [(3, .int y5), (0, vr X a0), (1, .int a1), (2, .int v2)]) dX12_image_55 rfl hM (j := 3) rfl ic_1 hml (by decide) (fun _ => rfl) (fun y5 hM => ?_)
      refine g_goto (tgt := 31) hC dX12_image_58 rfl (by decide) ?_
      exact g_sub [1, 2, 3, 0] (ih _ _ _ hM) rfl
def MX12_image (σ : Sto) (ρ : Rho) (a0 : Nat) (a1 : Int32) : Option (Int32 × Sto) :=
  Option.bind (MX12_isIn a1 ((0 : Int32)) ((2 : Int32))) fun c1 =>
  if c1 = 0 then
    zr ((0 : Int32)) (some ((0 : Int32), σ))
  else
    bn (((462 : Int32) + ((551 : Int32) * a1))) fun y2 =>
    Option.bind (MX12_copies σ ρ a0 ((0 : Int32)) y2 ((48 : Int32))) fun c3 =>
    bn ((0 : Int32)) fun y4 =>
    fixN (fun _ _ _ => none) (FX12_image_31 ρ a0 a1 (BX12_image_61 ρ a0 a1)) FU c3 y2 y4
set_option maxHeartbeats 4000000 in
set_option maxRecDepth 100000 in
theorem c_X12_image (E : EX) {n : Nat} {σ : Sto} {ρ : Rho} (a0 : Nat) (h0 : Sh n a0 11) (a1 : Int32) (res : Int32 × Sto) (hM : MX12_image σ ρ a0 a1 = some res) : CTi E yX12_image cX12_image 4 (some .boolean) 1 [.ref (eb E + a0), .int a1] n σ ρ res.1 res.2 ρ := by
  refine ct_i (by decide +kernel) rfl (Nat.le_of_ble_eq_true rfl) (fun X hE hml hC hR => ?_)
  subst hE
  show G X 0 0 n σ ρ 0 [(0, vr X a0), (1, .int a1)] []
  replace hC : Cx X cX12_image RX12 1 := hC
  unfold MX12_image at hM
  refine g_iload_n hC dX12_image_0 rfl 1 rfl ?_
  refine g_iconst (v := 0) hC dX12_image_1 rfl ic_0 ?_
  refine g_iconst (v := 2) hC dX12_image_2 rfl ic_2 ?_
  refine g_callSi (As := [.int a1, .int ((0 : Int32)), .int ((2 : Int32))]) (st' := []) (L' := 0) hC Y_X12_isIn k_1170 k_1169 ⟨by decide, by decide⟩ dX12_image_3 rfl rfl rfl (Nat.le_of_ble_eq_true rfl) ⟨Nat.zero_le _, Nat.zero_le _⟩ hM (fun c hc => c_X12_isIn (xE X) a1 ((0 : Int32)) ((2 : Int32)) c hc) (fun c1 hM => ?_)
  refine g_if_ne (tgt := 11) hC dX12_image_6 rfl (by decide) hM (fun hM => ?_) (fun hM => ?_)
  · refine g_sipush (v := 462) hC dX12_image_11 rfl is_462 ?_
    refine g_sipush (v := 551) hC dX12_image_14 rfl is_551 ?_
    refine g_iload_n hC dX12_image_17 rfl 1 rfl ?_
    refine g_imul hC dX12_image_18 rfl ?_
    refine g_iadd hC dX12_image_19 rfl ?_
    refine g_istore_n hC (fun y2 => [(2, .int y2), (0, vr X a0), (1, .int a1)]) dX12_image_20 rfl hM hml (by decide) (fun _ => rfl) (fun y2 hM => ?_)
    refine g_aload_n hC dX12_image_21 rfl 1 rfl ?_
    refine g_iconst (v := 0) hC dX12_image_22 rfl ic_0 ?_
    refine g_iload_n hC dX12_image_23 rfl 0 rfl ?_
    refine g_bipush (v := 48) hC dX12_image_24 rfl ib_48 ?_
    refine g_callVv0 (As := [.int ((0 : Int32)), .int y2, .int ((48 : Int32))]) (st' := []) (k := a0) (L' := 0) hC Y_X12_copies I_X12_copies k_1158 ⟨by decide, by decide⟩ h0 (ci := 11) (by decide) rfl dX12_image_26 rfl rfl rfl (Nat.le_of_ble_eq_true rfl) ⟨Nat.zero_le _, Nat.zero_le _⟩ hM (fun c hc => c_X12_copies (xE X) a0 h0 ((0 : Int32)) y2 ((48 : Int32)) c hc) (fun c3 hM => ?_)
    refine g_iconst (v := 0) hC dX12_image_29 rfl ic_0 ?_
    refine g_istore_n hC (fun y4 => [(3, .int y4), (2, .int y2), (0, vr X a0), (1, .int a1)]) dX12_image_30 rfl hM hml (by decide) (fun _ => rfl) (fun y4 hM => ?_)
    exact g_sub [2, 3, 1, 0] ((bX12_image_31 hC hml hR a0 a1 h0 (BX12_image_61 ρ a0 a1) (bX12_image_61 hC hml hR a0 a1 h0 ) FU) _ _ _ hM) rfl
  · refine g_iconst (v := 0) hC dX12_image_9 rfl ic_0 ?_
    exact g_retz hM dX12_image_10 rfl (fun h => by cases h; exact hR)
def BX12_again_70 (ρ : Rho) (a0 : Nat) (a1 : Int32) (σ : Sto) (v2 : Int32) : Option (Int32 × Sto) :=
  Option.bind (ρ a0 0) fun j1 =>
  Option.bind (ag σ j1 (((v2 + (48 : Int32)) + (500 : Int32)))) fun x2 =>
  bn (su σ a0 3 x2) fun σ3 =>
  Option.bind (ρ a0 0) fun j4 =>
  Option.bind (ag σ3 j4 ((((v2 + (48 : Int32)) + (500 : Int32)) + (1 : Int32)))) fun x5 =>
  bn (su σ3 a0 4 x5) fun σ6 =>
  Option.bind (ρ a0 0) fun j7 =>
  Option.bind (ag σ6 j7 ((((v2 + (48 : Int32)) + (500 : Int32)) + (2 : Int32)))) fun x8 =>
  bn (su σ6 a0 5 x8) fun σ9 =>
  bn (su σ9 a0 6 ((0 : Int32))) fun σ10 =>
  zr ((1 : Int32)) (some ((1 : Int32), σ10))
set_option maxHeartbeats 4000000 in
set_option maxRecDepth 100000 in
theorem bX12_again_70 {X : CX} {n : Nat} {ρ : Rho} {res : Int32 × Sto} (hC : Cx X cX12_again RX12 1) (hml : (xc X).maxLocals = 4) (hR : RtT (some .boolean) X cX12_again n res.1 res.2 ρ) (a0 : Nat) (a1 : Int32) (h0 : Sh n a0 11) : ∀ (σ : Sto) (v2 : Int32), BX12_again_70 ρ a0 a1 σ v2 = some res → G X 0 0 n σ ρ 70 [(0, vr X a0), (1, .int a1), (2, .int v2)] [] := by
  intro σ v2 hM
  unfold BX12_again_70 at hM
  refine g_aload_n hC dX12_again_70 rfl 0 rfl ?_
  refine g_aload_n hC dX12_again_71 rfl 0 rfl ?_
  refine fg_11_0 hC h0 k_1082 dX12_again_72 rfl hM (fun j1 hj1 hM => ?_)
  refine g_iload_n hC dX12_again_75 rfl 2 rfl ?_
  refine g_bipush (v := 48) hC dX12_again_76 rfl ib_48 ?_
  refine g_iadd hC dX12_again_78 rfl ?_
  refine g_sipush (v := 500) hC dX12_again_79 rfl is_500 ?_
  refine g_iadd hC dX12_again_82 rfl ?_
  refine g_iald hC hj1 dX12_again_83 rfl hM (fun x2 hM => ?_)
  refine fp_11_3 hC h0 k_1085 dX12_again_84 rfl hM (fun σ3 hM => ?_)
  refine g_aload_n hC dX12_again_87 rfl 0 rfl ?_
  refine g_aload_n hC dX12_again_88 rfl 0 rfl ?_
  refine fg_11_0 hC h0 k_1082 dX12_again_89 rfl hM (fun j4 hj4 hM => ?_)
  refine g_iload_n hC dX12_again_92 rfl 2 rfl ?_
  refine g_bipush (v := 48) hC dX12_again_93 rfl ib_48 ?_
  refine g_iadd hC dX12_again_95 rfl ?_
  refine g_sipush (v := 500) hC dX12_again_96 rfl is_500 ?_
  refine g_iadd hC dX12_again_99 rfl ?_
  refine g_iconst (v := 1) hC dX12_again_100 rfl ic_1 ?_
  refine g_iadd hC dX12_again_101 rfl ?_
  refine g_iald hC hj4 dX12_again_102 rfl hM (fun x5 hM => ?_)
  refine fp_11_4 hC h0 k_1086 dX12_again_103 rfl hM (fun σ6 hM => ?_)
  refine g_aload_n hC dX12_again_106 rfl 0 rfl ?_
  refine g_aload_n hC dX12_again_107 rfl 0 rfl ?_
  refine fg_11_0 hC h0 k_1082 dX12_again_108 rfl hM (fun j7 hj7 hM => ?_)
  refine g_iload_n hC dX12_again_111 rfl 2 rfl ?_
  refine g_bipush (v := 48) hC dX12_again_112 rfl ib_48 ?_
  refine g_iadd hC dX12_again_114 rfl ?_
  refine g_sipush (v := 500) hC dX12_again_115 rfl is_500 ?_
  refine g_iadd hC dX12_again_118 rfl ?_
  refine g_iconst (v := 2) hC dX12_again_119 rfl ic_2 ?_
  refine g_iadd hC dX12_again_120 rfl ?_
  refine g_iald hC hj7 dX12_again_121 rfl hM (fun x8 hM => ?_)
  refine fp_11_5 hC h0 k_1087 dX12_again_122 rfl hM (fun σ9 hM => ?_)
  refine g_aload_n hC dX12_again_125 rfl 0 rfl ?_
  refine g_iconst (v := 0) hC dX12_again_126 rfl ic_0 ?_
  refine fp_11_6 hC h0 k_1088 dX12_again_127 rfl hM (fun σ10 hM => ?_)
  refine g_iconst (v := 1) hC dX12_again_130 rfl ic_1 ?_
  exact g_retz hM dX12_again_131 rfl (fun h => by cases h; exact hR)
def FX12_again_40 (ρ : Rho) (a0 : Nat) (a1 : Int32) (k70 : Sto → Int32 → Option (Int32 × Sto)) (rec : Sto → Int32 → Int32 → Option (Int32 × Sto)) (σ : Sto) (v2 : Int32) (v3 : Int32) : Option (Int32 × Sto) :=
  if (500 : Int32) ≤ v3 then
    k70 σ v2
  else
    Option.bind (ρ a0 1) fun j1 =>
    Option.bind (ρ a0 0) fun j2 =>
    Option.bind (ag σ j2 (((v2 + (48 : Int32)) + v3))) fun x3 =>
    Option.bind (ap σ j1 v3 x3) fun σ4 =>
    bn (v3 + (1 : Int32)) fun y5 =>
    rec σ4 v2 y5
set_option maxHeartbeats 4000000 in
set_option maxRecDepth 100000 in
theorem bX12_again_40 {X : CX} {n : Nat} {ρ : Rho} {res : Int32 × Sto} (hC : Cx X cX12_again RX12 1) (hml : (xc X).maxLocals = 4) (hR : RtT (some .boolean) X cX12_again n res.1 res.2 ρ) (a0 : Nat) (a1 : Int32) (h0 : Sh n a0 11) (k70 : Sto → Int32 → Option (Int32 × Sto)) (hk70 : ∀ (σ : Sto) (v2 : Int32), k70 σ v2 = some res → G X 0 0 n σ ρ 70 [(0, vr X a0), (1, .int a1), (2, .int v2)] []) (fu : Nat) : ∀ (σ : Sto) (v2 : Int32) (v3 : Int32), fixN (fun _ _ _ => none) (FX12_again_40 ρ a0 a1 k70) fu σ v2 v3 = some res → G X 0 0 n σ ρ 40 [(0, vr X a0), (1, .int a1), (2, .int v2), (3, .int v3)] [] := by
  refine fixN_ind (P := fun (f : Sto → Int32 → Int32 → Option (Int32 × Sto)) => ∀ (σ : Sto) (v2 : Int32) (v3 : Int32), f σ v2 v3 = some res → G X 0 0 n σ ρ 40 [(0, vr X a0), (1, .int a1), (2, .int v2), (3, .int v3)] []) ?_ ?_ fu
  · intro σ v2 v3 hM; cases hM
  · intro rec ih σ v2 v3 hM
    unfold FX12_again_40 at hM
    refine g_iload_n hC dX12_again_40 rfl 3 rfl ?_
    refine g_sipush (v := 500) hC dX12_again_41 rfl is_500 ?_
    refine g_icmp_ge (tgt := 70) hC dX12_again_44 rfl (by decide) hM (fun hM => ?_) (fun hM => ?_)
    · exact g_sub [0, 1, 2] (hk70 _ _ hM) rfl
    · refine g_aload_n hC dX12_again_47 rfl 0 rfl ?_
      refine fg_11_1 hC h0 k_1083 dX12_again_48 rfl hM (fun j1 hj1 hM => ?_)
      refine g_iload_n hC dX12_again_51 rfl 3 rfl ?_
      refine g_aload_n hC dX12_again_52 rfl 0 rfl ?_
      refine fg_11_0 hC h0 k_1082 dX12_again_53 rfl hM (fun j2 hj2 hM => ?_)
      refine g_iload_n hC dX12_again_56 rfl 2 rfl ?_
      refine g_bipush (v := 48) hC dX12_again_57 rfl ib_48 ?_
      refine g_iadd hC dX12_again_59 rfl ?_
      refine g_iload_n hC dX12_again_60 rfl 3 rfl ?_
      refine g_iadd hC dX12_again_61 rfl ?_
      refine g_iald hC hj2 dX12_again_62 rfl hM (fun x3 hM => ?_)
      refine g_iast hC hj1 dX12_again_63 rfl hM (fun σ4 hM => ?_)
      refine g_iinc (v := 1) hC (fun y5 => [(3, .int y5), (0, vr X a0), (1, .int a1), (2, .int v2)]) dX12_again_64 rfl hM (j := 3) rfl ic_1 hml (by decide) (fun _ => rfl) (fun y5 hM => ?_)
      refine g_goto (tgt := 40) hC dX12_again_67 rfl (by decide) ?_
      exact g_sub [1, 2, 3, 0] (ih _ _ _ hM) rfl
def MX12_again (σ : Sto) (ρ : Rho) (a0 : Nat) (a1 : Int32) : Option (Int32 × Sto) :=
  Option.bind (MX12_isIn a1 ((0 : Int32)) ((2 : Int32))) fun c1 =>
  if c1 = 0 then
    zr ((0 : Int32)) (some ((0 : Int32), σ))
  else
    Option.bind (ρ a0 2) fun j2 =>
    Option.bind (ag σ j2 a1) fun x3 =>
    if x3 = 0 then
      zr ((0 : Int32)) (some ((0 : Int32), σ))
    else
      bn (((462 : Int32) + ((551 : Int32) * a1))) fun y4 =>
      Option.bind (MX12_copies σ ρ a0 y4 ((0 : Int32)) ((48 : Int32))) fun c5 =>
      bn ((0 : Int32)) fun y6 =>
      fixN (fun _ _ _ => none) (FX12_again_40 ρ a0 a1 (BX12_again_70 ρ a0 a1)) FU c5 y4 y6
set_option maxHeartbeats 4000000 in
set_option maxRecDepth 100000 in
theorem c_X12_again (E : EX) {n : Nat} {σ : Sto} {ρ : Rho} (a0 : Nat) (h0 : Sh n a0 11) (a1 : Int32) (res : Int32 × Sto) (hM : MX12_again σ ρ a0 a1 = some res) : CTi E yX12_again cX12_again 4 (some .boolean) 1 [.ref (eb E + a0), .int a1] n σ ρ res.1 res.2 ρ := by
  refine ct_i (by decide +kernel) rfl (Nat.le_of_ble_eq_true rfl) (fun X hE hml hC hR => ?_)
  subst hE
  show G X 0 0 n σ ρ 0 [(0, vr X a0), (1, .int a1)] []
  replace hC : Cx X cX12_again RX12 1 := hC
  unfold MX12_again at hM
  refine g_iload_n hC dX12_again_0 rfl 1 rfl ?_
  refine g_iconst (v := 0) hC dX12_again_1 rfl ic_0 ?_
  refine g_iconst (v := 2) hC dX12_again_2 rfl ic_2 ?_
  refine g_callSi (As := [.int a1, .int ((0 : Int32)), .int ((2 : Int32))]) (st' := []) (L' := 0) hC Y_X12_isIn k_1170 k_1169 ⟨by decide, by decide⟩ dX12_again_3 rfl rfl rfl (Nat.le_of_ble_eq_true rfl) ⟨Nat.zero_le _, Nat.zero_le _⟩ hM (fun c hc => c_X12_isIn (xE X) a1 ((0 : Int32)) ((2 : Int32)) c hc) (fun c1 hM => ?_)
  refine g_if_eq (tgt := 18) hC dX12_again_6 rfl (by decide) hM (fun hM => ?_) (fun hM => ?_)
  · refine g_iconst (v := 0) hC dX12_again_18 rfl ic_0 ?_
    exact g_retz hM dX12_again_19 rfl (fun h => by cases h; exact hR)
  · refine g_aload_n hC dX12_again_9 rfl 0 rfl ?_
    refine fg_11_2 hC h0 k_1084 dX12_again_10 rfl hM (fun j2 hj2 hM => ?_)
    refine g_iload_n hC dX12_again_13 rfl 1 rfl ?_
    refine g_zald hC hj2 dX12_again_14 rfl hM (fun x3 hM => ?_)
    refine g_if_ne (tgt := 20) hC dX12_again_15 rfl (by decide) hM (fun hM => ?_) (fun hM => ?_)
    · refine g_sipush (v := 462) hC dX12_again_20 rfl is_462 ?_
      refine g_sipush (v := 551) hC dX12_again_23 rfl is_551 ?_
      refine g_iload_n hC dX12_again_26 rfl 1 rfl ?_
      refine g_imul hC dX12_again_27 rfl ?_
      refine g_iadd hC dX12_again_28 rfl ?_
      refine g_istore_n hC (fun y4 => [(2, .int y4), (0, vr X a0), (1, .int a1)]) dX12_again_29 rfl hM hml (by decide) (fun _ => rfl) (fun y4 hM => ?_)
      refine g_aload_n hC dX12_again_30 rfl 1 rfl ?_
      refine g_iload_n hC dX12_again_31 rfl 0 rfl ?_
      refine g_iconst (v := 0) hC dX12_again_32 rfl ic_0 ?_
      refine g_bipush (v := 48) hC dX12_again_33 rfl ib_48 ?_
      refine g_callVv0 (As := [.int y4, .int ((0 : Int32)), .int ((48 : Int32))]) (st' := []) (k := a0) (L' := 0) hC Y_X12_copies I_X12_copies k_1158 ⟨by decide, by decide⟩ h0 (ci := 11) (by decide) rfl dX12_again_35 rfl rfl rfl (Nat.le_of_ble_eq_true rfl) ⟨Nat.zero_le _, Nat.zero_le _⟩ hM (fun c hc => c_X12_copies (xE X) a0 h0 y4 ((0 : Int32)) ((48 : Int32)) c hc) (fun c5 hM => ?_)
      refine g_iconst (v := 0) hC dX12_again_38 rfl ic_0 ?_
      refine g_istore_n hC (fun y6 => [(3, .int y6), (2, .int y4), (0, vr X a0), (1, .int a1)]) dX12_again_39 rfl hM hml (by decide) (fun _ => rfl) (fun y6 hM => ?_)
      exact g_sub [2, 3, 1, 0] ((bX12_again_40 hC hml hR a0 a1 h0 (BX12_again_70 ρ a0 a1) (bX12_again_70 hC hml hR a0 a1 h0 ) FU) _ _ _ hM) rfl
    · refine g_iconst (v := 0) hC dX12_again_18 rfl ic_0 ?_
      exact g_retz hM dX12_again_19 rfl (fun h => by cases h; exact hR)
