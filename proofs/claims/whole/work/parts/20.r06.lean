def BX12_rankWith_46 (ρ : Rho) (a0 : Nat) (a1 : Int32) (σ : Sto) (v2 : Int32) : Option (Int32 × Sto) :=
  Option.bind (MX12_rank σ ρ a0 v2 ((6 : Int32))) fun c1 =>
  bn c1.1 fun y2 =>
  if a1 = (-1 : Int32) then
    some (y2, c1.2)
  else
    Option.bind (MX12_laysMark c1.2 ρ a0 y2 a1) fun c3 =>
    Option.bind (MX12_rank c3 ρ a0 ((y2 + (1 : Int32))) ((6 : Int32))) fun c4 =>
    some (c4.1, c4.2)
set_option maxHeartbeats 4000000 in
set_option maxRecDepth 100000 in
theorem bX12_rankWith_46 {X : CX} {n : Nat} {ρ : Rho} {res : Int32 × Sto} (hC : Cx X cX12_rankWith RX12 2) (hml : (xc X).maxLocals = 4) (hR : RtT (some .int) X cX12_rankWith n res.1 res.2 ρ) (a0 : Nat) (a1 : Int32) (h0 : Sh n a0 11) : ∀ (σ : Sto) (v2 : Int32), BX12_rankWith_46 ρ a0 a1 σ v2 = some res → G X 0 0 n σ ρ 46 [(0, vr X a0), (1, .int a1), (2, .int v2)] [] := by
  intro σ v2 hM
  unfold BX12_rankWith_46 at hM
  refine g_aload_n hC dX12_rankWith_46 rfl 0 rfl ?_
  refine g_iload_n hC dX12_rankWith_47 rfl 2 rfl ?_
  refine g_bipush (v := 6) hC dX12_rankWith_48 rfl ib_6 ?_
  refine g_callVi (As := [.int v2, .int ((6 : Int32))]) (st' := []) (k := a0) (L' := 1) hC Y_X12_rank I_X12_rank k_1215 ⟨by decide, by decide⟩ h0 (ci := 11) (by decide) rfl dX12_rankWith_50 rfl rfl rfl (Nat.le_of_ble_eq_true rfl) ⟨Nat.zero_le _, Nat.zero_le _⟩ hM (fun c hc => c_X12_rank (xE X) a0 h0 v2 ((6 : Int32)) c hc) (fun c1 hM => ?_)
  refine g_istore_n hC (fun y2 => [(3, .int y2), (0, vr X a0), (1, .int a1), (2, .int v2)]) dX12_rankWith_53 rfl hM hml (by decide) (fun _ => rfl) (fun y2 hM => ?_)
  refine g_iload_n hC dX12_rankWith_54 rfl 2 rfl ?_
  refine g_iconst (v := -1) hC dX12_rankWith_55 rfl ic_m1 ?_
  refine g_icmp_ne (tgt := 61) hC dX12_rankWith_56 rfl (by decide) hM (fun hM => ?_) (fun hM => ?_)
  · refine g_aload_n hC dX12_rankWith_61 rfl 1 rfl ?_
    refine g_iload_n hC dX12_rankWith_62 rfl 0 rfl ?_
    refine g_iload_n hC dX12_rankWith_63 rfl 2 rfl ?_
    refine g_callVv0 (As := [.int y2, .int a1]) (st' := []) (k := a0) (L' := 1) hC Y_X12_laysMark I_X12_laysMark k_1263 ⟨by decide, by decide⟩ h0 (ci := 11) (by decide) rfl dX12_rankWith_64 rfl rfl rfl (Nat.le_of_ble_eq_true rfl) ⟨Nat.zero_le _, Nat.zero_le _⟩ hM (fun c hc => c_X12_laysMark (xE X) a0 h0 y2 a1 c hc) (fun c3 hM => ?_)
    refine g_aload_n hC dX12_rankWith_67 rfl 1 rfl ?_
    refine g_iload_n hC dX12_rankWith_68 rfl 0 rfl ?_
    refine g_iconst (v := 1) hC dX12_rankWith_69 rfl ic_1 ?_
    refine g_iadd hC dX12_rankWith_70 rfl ?_
    refine g_bipush (v := 6) hC dX12_rankWith_71 rfl ib_6 ?_
    refine g_callVi (As := [.int ((y2 + (1 : Int32))), .int ((6 : Int32))]) (st' := []) (k := a0) (L' := 1) hC Y_X12_rank I_X12_rank k_1215 ⟨by decide, by decide⟩ h0 (ci := 11) (by decide) rfl dX12_rankWith_73 rfl rfl rfl (Nat.le_of_ble_eq_true rfl) ⟨Nat.zero_le _, Nat.zero_le _⟩ hM (fun c hc => c_X12_rank (xE X) a0 h0 ((y2 + (1 : Int32))) ((6 : Int32)) c hc) (fun c4 hM => ?_)
    cases hM
    exact g_reti hR dX12_rankWith_76 rfl
  · refine g_iload_n hC dX12_rankWith_59 rfl 0 rfl ?_
    cases hM
    exact g_reti hR dX12_rankWith_60 rfl
def FX12_rankWith_21 (ρ : Rho) (a0 : Nat) (a1 : Int32) (k46 : Sto → Int32 → Option (Int32 × Sto)) (rec : Sto → Int32 → Int32 → Option (Int32 × Sto)) (σ : Sto) (v2 : Int32) (v3 : Int32) : Option (Int32 × Sto) :=
  if v2 ≤ v3 then
    k46 σ v2
  else
    Option.bind (ρ a0 0) fun j1 =>
    Option.bind (ag σ j1 (((38 : Int32) + v3))) fun x2 =>
    Option.bind (MX12_laysMark σ ρ a0 v3 x2) fun c3 =>
    bn (v3 + (1 : Int32)) fun y4 =>
    rec c3 v2 y4
set_option maxHeartbeats 4000000 in
set_option maxRecDepth 100000 in
theorem bX12_rankWith_21 {X : CX} {n : Nat} {ρ : Rho} {res : Int32 × Sto} (hC : Cx X cX12_rankWith RX12 2) (hml : (xc X).maxLocals = 4) (hR : RtT (some .int) X cX12_rankWith n res.1 res.2 ρ) (a0 : Nat) (a1 : Int32) (h0 : Sh n a0 11) (k46 : Sto → Int32 → Option (Int32 × Sto)) (hk46 : ∀ (σ : Sto) (v2 : Int32), k46 σ v2 = some res → G X 0 0 n σ ρ 46 [(0, vr X a0), (1, .int a1), (2, .int v2)] []) (fu : Nat) : ∀ (σ : Sto) (v2 : Int32) (v3 : Int32), fixN (fun _ _ _ => none) (FX12_rankWith_21 ρ a0 a1 k46) fu σ v2 v3 = some res → G X 0 0 n σ ρ 21 [(0, vr X a0), (1, .int a1), (2, .int v2), (3, .int v3)] [] := by
  refine fixN_ind (P := fun (f : Sto → Int32 → Int32 → Option (Int32 × Sto)) => ∀ (σ : Sto) (v2 : Int32) (v3 : Int32), f σ v2 v3 = some res → G X 0 0 n σ ρ 21 [(0, vr X a0), (1, .int a1), (2, .int v2), (3, .int v3)] []) ?_ ?_ fu
  · intro σ v2 v3 hM; cases hM
  · intro rec ih σ v2 v3 hM
    unfold FX12_rankWith_21 at hM
    refine g_iload_n hC dX12_rankWith_21 rfl 3 rfl ?_
    refine g_iload_n hC dX12_rankWith_22 rfl 2 rfl ?_
    refine g_icmp_ge (tgt := 46) hC dX12_rankWith_23 rfl (by decide) hM (fun hM => ?_) (fun hM => ?_)
    · exact g_sub [0, 1, 2] (hk46 _ _ hM) rfl
    · refine g_aload_n hC dX12_rankWith_26 rfl 0 rfl ?_
      refine g_iload_n hC dX12_rankWith_27 rfl 3 rfl ?_
      refine g_aload_n hC dX12_rankWith_28 rfl 0 rfl ?_
      refine fg_11_0 hC h0 k_1082 dX12_rankWith_29 rfl hM (fun j1 hj1 hM => ?_)
      refine g_bipush (v := 38) hC dX12_rankWith_32 rfl ib_38 ?_
      refine g_iload_n hC dX12_rankWith_34 rfl 3 rfl ?_
      refine g_iadd hC dX12_rankWith_35 rfl ?_
      refine g_iald hC hj1 dX12_rankWith_36 rfl hM (fun x2 hM => ?_)
      refine g_callVv0 (As := [.int v3, .int x2]) (st' := []) (k := a0) (L' := 1) hC Y_X12_laysMark I_X12_laysMark k_1263 ⟨by decide, by decide⟩ h0 (ci := 11) (by decide) rfl dX12_rankWith_37 rfl rfl rfl (Nat.le_of_ble_eq_true rfl) ⟨Nat.zero_le _, Nat.zero_le _⟩ hM (fun c hc => c_X12_laysMark (xE X) a0 h0 v3 x2 c hc) (fun c3 hM => ?_)
      refine g_iinc (v := 1) hC (fun y4 => [(3, .int y4), (0, vr X a0), (1, .int a1), (2, .int v2)]) dX12_rankWith_40 rfl hM (j := 3) rfl ic_1 hml (by decide) (fun _ => rfl) (fun y4 hM => ?_)
      refine g_goto (tgt := 21) hC dX12_rankWith_43 rfl (by decide) ?_
      exact g_sub [1, 2, 3, 0] (ih _ _ _ hM) rfl
def MX12_rankWith (σ : Sto) (ρ : Rho) (a0 : Nat) (a1 : Int32) : Option (Int32 × Sto) :=
  Option.bind (ρ a0 0) fun j1 =>
  Option.bind (ag σ j1 ((36 : Int32))) fun x2 =>
  bn (su σ a0 7 x2) fun σ3 =>
  Option.bind (ρ a0 0) fun j4 =>
  Option.bind (ag σ3 j4 ((37 : Int32))) fun x5 =>
  bn x5 fun y6 =>
  bn ((0 : Int32)) fun y7 =>
  fixN (fun _ _ _ => none) (FX12_rankWith_21 ρ a0 a1 (BX12_rankWith_46 ρ a0 a1)) FU σ3 y6 y7
set_option maxHeartbeats 4000000 in
set_option maxRecDepth 100000 in
theorem c_X12_rankWith (E : EX) {n : Nat} {σ : Sto} {ρ : Rho} (a0 : Nat) (h0 : Sh n a0 11) (a1 : Int32) (res : Int32 × Sto) (hM : MX12_rankWith σ ρ a0 a1 = some res) : CTi E yX12_rankWith cX12_rankWith 4 (some .int) 2 [.ref (eb E + a0), .int a1] n σ ρ res.1 res.2 ρ := by
  refine ct_i (by decide +kernel) rfl (Nat.le_of_ble_eq_true rfl) (fun X hE hml hC hR => ?_)
  subst hE
  show G X 0 0 n σ ρ 0 [(0, vr X a0), (1, .int a1)] []
  replace hC : Cx X cX12_rankWith RX12 2 := hC
  unfold MX12_rankWith at hM
  refine g_aload_n hC dX12_rankWith_0 rfl 0 rfl ?_
  refine g_aload_n hC dX12_rankWith_1 rfl 0 rfl ?_
  refine fg_11_0 hC h0 k_1082 dX12_rankWith_2 rfl hM (fun j1 hj1 hM => ?_)
  refine g_bipush (v := 36) hC dX12_rankWith_5 rfl ib_36 ?_
  refine g_iald hC hj1 dX12_rankWith_7 rfl hM (fun x2 hM => ?_)
  refine fp_11_7 hC h0 k_1089 dX12_rankWith_8 rfl hM (fun σ3 hM => ?_)
  refine g_aload_n hC dX12_rankWith_11 rfl 0 rfl ?_
  refine fg_11_0 hC h0 k_1082 dX12_rankWith_12 rfl hM (fun j4 hj4 hM => ?_)
  refine g_bipush (v := 37) hC dX12_rankWith_15 rfl ib_37 ?_
  refine g_iald hC hj4 dX12_rankWith_17 rfl hM (fun x5 hM => ?_)
  refine g_istore_n hC (fun y6 => [(2, .int y6), (0, vr X a0), (1, .int a1)]) dX12_rankWith_18 rfl hM hml (by decide) (fun _ => rfl) (fun y6 hM => ?_)
  refine g_iconst (v := 0) hC dX12_rankWith_19 rfl ic_0 ?_
  refine g_istore_n hC (fun y7 => [(3, .int y7), (2, .int y6), (0, vr X a0), (1, .int a1)]) dX12_rankWith_20 rfl hM hml (by decide) (fun _ => rfl) (fun y7 hM => ?_)
  exact g_sub [2, 3, 1, 0] ((bX12_rankWith_21 hC hml hR a0 a1 h0 (BX12_rankWith_46 ρ a0 a1) (bX12_rankWith_46 hC hml hR a0 a1 h0 ) FU) _ _ _ hM) rfl
def BX12_hasOne_64 (ρ : Rho) (a0 : Nat) (rec : Sto → Int32 → Int32 → Option (Int32 × Sto)) (k71 : Sto → Int32 → Option (Int32 × Sto)) (σ : Sto) (v2 : Int32) (v3 : Int32) (t0 : Nat) (t1 : Int32) (t2 : Int32) : Option (Int32 × Sto) :=
  Option.bind (ap σ t0 t1 t2) fun σ1 =>
  bn (v3 + (1 : Int32)) fun y2 =>
  rec σ1 v2 y2
set_option maxHeartbeats 4000000 in
set_option maxRecDepth 100000 in
theorem bX12_hasOne_64 {X : CX} {n : Nat} {ρ : Rho} {res : Int32 × Sto} (hC : Cx X cX12_hasOne RX12 3) (hml : (xc X).maxLocals = 6) (hR : RtT (some .boolean) X cX12_hasOne n res.1 res.2 ρ) (a0 : Nat) (h0 : Sh n a0 11) (rec : Sto → Int32 → Int32 → Option (Int32 × Sto)) (ih : ∀ (σ : Sto) (v2 : Int32) (v3 : Int32), rec σ v2 v3 = some res → G X 0 0 n σ ρ 43 [(0, vr X a0), (2, .int v2), (3, .int v3)] []) (k71 : Sto → Int32 → Option (Int32 × Sto)) (hk71 : ∀ (σ : Sto) (v2 : Int32), k71 σ v2 = some res → G X 0 0 n σ ρ 71 [(0, vr X a0), (2, .int v2)] []) : ∀ (σ : Sto) (v2 : Int32) (v3 : Int32) (t0 : Nat) (t1 : Int32) (t2 : Int32) (ht0 : Sh n t0 20), BX12_hasOne_64 ρ a0 rec k71 σ v2 v3 t0 t1 t2 = some res → G X 0 0 n σ ρ 64 [(0, vr X a0), (2, .int v2), (3, .int v3)] [.int t2, .int t1, vr X t0] := by
  intro σ v2 v3 t0 t1 t2 ht0 hM
  unfold BX12_hasOne_64 at hM
  refine g_iast hC ht0 dX12_hasOne_64 rfl hM (fun σ1 hM => ?_)
  refine g_iinc (v := 1) hC (fun y2 => [(3, .int y2), (0, vr X a0), (2, .int v2)]) dX12_hasOne_65 rfl hM (j := 2) rfl ic_1 hml (by decide) (fun _ => rfl) (fun y2 hM => ?_)
  refine g_goto (tgt := 43) hC dX12_hasOne_68 rfl (by decide) ?_
  exact g_sub [1, 2, 0] (ih _ _ _ hM) rfl
def BX12_hasOne_94 (ρ : Rho) (a0 : Nat) (rec : Sto → Int32 → Int32 → Option (Int32 × Sto)) (k117 : Sto → Option (Int32 × Sto)) (σ : Sto) (v2 : Int32) (v3 : Int32) (t0 : Nat) (t1 : Int32) : Option (Int32 × Sto) :=
  Option.bind (ρ a0 12) fun j1 =>
  Option.bind (ag σ j1 ((((6 : Int32) * v3) + v2))) fun x2 =>
  Option.bind (MX12_rest σ a0 ((-x2))) fun c3 =>
  Option.bind (ap σ t0 t1 c3) fun σ4 =>
  bn (v3 + (1 : Int32)) fun y5 =>
  rec σ4 v2 y5
set_option maxHeartbeats 4000000 in
set_option maxRecDepth 100000 in
theorem bX12_hasOne_94 {X : CX} {n : Nat} {ρ : Rho} {res : Int32 × Sto} (hC : Cx X cX12_hasOne RX12 3) (hml : (xc X).maxLocals = 6) (hR : RtT (some .boolean) X cX12_hasOne n res.1 res.2 ρ) (a0 : Nat) (h0 : Sh n a0 11) (rec : Sto → Int32 → Int32 → Option (Int32 × Sto)) (ih : ∀ (σ : Sto) (v2 : Int32) (v3 : Int32), rec σ v2 v3 = some res → G X 0 0 n σ ρ 73 [(0, vr X a0), (2, .int v2), (3, .int v3)] []) (k117 : Sto → Option (Int32 × Sto)) (hk117 : ∀ (σ : Sto), k117 σ = some res → G X 0 0 n σ ρ 117 [(0, vr X a0)] []) : ∀ (σ : Sto) (v2 : Int32) (v3 : Int32) (t0 : Nat) (t1 : Int32) (ht0 : Sh n t0 20), BX12_hasOne_94 ρ a0 rec k117 σ v2 v3 t0 t1 = some res → G X 0 0 n σ ρ 94 [(0, vr X a0), (2, .int v2), (3, .int v3)] [.int t1, vr X t0] := by
  intro σ v2 v3 t0 t1 ht0 hM
  unfold BX12_hasOne_94 at hM
  refine g_aload_n hC dX12_hasOne_94 rfl 0 rfl ?_
  refine g_aload_n hC dX12_hasOne_95 rfl 0 rfl ?_
  refine fg_11_12 hC h0 k_1094 dX12_hasOne_96 rfl hM (fun j1 hj1 hM => ?_)
  refine g_bipush (v := 6) hC dX12_hasOne_99 rfl ib_6 ?_
  refine g_iload_n hC dX12_hasOne_101 rfl 2 rfl ?_
  refine g_imul hC dX12_hasOne_102 rfl ?_
  refine g_iload_n hC dX12_hasOne_103 rfl 1 rfl ?_
  refine g_iadd hC dX12_hasOne_104 rfl ?_
  refine g_iald hC hj1 dX12_hasOne_105 rfl hM (fun x2 hM => ?_)
  refine g_ineg hC dX12_hasOne_106 rfl ?_
  refine g_callVi (As := [.int ((-x2))]) (st' := [.int t1, vr X t0]) (k := a0) (L' := 0) hC Y_X12_rest I_X12_rest k_1203 ⟨by decide, by decide⟩ h0 (ci := 11) (by decide) rfl dX12_hasOne_107 rfl rfl rfl (Nat.le_of_ble_eq_true rfl) ⟨Nat.zero_le _, Nat.zero_le _⟩ hM (fun c hc => c_X12_rest (xE X) a0 h0 ((-x2)) c hc) (fun c3 hM => ?_)
  refine g_iast hC ht0 dX12_hasOne_110 rfl hM (fun σ4 hM => ?_)
  refine g_iinc (v := 1) hC (fun y5 => [(3, .int y5), (0, vr X a0), (2, .int v2)]) dX12_hasOne_111 rfl hM (j := 2) rfl ic_1 hml (by decide) (fun _ => rfl) (fun y5 hM => ?_)
  refine g_goto (tgt := 73) hC dX12_hasOne_114 rfl (by decide) ?_
  exact g_sub [1, 2, 0] (ih _ _ _ hM) rfl
def FX12_hasOne_149 (ρ : Rho) (a0 : Nat) (rec : Sto → Int32 → Int32 → Option (Int32 × Sto)) (σ : Sto) (v4 : Int32) (v5 : Int32) : Option (Int32 × Sto) :=
  if (6 : Int32) ≤ v5 then
    zr ((1 : Int32)) (some ((1 : Int32), σ))
  else
    Option.bind (ρ a0 13) fun j1 =>
    Option.bind (ρ a0 13) fun j2 =>
    Option.bind (ag σ j2 v5) fun x3 =>
    Option.bind (rmi ((x3 * v4)) ((σ a0 7))) fun z4 =>
    Option.bind (ap σ j1 v5 z4) fun σ5 =>
    bn (v5 + (1 : Int32)) fun y6 =>
    rec σ5 v4 y6
set_option maxHeartbeats 4000000 in
set_option maxRecDepth 100000 in
theorem bX12_hasOne_149 {X : CX} {n : Nat} {ρ : Rho} {res : Int32 × Sto} (hC : Cx X cX12_hasOne RX12 3) (hml : (xc X).maxLocals = 6) (hR : RtT (some .boolean) X cX12_hasOne n res.1 res.2 ρ) (a0 : Nat) (h0 : Sh n a0 11) (fu : Nat) : ∀ (σ : Sto) (v4 : Int32) (v5 : Int32), fixN (fun _ _ _ => none) (FX12_hasOne_149 ρ a0) fu σ v4 v5 = some res → G X 0 0 n σ ρ 149 [(0, vr X a0), (4, .int v4), (5, .int v5)] [] := by
  refine fixN_ind (P := fun (f : Sto → Int32 → Int32 → Option (Int32 × Sto)) => ∀ (σ : Sto) (v4 : Int32) (v5 : Int32), f σ v4 v5 = some res → G X 0 0 n σ ρ 149 [(0, vr X a0), (4, .int v4), (5, .int v5)] []) ?_ ?_ fu
  · intro σ v4 v5 hM; cases hM
  · intro rec ih σ v4 v5 hM
    unfold FX12_hasOne_149 at hM
    refine g_iload hC dX12_hasOne_149 rfl 2 rfl ?_
    refine g_bipush (v := 6) hC dX12_hasOne_151 rfl ib_6 ?_
    refine g_icmp_ge (tgt := 184) hC dX12_hasOne_153 rfl (by decide) hM (fun hM => ?_) (fun hM => ?_)
    · refine g_iconst (v := 1) hC dX12_hasOne_184 rfl ic_1 ?_
      exact g_retz hM dX12_hasOne_185 rfl (fun h => by cases h; exact hR)
    · refine g_aload_n hC dX12_hasOne_156 rfl 0 rfl ?_
      refine fg_11_13 hC h0 k_1095 dX12_hasOne_157 rfl hM (fun j1 hj1 hM => ?_)
      refine g_iload hC dX12_hasOne_160 rfl 2 rfl ?_
      refine g_aload_n hC dX12_hasOne_162 rfl 0 rfl ?_
      refine fg_11_13 hC h0 k_1095 dX12_hasOne_163 rfl hM (fun j2 hj2 hM => ?_)
      refine g_iload hC dX12_hasOne_166 rfl 2 rfl ?_
      refine g_iald hC hj2 dX12_hasOne_168 rfl hM (fun x3 hM => ?_)
      refine g_iload hC dX12_hasOne_169 rfl 1 rfl ?_
      refine g_imul hC dX12_hasOne_171 rfl ?_
      refine g_aload_n hC dX12_hasOne_172 rfl 0 rfl ?_
      refine fg_11_7 hC h0 k_1089 dX12_hasOne_173 rfl ?_
      refine g_irem hC dX12_hasOne_176 rfl hM (fun z4 hM => ?_)
      refine g_iast hC hj1 dX12_hasOne_177 rfl hM (fun σ5 hM => ?_)
      refine g_iinc (v := 1) hC (fun y6 => [(5, .int y6), (0, vr X a0), (4, .int v4)]) dX12_hasOne_178 rfl hM (j := 2) rfl ic_1 hml (by decide) (fun _ => rfl) (fun y6 hM => ?_)
      refine g_goto (tgt := 149) hC dX12_hasOne_181 rfl (by decide) ?_
      exact g_sub [1, 2, 0] (ih _ _ _ hM) rfl
def BX12_hasOne_134 (ρ : Rho) (a0 : Nat) (σ : Sto) (v3 : Int32) : Option (Int32 × Sto) :=
  Option.bind (ρ a0 13) fun j1 =>
  Option.bind (ag σ j1 v3) fun x2 =>
  Option.bind (MX12_inverse σ a0 x2) fun c3 =>
  bn c3 fun y4 =>
  bn ((0 : Int32)) fun y5 =>
  fixN (fun _ _ _ => none) (FX12_hasOne_149 ρ a0) FU σ y4 y5
set_option maxHeartbeats 4000000 in
set_option maxRecDepth 100000 in
theorem bX12_hasOne_134 {X : CX} {n : Nat} {ρ : Rho} {res : Int32 × Sto} (hC : Cx X cX12_hasOne RX12 3) (hml : (xc X).maxLocals = 6) (hR : RtT (some .boolean) X cX12_hasOne n res.1 res.2 ρ) (a0 : Nat) (h0 : Sh n a0 11) : ∀ (σ : Sto) (v3 : Int32), BX12_hasOne_134 ρ a0 σ v3 = some res → G X 0 0 n σ ρ 134 [(0, vr X a0), (3, .int v3)] [] := by
  intro σ v3 hM
  unfold BX12_hasOne_134 at hM
  refine g_aload_n hC dX12_hasOne_134 rfl 0 rfl ?_
  refine g_aload_n hC dX12_hasOne_135 rfl 0 rfl ?_
  refine fg_11_13 hC h0 k_1095 dX12_hasOne_136 rfl hM (fun j1 hj1 hM => ?_)
  refine g_iload_n hC dX12_hasOne_139 rfl 1 rfl ?_
  refine g_iald hC hj1 dX12_hasOne_140 rfl hM (fun x2 hM => ?_)
  refine g_callVi (As := [.int x2]) (st' := []) (k := a0) (L' := 0) hC Y_X12_inverse I_X12_inverse k_1219 ⟨by decide, by decide⟩ h0 (ci := 11) (by decide) rfl dX12_hasOne_141 rfl rfl rfl (Nat.le_of_ble_eq_true rfl) ⟨Nat.zero_le _, Nat.zero_le _⟩ hM (fun c hc => c_X12_inverse (xE X) a0 h0 x2 c hc) (fun c3 hM => ?_)
  refine g_istore hC (fun y4 => [(4, .int y4), (0, vr X a0), (3, .int v3)]) dX12_hasOne_144 rfl hM hml (by decide) (fun _ => rfl) (fun y4 hM => ?_)
  refine g_iconst (v := 0) hC dX12_hasOne_146 rfl ic_0 ?_
  refine g_istore hC (fun y5 => [(5, .int y5), (4, .int y4), (0, vr X a0), (3, .int v3)]) dX12_hasOne_147 rfl hM hml (by decide) (fun _ => rfl) (fun y5 hM => ?_)
  exact g_sub [2, 1, 0] ((bX12_hasOne_149 hC hml hR a0 h0  FU) _ _ _ hM) rfl
def FX12_hasOne_119 (ρ : Rho) (a0 : Nat) (k134 : Sto → Int32 → Option (Int32 × Sto)) (rec : Sto → Int32 → Option (Int32 × Sto)) (σ : Sto) (v3 : Int32) : Option (Int32 × Sto) :=
  Option.bind (ρ a0 13) fun j1 =>
  Option.bind (ag σ j1 v3) fun x2 =>
  if x2 = 0 then
    bn (v3 + (1 : Int32)) fun y3 =>
    rec σ y3
  else
    k134 σ v3
set_option maxHeartbeats 4000000 in
set_option maxRecDepth 100000 in
theorem bX12_hasOne_119 {X : CX} {n : Nat} {ρ : Rho} {res : Int32 × Sto} (hC : Cx X cX12_hasOne RX12 3) (hml : (xc X).maxLocals = 6) (hR : RtT (some .boolean) X cX12_hasOne n res.1 res.2 ρ) (a0 : Nat) (h0 : Sh n a0 11) (k134 : Sto → Int32 → Option (Int32 × Sto)) (hk134 : ∀ (σ : Sto) (v3 : Int32), k134 σ v3 = some res → G X 0 0 n σ ρ 134 [(0, vr X a0), (3, .int v3)] []) (fu : Nat) : ∀ (σ : Sto) (v3 : Int32), fixN (fun _ _ => none) (FX12_hasOne_119 ρ a0 k134) fu σ v3 = some res → G X 0 0 n σ ρ 119 [(0, vr X a0), (3, .int v3)] [] := by
  refine fixN_ind (P := fun (f : Sto → Int32 → Option (Int32 × Sto)) => ∀ (σ : Sto) (v3 : Int32), f σ v3 = some res → G X 0 0 n σ ρ 119 [(0, vr X a0), (3, .int v3)] []) ?_ ?_ fu
  · intro σ v3 hM; cases hM
  · intro rec ih σ v3 hM
    unfold FX12_hasOne_119 at hM
    refine g_aload_n hC dX12_hasOne_119 rfl 0 rfl ?_
    refine fg_11_13 hC h0 k_1095 dX12_hasOne_120 rfl hM (fun j1 hj1 hM => ?_)
    refine g_iload_n hC dX12_hasOne_123 rfl 1 rfl ?_
    refine g_iald hC hj1 dX12_hasOne_124 rfl hM (fun x2 hM => ?_)
    refine g_if_ne (tgt := 134) hC dX12_hasOne_125 rfl (by decide) hM (fun hM => ?_) (fun hM => ?_)
    · exact g_sub [0, 1] (hk134 _ _ hM) rfl
    · refine g_iinc (v := 1) hC (fun y3 => [(3, .int y3), (0, vr X a0)]) dX12_hasOne_128 rfl hM (j := 1) rfl ic_1 hml (by decide) (fun _ => rfl) (fun y3 hM => ?_)
      refine g_goto (tgt := 119) hC dX12_hasOne_131 rfl (by decide) ?_
      exact g_sub [1, 0] (ih _ _ hM) rfl
def BX12_hasOne_117 (ρ : Rho) (a0 : Nat) (σ : Sto) : Option (Int32 × Sto) :=
  bn ((0 : Int32)) fun y1 =>
  fixN (fun _ _ => none) (FX12_hasOne_119 ρ a0 (BX12_hasOne_134 ρ a0)) FU σ y1
set_option maxHeartbeats 4000000 in
set_option maxRecDepth 100000 in
theorem bX12_hasOne_117 {X : CX} {n : Nat} {ρ : Rho} {res : Int32 × Sto} (hC : Cx X cX12_hasOne RX12 3) (hml : (xc X).maxLocals = 6) (hR : RtT (some .boolean) X cX12_hasOne n res.1 res.2 ρ) (a0 : Nat) (h0 : Sh n a0 11) : ∀ (σ : Sto), BX12_hasOne_117 ρ a0 σ = some res → G X 0 0 n σ ρ 117 [(0, vr X a0)] [] := by
  intro σ hM
  unfold BX12_hasOne_117 at hM
  refine g_iconst (v := 0) hC dX12_hasOne_117 rfl ic_0 ?_
  refine g_istore_n hC (fun y1 => [(3, .int y1), (0, vr X a0)]) dX12_hasOne_118 rfl hM hml (by decide) (fun _ => rfl) (fun y1 hM => ?_)
  exact g_sub [1, 0] ((bX12_hasOne_119 hC hml hR a0 h0 (BX12_hasOne_134 ρ a0) (bX12_hasOne_134 hC hml hR a0 h0 ) FU) _ _ hM) rfl
def FX12_hasOne_73 (ρ : Rho) (a0 : Nat) (k117 : Sto → Option (Int32 × Sto)) (rec : Sto → Int32 → Int32 → Option (Int32 × Sto)) (σ : Sto) (v2 : Int32) (v3 : Int32) : Option (Int32 × Sto) :=
  if (5 : Int32) ≤ v3 then
    k117 σ
  else
    Option.bind (ρ a0 13) fun j1 =>
    if v2 ≤ v3 then
      BX12_hasOne_94 ρ a0 rec k117 σ v2 v3 j1 ((v3 + (1 : Int32)))
    else
      BX12_hasOne_94 ρ a0 rec k117 σ v2 v3 j1 v3
set_option maxHeartbeats 4000000 in
set_option maxRecDepth 100000 in
theorem bX12_hasOne_73 {X : CX} {n : Nat} {ρ : Rho} {res : Int32 × Sto} (hC : Cx X cX12_hasOne RX12 3) (hml : (xc X).maxLocals = 6) (hR : RtT (some .boolean) X cX12_hasOne n res.1 res.2 ρ) (a0 : Nat) (h0 : Sh n a0 11) (k117 : Sto → Option (Int32 × Sto)) (hk117 : ∀ (σ : Sto), k117 σ = some res → G X 0 0 n σ ρ 117 [(0, vr X a0)] []) (fu : Nat) : ∀ (σ : Sto) (v2 : Int32) (v3 : Int32), fixN (fun _ _ _ => none) (FX12_hasOne_73 ρ a0 k117) fu σ v2 v3 = some res → G X 0 0 n σ ρ 73 [(0, vr X a0), (2, .int v2), (3, .int v3)] [] := by
  refine fixN_ind (P := fun (f : Sto → Int32 → Int32 → Option (Int32 × Sto)) => ∀ (σ : Sto) (v2 : Int32) (v3 : Int32), f σ v2 v3 = some res → G X 0 0 n σ ρ 73 [(0, vr X a0), (2, .int v2), (3, .int v3)] []) ?_ ?_ fu
  · intro σ v2 v3 hM; cases hM
  · intro rec ih σ v2 v3 hM
    unfold FX12_hasOne_73 at hM
    refine g_iload_n hC dX12_hasOne_73 rfl 2 rfl ?_
    refine g_iconst (v := 5) hC dX12_hasOne_74 rfl ic_5 ?_
    refine g_icmp_ge (tgt := 117) hC dX12_hasOne_75 rfl (by decide) hM (fun hM => ?_) (fun hM => ?_)
    · exact g_sub [0] (hk117 _ hM) rfl
    · refine g_aload_n hC dX12_hasOne_78 rfl 0 rfl ?_
      refine fg_11_13 hC h0 k_1095 dX12_hasOne_79 rfl hM (fun j1 hj1 hM => ?_)
      refine g_iload_n hC dX12_hasOne_82 rfl 2 rfl ?_
      refine g_iload_n hC dX12_hasOne_83 rfl 1 rfl ?_
      refine g_icmp_ge (tgt := 91) hC dX12_hasOne_84 rfl (by decide) hM (fun hM => ?_) (fun hM => ?_)
      · refine g_iload_n hC dX12_hasOne_91 rfl 2 rfl ?_
        refine g_iconst (v := 1) hC dX12_hasOne_92 rfl ic_1 ?_
        refine g_iadd hC dX12_hasOne_93 rfl ?_
        exact g_sub [0, 1, 2] ((bX12_hasOne_94 hC hml hR a0 h0 rec ih k117 hk117) _ _ _ _ _ hj1 hM) rfl
      · refine g_iload_n hC dX12_hasOne_87 rfl 2 rfl ?_
        refine g_goto (tgt := 94) hC dX12_hasOne_88 rfl (by decide) ?_
        exact g_sub [0, 1, 2] ((bX12_hasOne_94 hC hml hR a0 h0 rec ih k117 hk117) _ _ _ _ _ hj1 hM) rfl
def BX12_hasOne_71 (ρ : Rho) (a0 : Nat) (σ : Sto) (v2 : Int32) : Option (Int32 × Sto) :=
  bn ((0 : Int32)) fun y1 =>
  fixN (fun _ _ _ => none) (FX12_hasOne_73 ρ a0 (BX12_hasOne_117 ρ a0)) FU σ v2 y1
set_option maxHeartbeats 4000000 in
set_option maxRecDepth 100000 in
theorem bX12_hasOne_71 {X : CX} {n : Nat} {ρ : Rho} {res : Int32 × Sto} (hC : Cx X cX12_hasOne RX12 3) (hml : (xc X).maxLocals = 6) (hR : RtT (some .boolean) X cX12_hasOne n res.1 res.2 ρ) (a0 : Nat) (h0 : Sh n a0 11) : ∀ (σ : Sto) (v2 : Int32), BX12_hasOne_71 ρ a0 σ v2 = some res → G X 0 0 n σ ρ 71 [(0, vr X a0), (2, .int v2)] [] := by
  intro σ v2 hM
  unfold BX12_hasOne_71 at hM
  refine g_iconst (v := 0) hC dX12_hasOne_71 rfl ic_0 ?_
  refine g_istore_n hC (fun y1 => [(3, .int y1), (0, vr X a0), (2, .int v2)]) dX12_hasOne_72 rfl hM hml (by decide) (fun _ => rfl) (fun y1 hM => ?_)
  exact g_sub [1, 2, 0] ((bX12_hasOne_73 hC hml hR a0 h0 (BX12_hasOne_117 ρ a0) (bX12_hasOne_117 hC hml hR a0 h0 ) FU) _ _ _ hM) rfl
def FX12_hasOne_43 (ρ : Rho) (a0 : Nat) (k71 : Sto → Int32 → Option (Int32 × Sto)) (rec : Sto → Int32 → Int32 → Option (Int32 × Sto)) (σ : Sto) (v2 : Int32) (v3 : Int32) : Option (Int32 × Sto) :=
  if (6 : Int32) ≤ v3 then
    k71 σ v2
  else
    Option.bind (ρ a0 13) fun j1 =>
    if v3 = v2 then
      BX12_hasOne_64 ρ a0 rec k71 σ v2 v3 j1 v3 ((1 : Int32))
    else
      BX12_hasOne_64 ρ a0 rec k71 σ v2 v3 j1 v3 ((0 : Int32))
set_option maxHeartbeats 4000000 in
set_option maxRecDepth 100000 in
theorem bX12_hasOne_43 {X : CX} {n : Nat} {ρ : Rho} {res : Int32 × Sto} (hC : Cx X cX12_hasOne RX12 3) (hml : (xc X).maxLocals = 6) (hR : RtT (some .boolean) X cX12_hasOne n res.1 res.2 ρ) (a0 : Nat) (h0 : Sh n a0 11) (k71 : Sto → Int32 → Option (Int32 × Sto)) (hk71 : ∀ (σ : Sto) (v2 : Int32), k71 σ v2 = some res → G X 0 0 n σ ρ 71 [(0, vr X a0), (2, .int v2)] []) (fu : Nat) : ∀ (σ : Sto) (v2 : Int32) (v3 : Int32), fixN (fun _ _ _ => none) (FX12_hasOne_43 ρ a0 k71) fu σ v2 v3 = some res → G X 0 0 n σ ρ 43 [(0, vr X a0), (2, .int v2), (3, .int v3)] [] := by
  refine fixN_ind (P := fun (f : Sto → Int32 → Int32 → Option (Int32 × Sto)) => ∀ (σ : Sto) (v2 : Int32) (v3 : Int32), f σ v2 v3 = some res → G X 0 0 n σ ρ 43 [(0, vr X a0), (2, .int v2), (3, .int v3)] []) ?_ ?_ fu
  · intro σ v2 v3 hM; cases hM
  · intro rec ih σ v2 v3 hM
    unfold FX12_hasOne_43 at hM
    refine g_iload_n hC dX12_hasOne_43 rfl 2 rfl ?_
    refine g_bipush (v := 6) hC dX12_hasOne_44 rfl ib_6 ?_
    refine g_icmp_ge (tgt := 71) hC dX12_hasOne_46 rfl (by decide) hM (fun hM => ?_) (fun hM => ?_)
    · exact g_sub [0, 1] (hk71 _ _ hM) rfl
    · refine g_aload_n hC dX12_hasOne_49 rfl 0 rfl ?_
      refine fg_11_13 hC h0 k_1095 dX12_hasOne_50 rfl hM (fun j1 hj1 hM => ?_)
      refine g_iload_n hC dX12_hasOne_53 rfl 2 rfl ?_
      refine g_iload_n hC dX12_hasOne_54 rfl 2 rfl ?_
      refine g_iload_n hC dX12_hasOne_55 rfl 1 rfl ?_
      refine g_icmp_ne (tgt := 63) hC dX12_hasOne_56 rfl (by decide) hM (fun hM => ?_) (fun hM => ?_)
      · refine g_iconst (v := 0) hC dX12_hasOne_63 rfl ic_0 ?_
        exact g_sub [0, 1, 2] ((bX12_hasOne_64 hC hml hR a0 h0 rec ih k71 hk71) _ _ _ _ _ _ hj1 hM) rfl
      · refine g_iconst (v := 1) hC dX12_hasOne_59 rfl ic_1 ?_
        refine g_goto (tgt := 64) hC dX12_hasOne_60 rfl (by decide) ?_
        exact g_sub [0, 1, 2] ((bX12_hasOne_64 hC hml hR a0 h0 rec ih k71 hk71) _ _ _ _ _ _ hj1 hM) rfl
def BX12_hasOne_41 (ρ : Rho) (a0 : Nat) (σ : Sto) (v2 : Int32) : Option (Int32 × Sto) :=
  bn ((0 : Int32)) fun y1 =>
  fixN (fun _ _ _ => none) (FX12_hasOne_43 ρ a0 (BX12_hasOne_71 ρ a0)) FU σ v2 y1
set_option maxHeartbeats 4000000 in
set_option maxRecDepth 100000 in
theorem bX12_hasOne_41 {X : CX} {n : Nat} {ρ : Rho} {res : Int32 × Sto} (hC : Cx X cX12_hasOne RX12 3) (hml : (xc X).maxLocals = 6) (hR : RtT (some .boolean) X cX12_hasOne n res.1 res.2 ρ) (a0 : Nat) (h0 : Sh n a0 11) : ∀ (σ : Sto) (v2 : Int32), BX12_hasOne_41 ρ a0 σ v2 = some res → G X 0 0 n σ ρ 41 [(0, vr X a0), (2, .int v2)] [] := by
  intro σ v2 hM
  unfold BX12_hasOne_41 at hM
  refine g_iconst (v := 0) hC dX12_hasOne_41 rfl ic_0 ?_
  refine g_istore_n hC (fun y1 => [(3, .int y1), (0, vr X a0), (2, .int v2)]) dX12_hasOne_42 rfl hM hml (by decide) (fun _ => rfl) (fun y1 hM => ?_)
  exact g_sub [1, 2, 0] ((bX12_hasOne_43 hC hml hR a0 h0 (BX12_hasOne_71 ρ a0) (bX12_hasOne_71 hC hml hR a0 h0 ) FU) _ _ _ hM) rfl
def FX12_hasOne_15 (ρ : Rho) (a0 : Nat) (k41 : Sto → Int32 → Option (Int32 × Sto)) (rec : Sto → Int32 → Option (Int32 × Sto)) (σ : Sto) (v2 : Int32) : Option (Int32 × Sto) :=
  if (5 : Int32) ≤ v2 then
    k41 σ v2
  else
    Option.bind (ρ a0 12) fun j1 =>
    Option.bind (ag σ j1 ((((6 : Int32) * v2) + v2))) fun x2 =>
    if x2 = (1 : Int32) then
      bn (v2 + (1 : Int32)) fun y3 =>
      rec σ y3
    else
      k41 σ v2
set_option maxHeartbeats 4000000 in
set_option maxRecDepth 100000 in
theorem bX12_hasOne_15 {X : CX} {n : Nat} {ρ : Rho} {res : Int32 × Sto} (hC : Cx X cX12_hasOne RX12 3) (hml : (xc X).maxLocals = 6) (hR : RtT (some .boolean) X cX12_hasOne n res.1 res.2 ρ) (a0 : Nat) (h0 : Sh n a0 11) (k41 : Sto → Int32 → Option (Int32 × Sto)) (hk41 : ∀ (σ : Sto) (v2 : Int32), k41 σ v2 = some res → G X 0 0 n σ ρ 41 [(0, vr X a0), (2, .int v2)] []) (fu : Nat) : ∀ (σ : Sto) (v2 : Int32), fixN (fun _ _ => none) (FX12_hasOne_15 ρ a0 k41) fu σ v2 = some res → G X 0 0 n σ ρ 15 [(0, vr X a0), (2, .int v2)] [] := by
  refine fixN_ind (P := fun (f : Sto → Int32 → Option (Int32 × Sto)) => ∀ (σ : Sto) (v2 : Int32), f σ v2 = some res → G X 0 0 n σ ρ 15 [(0, vr X a0), (2, .int v2)] []) ?_ ?_ fu
  · intro σ v2 hM; cases hM
  · intro rec ih σ v2 hM
    unfold FX12_hasOne_15 at hM
    refine g_iload_n hC dX12_hasOne_15 rfl 1 rfl ?_
    refine g_iconst (v := 5) hC dX12_hasOne_16 rfl ic_5 ?_
    refine g_icmp_ge (tgt := 41) hC dX12_hasOne_17 rfl (by decide) hM (fun hM => ?_) (fun hM => ?_)
    · exact g_sub [0, 1] (hk41 _ _ hM) rfl
    · refine g_aload_n hC dX12_hasOne_20 rfl 0 rfl ?_
      refine fg_11_12 hC h0 k_1094 dX12_hasOne_21 rfl hM (fun j1 hj1 hM => ?_)
      refine g_bipush (v := 6) hC dX12_hasOne_24 rfl ib_6 ?_
      refine g_iload_n hC dX12_hasOne_26 rfl 1 rfl ?_
      refine g_imul hC dX12_hasOne_27 rfl ?_
      refine g_iload_n hC dX12_hasOne_28 rfl 1 rfl ?_
      refine g_iadd hC dX12_hasOne_29 rfl ?_
      refine g_iald hC hj1 dX12_hasOne_30 rfl hM (fun x2 hM => ?_)
      refine g_iconst (v := 1) hC dX12_hasOne_31 rfl ic_1 ?_
      refine g_icmp_ne (tgt := 41) hC dX12_hasOne_32 rfl (by decide) hM (fun hM => ?_) (fun hM => ?_)
      · exact g_sub [0, 1] (hk41 _ _ hM) rfl
      · refine g_iinc (v := 1) hC (fun y3 => [(2, .int y3), (0, vr X a0)]) dX12_hasOne_35 rfl hM (j := 1) rfl ic_1 hml (by decide) (fun _ => rfl) (fun y3 hM => ?_)
        refine g_goto (tgt := 15) hC dX12_hasOne_38 rfl (by decide) ?_
        exact g_sub [1, 0] (ih _ _ hM) rfl
def MX12_hasOne (σ : Sto) (ρ : Rho) (a0 : Nat) : Option (Int32 × Sto) :=
  Option.bind (MX12_rankWith σ ρ a0 ((-1 : Int32))) fun c1 =>
  bn c1.1 fun y2 =>
  if y2 = (5 : Int32) then
    bn ((0 : Int32)) fun y3 =>
    fixN (fun _ _ => none) (FX12_hasOne_15 ρ a0 (BX12_hasOne_41 ρ a0)) FU c1.2 y3
  else
    zr ((0 : Int32)) (some ((0 : Int32), c1.2))
set_option maxHeartbeats 4000000 in
set_option maxRecDepth 100000 in
theorem c_X12_hasOne (E : EX) {n : Nat} {σ : Sto} {ρ : Rho} (a0 : Nat) (h0 : Sh n a0 11) (res : Int32 × Sto) (hM : MX12_hasOne σ ρ a0 = some res) : CTi E yX12_hasOne cX12_hasOne 6 (some .boolean) 3 [.ref (eb E + a0)] n σ ρ res.1 res.2 ρ := by
  refine ct_i (by decide +kernel) rfl (Nat.le_of_ble_eq_true rfl) (fun X hE hml hC hR => ?_)
  subst hE
  show G X 0 0 n σ ρ 0 [(0, vr X a0)] []
  replace hC : Cx X cX12_hasOne RX12 3 := hC
  unfold MX12_hasOne at hM
  refine g_aload_n hC dX12_hasOne_0 rfl 0 rfl ?_
  refine g_iconst (v := -1) hC dX12_hasOne_1 rfl ic_m1 ?_
  refine g_callVi (As := [.int ((-1 : Int32))]) (st' := []) (k := a0) (L' := 2) hC Y_X12_rankWith I_X12_rankWith k_1259 ⟨by decide, by decide⟩ h0 (ci := 11) (by decide) rfl dX12_hasOne_2 rfl rfl rfl (Nat.le_of_ble_eq_true rfl) ⟨Nat.zero_le _, Nat.zero_le _⟩ hM (fun c hc => c_X12_rankWith (xE X) a0 h0 ((-1 : Int32)) c hc) (fun c1 hM => ?_)
  refine g_istore_n hC (fun y2 => [(1, .int y2), (0, vr X a0)]) dX12_hasOne_5 rfl hM hml (by decide) (fun _ => rfl) (fun y2 hM => ?_)
  refine g_iload_n hC dX12_hasOne_6 rfl 0 rfl ?_
  refine g_iconst (v := 5) hC dX12_hasOne_7 rfl ic_5 ?_
  refine g_icmp_eq (tgt := 13) hC dX12_hasOne_8 rfl (by decide) hM (fun hM => ?_) (fun hM => ?_)
  · refine g_iconst (v := 0) hC dX12_hasOne_13 rfl ic_0 ?_
    refine g_istore_n hC (fun y3 => [(2, .int y3), (1, .int y2), (0, vr X a0)]) dX12_hasOne_14 rfl hM hml (by decide) (fun _ => rfl) (fun y3 hM => ?_)
    exact g_sub [2, 0] ((bX12_hasOne_15 hC hml hR a0 h0 (BX12_hasOne_41 ρ a0) (bX12_hasOne_41 hC hml hR a0 h0 ) FU) _ _ hM) rfl
  · refine g_iconst (v := 0) hC dX12_hasOne_11 rfl ic_0 ?_
    exact g_retz hM dX12_hasOne_12 rfl (fun h => by cases h; exact hR)
def BX12_through_40 (ρ : Rho) (a0 : Nat) (a1 : Int32) (σ : Sto) (t0 : Nat) (t1 : Int32) (t2 : Int32) : Option (Int32 × Sto) :=
  Option.bind (MX12_refused σ ρ t0 t1 t2) fun c1 =>
  some (c1.1, c1.2)
set_option maxHeartbeats 4000000 in
set_option maxRecDepth 100000 in
theorem bX12_through_40 {X : CX} {n : Nat} {ρ : Rho} {res : Int32 × Sto} (hC : Cx X cX12_through RX12 4) (hml : (xc X).maxLocals = 2) (hR : RtT (some .int) X cX12_through n res.1 res.2 ρ) (a0 : Nat) (a1 : Int32) (h0 : Sh n a0 11) : ∀ (σ : Sto) (t0 : Nat) (t1 : Int32) (t2 : Int32) (ht0 : Sh n t0 11), BX12_through_40 ρ a0 a1 σ t0 t1 t2 = some res → G X 0 0 n σ ρ 40 [(0, vr X a0), (1, .int a1)] [.int t2, .int t1, vr X t0] := by
  intro σ t0 t1 t2 ht0 hM
  unfold BX12_through_40 at hM
  refine g_callVi (As := [.int t1, .int t2]) (st' := []) (k := t0) (L' := 0) hC Y_X12_refused I_X12_refused k_1150 ⟨by decide, by decide⟩ ht0 (ci := 11) (by decide) rfl dX12_through_40 rfl rfl rfl (Nat.le_of_ble_eq_true rfl) ⟨Nat.zero_le _, Nat.zero_le _⟩ hM (fun c hc => c_X12_refused (xE X) t0 ht0 t1 t2 c hc) (fun c1 hM => ?_)
  cases hM
  exact g_reti hR dX12_through_43 rfl
def MX12_through (σ : Sto) (ρ : Rho) (a0 : Nat) (a1 : Int32) : Option (Int32 × Sto) :=
  Option.bind (MX12_isConic a1) fun c1 =>
  if c1 = 0 then
    Option.bind (MX12_refused σ ρ a0 ((1 : Int32)) ((0 : Int32))) fun c5 =>
    some (c5.1, c5.2)
  else
    Option.bind (MX12_hasOne σ ρ a0) fun c2 =>
    if c2.1 = 0 then
      Option.bind (MX12_rankWith c2.2 ρ a0 ((-1 : Int32))) fun c4 =>
      if (5 : Int32) ≤ c4.1 then
        BX12_through_40 ρ a0 a1 c4.2 a0 ((10 : Int32)) ((12 : Int32))
      else
        BX12_through_40 ρ a0 a1 c4.2 a0 ((10 : Int32)) ((11 : Int32))
    else
      Option.bind (MX12_becomes c2.2 ρ a0 a1) fun c3 =>
      some (c3.1, c3.2)
set_option maxHeartbeats 4000000 in
set_option maxRecDepth 100000 in
theorem c_X12_through (E : EX) {n : Nat} {σ : Sto} {ρ : Rho} (a0 : Nat) (h0 : Sh n a0 11) (a1 : Int32) (res : Int32 × Sto) (hM : MX12_through σ ρ a0 a1 = some res) : CTi E yX12_through cX12_through 2 (some .int) 4 [.ref (eb E + a0), .int a1] n σ ρ res.1 res.2 ρ := by
  refine ct_i (by decide +kernel) rfl (Nat.le_of_ble_eq_true rfl) (fun X hE hml hC hR => ?_)
  subst hE
  show G X 0 0 n σ ρ 0 [(0, vr X a0), (1, .int a1)] []
  replace hC : Cx X cX12_through RX12 4 := hC
  unfold MX12_through at hM
  refine g_iload_n hC dX12_through_0 rfl 1 rfl ?_
  refine g_callSi (As := [.int a1]) (st' := []) (L' := 1) hC Y_X12_isConic k_1167 k_1166 ⟨by decide, by decide⟩ dX12_through_1 rfl rfl rfl (Nat.le_of_ble_eq_true rfl) ⟨Nat.zero_le _, Nat.zero_le _⟩ hM (fun c hc => c_X12_isConic (xE X) a1 c hc) (fun c1 hM => ?_)
  refine g_if_ne (tgt := 14) hC dX12_through_4 rfl (by decide) hM (fun hM => ?_) (fun hM => ?_)
  · refine g_aload_n hC dX12_through_14 rfl 0 rfl ?_
    refine g_callVi (As := []) (st' := []) (k := a0) (L' := 3) hC Y_X12_hasOne I_X12_hasOne k_1255 ⟨by decide, by decide⟩ h0 (ci := 11) (by decide) rfl dX12_through_15 rfl rfl rfl (Nat.le_of_ble_eq_true rfl) ⟨Nat.zero_le _, Nat.zero_le _⟩ hM (fun c hc => c_X12_hasOne (xE X) a0 h0 c hc) (fun c2 hM => ?_)
    refine g_if_ne (tgt := 44) hC dX12_through_18 rfl (by decide) hM (fun hM => ?_) (fun hM => ?_)
    · refine g_aload_n hC dX12_through_44 rfl 0 rfl ?_
      refine g_iload_n hC dX12_through_45 rfl 1 rfl ?_
      refine g_callVi (As := [.int a1]) (st' := []) (k := a0) (L' := 3) hC Y_X12_becomes I_X12_becomes k_1179 ⟨by decide, by decide⟩ h0 (ci := 11) (by decide) rfl dX12_through_46 rfl rfl rfl (Nat.le_of_ble_eq_true rfl) ⟨Nat.zero_le _, Nat.zero_le _⟩ hM (fun c hc => c_X12_becomes (xE X) a0 h0 a1 c hc) (fun c3 hM => ?_)
      cases hM
      exact g_reti hR dX12_through_49 rfl
    · refine g_aload_n hC dX12_through_21 rfl 0 rfl ?_
      refine g_bipush (v := 10) hC dX12_through_22 rfl ib_10 ?_
      refine g_aload_n hC dX12_through_24 rfl 0 rfl ?_
      refine g_iconst (v := -1) hC dX12_through_25 rfl ic_m1 ?_
      refine g_callVi (As := [.int ((-1 : Int32))]) (st' := [.int ((10 : Int32)), vr X a0]) (k := a0) (L' := 2) hC Y_X12_rankWith I_X12_rankWith k_1259 ⟨by decide, by decide⟩ h0 (ci := 11) (by decide) rfl dX12_through_26 rfl rfl rfl (Nat.le_of_ble_eq_true rfl) ⟨Nat.zero_le _, Nat.zero_le _⟩ hM (fun c hc => c_X12_rankWith (xE X) a0 h0 ((-1 : Int32)) c hc) (fun c4 hM => ?_)
      refine g_iconst (v := 5) hC dX12_through_29 rfl ic_5 ?_
      refine g_icmp_ge (tgt := 38) hC dX12_through_30 rfl (by decide) hM (fun hM => ?_) (fun hM => ?_)
      · refine g_bipush (v := 12) hC dX12_through_38 rfl ib_12 ?_
        exact g_sub [0, 1] ((bX12_through_40 hC hml hR a0 a1 h0 ) _ _ _ _ h0 hM) rfl
      · refine g_bipush (v := 11) hC dX12_through_33 rfl ib_11 ?_
        refine g_goto (tgt := 40) hC dX12_through_35 rfl (by decide) ?_
        exact g_sub [0, 1] ((bX12_through_40 hC hml hR a0 a1 h0 ) _ _ _ _ h0 hM) rfl
  · refine g_aload_n hC dX12_through_7 rfl 0 rfl ?_
    refine g_iconst (v := 1) hC dX12_through_8 rfl ic_1 ?_
    refine g_iconst (v := 0) hC dX12_through_9 rfl ic_0 ?_
    refine g_callVi (As := [.int ((1 : Int32)), .int ((0 : Int32))]) (st' := []) (k := a0) (L' := 0) hC Y_X12_refused I_X12_refused k_1150 ⟨by decide, by decide⟩ h0 (ci := 11) (by decide) rfl dX12_through_10 rfl rfl rfl (Nat.le_of_ble_eq_true rfl) ⟨Nat.zero_le _, Nat.zero_le _⟩ hM (fun c hc => c_X12_refused (xE X) a0 h0 ((1 : Int32)) ((0 : Int32)) c hc) (fun c5 hM => ?_)
    cases hM
    exact g_reti hR dX12_through_13 rfl
def MX12_isPlace (σ : Sto) (ρ : Rho) (a0 : Nat) (a1 : Int32) : Option (Int32 × Sto) :=
  Option.bind (ρ a0 0) fun j1 =>
  Option.bind (ag σ j1 ((36 : Int32))) fun x2 =>
  bn (su σ a0 7 x2) fun σ3 =>
  Option.bind (MX12_places σ3 a0) fun c4 =>
  Option.bind (MX12_isIn a1 ((0 : Int32)) ((c4 - (1 : Int32)))) fun c5 =>
  zr c5 (some (c5, σ3))
set_option maxHeartbeats 4000000 in
set_option maxRecDepth 100000 in
theorem c_X12_isPlace (E : EX) {n : Nat} {σ : Sto} {ρ : Rho} (a0 : Nat) (h0 : Sh n a0 11) (a1 : Int32) (res : Int32 × Sto) (hM : MX12_isPlace σ ρ a0 a1 = some res) : CTi E yX12_isPlace cX12_isPlace 2 (some .boolean) 1 [.ref (eb E + a0), .int a1] n σ ρ res.1 res.2 ρ := by
  refine ct_i (by decide +kernel) rfl (Nat.le_of_ble_eq_true rfl) (fun X hE hml hC hR => ?_)
  subst hE
  show G X 0 0 n σ ρ 0 [(0, vr X a0), (1, .int a1)] []
  replace hC : Cx X cX12_isPlace RX12 1 := hC
  unfold MX12_isPlace at hM
  refine g_aload_n hC dX12_isPlace_0 rfl 0 rfl ?_
  refine g_aload_n hC dX12_isPlace_1 rfl 0 rfl ?_
  refine fg_11_0 hC h0 k_1082 dX12_isPlace_2 rfl hM (fun j1 hj1 hM => ?_)
  refine g_bipush (v := 36) hC dX12_isPlace_5 rfl ib_36 ?_
  refine g_iald hC hj1 dX12_isPlace_7 rfl hM (fun x2 hM => ?_)
  refine fp_11_7 hC h0 k_1089 dX12_isPlace_8 rfl hM (fun σ3 hM => ?_)
  refine g_iload_n hC dX12_isPlace_11 rfl 1 rfl ?_
  refine g_iconst (v := 0) hC dX12_isPlace_12 rfl ic_0 ?_
  refine g_aload_n hC dX12_isPlace_13 rfl 0 rfl ?_
  refine g_callVi (As := []) (st' := [.int ((0 : Int32)), .int a1]) (k := a0) (L' := 0) hC Y_X12_places I_X12_places k_1227 ⟨by decide, by decide⟩ h0 (ci := 11) (by decide) rfl dX12_isPlace_14 rfl rfl rfl (Nat.le_of_ble_eq_true rfl) ⟨Nat.zero_le _, Nat.zero_le _⟩ hM (fun c hc => c_X12_places (xE X) a0 h0 c hc) (fun c4 hM => ?_)
  refine g_iconst (v := 1) hC dX12_isPlace_17 rfl ic_1 ?_
  refine g_isub hC dX12_isPlace_18 rfl ?_
  refine g_callSi (As := [.int a1, .int ((0 : Int32)), .int ((c4 - (1 : Int32)))]) (st' := []) (L' := 0) hC Y_X12_isIn k_1170 k_1169 ⟨by decide, by decide⟩ dX12_isPlace_19 rfl rfl rfl (Nat.le_of_ble_eq_true rfl) ⟨Nat.zero_le _, Nat.zero_le _⟩ hM (fun c hc => c_X12_isIn (xE X) a1 ((0 : Int32)) ((c4 - (1 : Int32))) c hc) (fun c5 hM => ?_)
  exact g_retz hM dX12_isPlace_22 rfl (fun h => by cases h; exact hR)
def FX12_markOf_2 (σ : Sto) (ρ : Rho) (a0 : Nat) (a1 : Int32) (a2 : Int32) (rec : Int32 → Option (Int32)) (v3 : Int32) : Option (Int32) :=
  Option.bind (ρ a0 0) fun j1 =>
  Option.bind (ag σ j1 ((a1 + (37 : Int32)))) fun x2 =>
  if x2 ≤ v3 then
    some (-1 : Int32)
  else
    Option.bind (ρ a0 0) fun j3 =>
    Option.bind (ag σ j3 (((a1 + (38 : Int32)) + v3))) fun x4 =>
    if x4 = a2 then
      some v3
    else
      bn (v3 + (1 : Int32)) fun y5 =>
      rec y5
set_option maxHeartbeats 4000000 in
set_option maxRecDepth 100000 in
theorem bX12_markOf_2 {X : CX} {n : Nat} {σ : Sto} {ρ : Rho} {res : Int32} (hC : Cx X cX12_markOf RX12 0) (hml : (xc X).maxLocals = 4) (hR : RtT (some .int) X cX12_markOf n res σ ρ) (a0 : Nat) (a1 : Int32) (a2 : Int32) (h0 : Sh n a0 11) (fu : Nat) : ∀ (v3 : Int32), fixN (fun _ => none) (FX12_markOf_2 σ ρ a0 a1 a2) fu v3 = some res → G X 0 0 n σ ρ 2 [(0, vr X a0), (1, .int a1), (2, .int a2), (3, .int v3)] [] := by
  refine fixN_ind (P := fun (f : Int32 → Option (Int32)) => ∀ (v3 : Int32), f v3 = some res → G X 0 0 n σ ρ 2 [(0, vr X a0), (1, .int a1), (2, .int a2), (3, .int v3)] []) ?_ ?_ fu
  · intro v3 hM; cases hM
  · intro rec ih v3 hM
    unfold FX12_markOf_2 at hM
    refine g_iload_n hC dX12_markOf_2 rfl 3 rfl ?_
    refine g_aload_n hC dX12_markOf_3 rfl 0 rfl ?_
    refine fg_11_0 hC h0 k_1082 dX12_markOf_4 rfl hM (fun j1 hj1 hM => ?_)
    refine g_iload_n hC dX12_markOf_7 rfl 1 rfl ?_
    refine g_bipush (v := 37) hC dX12_markOf_8 rfl ib_37 ?_
    refine g_iadd hC dX12_markOf_10 rfl ?_
    refine g_iald hC hj1 dX12_markOf_11 rfl hM (fun x2 hM => ?_)
    refine g_icmp_ge (tgt := 38) hC dX12_markOf_12 rfl (by decide) hM (fun hM => ?_) (fun hM => ?_)
    · refine g_iconst (v := -1) hC dX12_markOf_38 rfl ic_m1 ?_
      obtain rfl := Option.some.inj hM
      exact g_reti hR dX12_markOf_39 rfl
    · refine g_aload_n hC dX12_markOf_15 rfl 0 rfl ?_
      refine fg_11_0 hC h0 k_1082 dX12_markOf_16 rfl hM (fun j3 hj3 hM => ?_)
      refine g_iload_n hC dX12_markOf_19 rfl 1 rfl ?_
      refine g_bipush (v := 38) hC dX12_markOf_20 rfl ib_38 ?_
      refine g_iadd hC dX12_markOf_22 rfl ?_
      refine g_iload_n hC dX12_markOf_23 rfl 3 rfl ?_
      refine g_iadd hC dX12_markOf_24 rfl ?_
      refine g_iald hC hj3 dX12_markOf_25 rfl hM (fun x4 hM => ?_)
      refine g_iload_n hC dX12_markOf_26 rfl 2 rfl ?_
      refine g_icmp_ne (tgt := 32) hC dX12_markOf_27 rfl (by decide) hM (fun hM => ?_) (fun hM => ?_)
      · refine g_iinc (v := 1) hC (fun y5 => [(3, .int y5), (0, vr X a0), (1, .int a1), (2, .int a2)]) dX12_markOf_32 rfl hM (j := 3) rfl ic_1 hml (by decide) (fun _ => rfl) (fun y5 hM => ?_)
        refine g_goto (tgt := 2) hC dX12_markOf_35 rfl (by decide) ?_
        exact g_sub [1, 2, 3, 0] (ih _ hM) rfl
      · refine g_iload_n hC dX12_markOf_30 rfl 3 rfl ?_
        cases hM
        exact g_reti hR dX12_markOf_31 rfl
def MX12_markOf (σ : Sto) (ρ : Rho) (a0 : Nat) (a1 : Int32) (a2 : Int32) : Option (Int32) :=
  bn ((0 : Int32)) fun y1 =>
  fixN (fun _ => none) (FX12_markOf_2 σ ρ a0 a1 a2) FU y1
set_option maxHeartbeats 4000000 in
set_option maxRecDepth 100000 in
theorem c_X12_markOf (E : EX) {n : Nat} {σ : Sto} {ρ : Rho} (a0 : Nat) (h0 : Sh n a0 11) (a1 : Int32) (a2 : Int32) (res : Int32) (hM : MX12_markOf σ ρ a0 a1 a2 = some res) : CTi E yX12_markOf cX12_markOf 4 (some .int) 0 [.ref (eb E + a0), .int a1, .int a2] n σ ρ res σ ρ := by
  refine ct_i (by decide +kernel) rfl (Nat.le_of_ble_eq_true rfl) (fun X hE hml hC hR => ?_)
  subst hE
  show G X 0 0 n σ ρ 0 [(0, vr X a0), (1, .int a1), (2, .int a2)] []
  replace hC : Cx X cX12_markOf RX12 0 := hC
  unfold MX12_markOf at hM
  refine g_iconst (v := 0) hC dX12_markOf_0 rfl ic_0 ?_
  refine g_istore_n hC (fun y1 => [(3, .int y1), (0, vr X a0), (1, .int a1), (2, .int a2)]) dX12_markOf_1 rfl hM hml (by decide) (fun _ => rfl) (fun y1 hM => ?_)
  exact g_sub [1, 2, 3, 0] ((bX12_markOf_2 hC hml hR a0 a1 a2 h0  FU) _ hM) rfl
def BX12_mark_138 (ρ : Rho) (a0 : Nat) (a1 : Int32) (a2 : Int32) (σ : Sto) : Option (Int32 × Sto) :=
  Option.bind (MX12_refused σ ρ a0 ((0 : Int32)) ((0 : Int32))) fun c1 =>
  some (c1.1, c1.2)
set_option maxHeartbeats 4000000 in
set_option maxRecDepth 100000 in
theorem bX12_mark_138 {X : CX} {n : Nat} {ρ : Rho} {res : Int32 × Sto} (hC : Cx X cX12_mark RX12 2) (hml : (xc X).maxLocals = 4) (hR : RtT (some .int) X cX12_mark n res.1 res.2 ρ) (a0 : Nat) (a1 : Int32) (a2 : Int32) (h0 : Sh n a0 11) : ∀ (σ : Sto), BX12_mark_138 ρ a0 a1 a2 σ = some res → G X 0 0 n σ ρ 138 [(0, vr X a0), (1, .int a1), (2, .int a2)] [] := by
  intro σ hM
  unfold BX12_mark_138 at hM
  refine g_aload_n hC dX12_mark_138 rfl 0 rfl ?_
  refine g_iconst (v := 0) hC dX12_mark_139 rfl ic_0 ?_
  refine g_iconst (v := 0) hC dX12_mark_140 rfl ic_0 ?_
  refine g_callVi (As := [.int ((0 : Int32)), .int ((0 : Int32))]) (st' := []) (k := a0) (L' := 0) hC Y_X12_refused I_X12_refused k_1150 ⟨by decide, by decide⟩ h0 (ci := 11) (by decide) rfl dX12_mark_141 rfl rfl rfl (Nat.le_of_ble_eq_true rfl) ⟨Nat.zero_le _, Nat.zero_le _⟩ hM (fun c hc => c_X12_refused (xE X) a0 h0 ((0 : Int32)) ((0 : Int32)) c hc) (fun c1 hM => ?_)
  cases hM
  exact g_reti hR dX12_mark_144 rfl
def BX12_mark_66 (ρ : Rho) (a0 : Nat) (a1 : Int32) (a2 : Int32) (σ : Sto) (v3 : Int32) : Option (Int32 × Sto) :=
  Option.bind (MX12_keeps σ ρ a0) fun c1 =>
  if a2 = 0 then
    Option.bind (ρ a0 0) fun j2 =>
    Option.bind (ρ a0 0) fun j3 =>
    Option.bind (ag c1 j3 ((37 : Int32))) fun x4 =>
    Option.bind (ap c1 j2 (((38 : Int32) + x4)) a1) fun σ5 =>
    Option.bind (ρ a0 0) fun j6 =>
    Option.bind (ag σ5 j6 ((37 : Int32))) fun x7 =>
    Option.bind (ap σ5 j6 ((37 : Int32)) ((x7 + (1 : Int32)))) fun σ8 =>
    BX12_mark_138 ρ a0 a1 a2 σ8
  else
    Option.bind (ρ a0 0) fun j9 =>
    Option.bind (ag c1 j9 ((37 : Int32))) fun x10 =>
    Option.bind (ap c1 j9 ((37 : Int32)) ((x10 - (1 : Int32)))) fun σ11 =>
    Option.bind (ρ a0 0) fun j12 =>
    Option.bind (ag σ11 j12 ((37 : Int32))) fun x13 =>
    Option.bind (MX12_copies σ11 ρ a0 ((((38 : Int32) + v3) + (1 : Int32))) (((38 : Int32) + v3)) ((x13 - v3))) fun c14 =>
    BX12_mark_138 ρ a0 a1 a2 c14
set_option maxHeartbeats 4000000 in
set_option maxRecDepth 100000 in
theorem bX12_mark_66 {X : CX} {n : Nat} {ρ : Rho} {res : Int32 × Sto} (hC : Cx X cX12_mark RX12 2) (hml : (xc X).maxLocals = 4) (hR : RtT (some .int) X cX12_mark n res.1 res.2 ρ) (a0 : Nat) (a1 : Int32) (a2 : Int32) (h0 : Sh n a0 11) : ∀ (σ : Sto) (v3 : Int32), BX12_mark_66 ρ a0 a1 a2 σ v3 = some res → G X 0 0 n σ ρ 66 [(0, vr X a0), (1, .int a1), (2, .int a2), (3, .int v3)] [] := by
  intro σ v3 hM
  unfold BX12_mark_66 at hM
  refine g_aload_n hC dX12_mark_66 rfl 0 rfl ?_
  refine g_callVv0 (As := []) (st' := []) (k := a0) (L' := 1) hC Y_X12_keeps I_X12_keeps k_1154 ⟨by decide, by decide⟩ h0 (ci := 11) (by decide) rfl dX12_mark_67 rfl rfl rfl (Nat.le_of_ble_eq_true rfl) ⟨Nat.zero_le _, Nat.zero_le _⟩ hM (fun c hc => c_X12_keeps (xE X) a0 h0 c hc) (fun c1 hM => ?_)
  refine g_iload_n hC dX12_mark_70 rfl 2 rfl ?_
  refine g_if_eq (tgt := 111) hC dX12_mark_71 rfl (by decide) hM (fun hM => ?_) (fun hM => ?_)
  · refine g_aload_n hC dX12_mark_111 rfl 0 rfl ?_
    refine fg_11_0 hC h0 k_1082 dX12_mark_112 rfl hM (fun j2 hj2 hM => ?_)
    refine g_bipush (v := 38) hC dX12_mark_115 rfl ib_38 ?_
    refine g_aload_n hC dX12_mark_117 rfl 0 rfl ?_
    refine fg_11_0 hC h0 k_1082 dX12_mark_118 rfl hM (fun j3 hj3 hM => ?_)
    refine g_bipush (v := 37) hC dX12_mark_121 rfl ib_37 ?_
    refine g_iald hC hj3 dX12_mark_123 rfl hM (fun x4 hM => ?_)
    refine g_iadd hC dX12_mark_124 rfl ?_
    refine g_iload_n hC dX12_mark_125 rfl 1 rfl ?_
    refine g_iast hC hj2 dX12_mark_126 rfl hM (fun σ5 hM => ?_)
    refine g_aload_n hC dX12_mark_127 rfl 0 rfl ?_
    refine fg_11_0 hC h0 k_1082 dX12_mark_128 rfl hM (fun j6 hj6 hM => ?_)
    refine g_bipush (v := 37) hC dX12_mark_131 rfl ib_37 ?_
    refine g_dup2 hC dX12_mark_133 rfl rfl rfl ?_
    refine g_iald hC hj6 dX12_mark_134 rfl hM (fun x7 hM => ?_)
    refine g_iconst (v := 1) hC dX12_mark_135 rfl ic_1 ?_
    refine g_iadd hC dX12_mark_136 rfl ?_
    refine g_iast hC hj6 dX12_mark_137 rfl hM (fun σ8 hM => ?_)
    exact g_sub [0, 1, 2] ((bX12_mark_138 hC hml hR a0 a1 a2 h0 ) _ hM) rfl
  · refine g_aload_n hC dX12_mark_74 rfl 0 rfl ?_
    refine fg_11_0 hC h0 k_1082 dX12_mark_75 rfl hM (fun j9 hj9 hM => ?_)
    refine g_bipush (v := 37) hC dX12_mark_78 rfl ib_37 ?_
    refine g_dup2 hC dX12_mark_80 rfl rfl rfl ?_
    refine g_iald hC hj9 dX12_mark_81 rfl hM (fun x10 hM => ?_)
    refine g_iconst (v := 1) hC dX12_mark_82 rfl ic_1 ?_
    refine g_isub hC dX12_mark_83 rfl ?_
    refine g_iast hC hj9 dX12_mark_84 rfl hM (fun σ11 hM => ?_)
    refine g_aload_n hC dX12_mark_85 rfl 0 rfl ?_
    refine g_bipush (v := 38) hC dX12_mark_86 rfl ib_38 ?_
    refine g_iload_n hC dX12_mark_88 rfl 3 rfl ?_
    refine g_iadd hC dX12_mark_89 rfl ?_
    refine g_iconst (v := 1) hC dX12_mark_90 rfl ic_1 ?_
    refine g_iadd hC dX12_mark_91 rfl ?_
    refine g_bipush (v := 38) hC dX12_mark_92 rfl ib_38 ?_
    refine g_iload_n hC dX12_mark_94 rfl 3 rfl ?_
    refine g_iadd hC dX12_mark_95 rfl ?_
    refine g_aload_n hC dX12_mark_96 rfl 0 rfl ?_
    refine fg_11_0 hC h0 k_1082 dX12_mark_97 rfl hM (fun j12 hj12 hM => ?_)
    refine g_bipush (v := 37) hC dX12_mark_100 rfl ib_37 ?_
    refine g_iald hC hj12 dX12_mark_102 rfl hM (fun x13 hM => ?_)
    refine g_iload_n hC dX12_mark_103 rfl 3 rfl ?_
    refine g_isub hC dX12_mark_104 rfl ?_
    refine g_callVv0 (As := [.int ((((38 : Int32) + v3) + (1 : Int32))), .int (((38 : Int32) + v3)), .int ((x13 - v3))]) (st' := []) (k := a0) (L' := 0) hC Y_X12_copies I_X12_copies k_1158 ⟨by decide, by decide⟩ h0 (ci := 11) (by decide) rfl dX12_mark_105 rfl rfl rfl (Nat.le_of_ble_eq_true rfl) ⟨Nat.zero_le _, Nat.zero_le _⟩ hM (fun c hc => c_X12_copies (xE X) a0 h0 ((((38 : Int32) + v3) + (1 : Int32))) (((38 : Int32) + v3)) ((x13 - v3)) c hc) (fun c14 hM => ?_)
    refine g_goto (tgt := 138) hC dX12_mark_108 rfl (by decide) ?_
    exact g_sub [0, 1, 2] ((bX12_mark_138 hC hml hR a0 a1 a2 h0 ) _ hM) rfl
def BX12_mark_32 (ρ : Rho) (a0 : Nat) (a1 : Int32) (a2 : Int32) (σ : Sto) (v3 : Int32) (t0 : Int32) : Option (Int32 × Sto) :=
  if t0 = a2 then
    Option.bind (MX12_refused σ ρ a0 ((2 : Int32)) ((0 : Int32))) fun c4 =>
    some (c4.1, c4.2)
  else
    if a2 = 0 then
      Option.bind (ρ a0 0) fun j1 =>
      Option.bind (ag σ j1 ((37 : Int32))) fun x2 =>
      if x2 = (8 : Int32) then
        Option.bind (MX12_refused σ ρ a0 ((3 : Int32)) ((0 : Int32))) fun c3 =>
        some (c3.1, c3.2)
      else
        BX12_mark_66 ρ a0 a1 a2 σ v3
    else
      BX12_mark_66 ρ a0 a1 a2 σ v3
set_option maxHeartbeats 4000000 in
set_option maxRecDepth 100000 in
theorem bX12_mark_32 {X : CX} {n : Nat} {ρ : Rho} {res : Int32 × Sto} (hC : Cx X cX12_mark RX12 2) (hml : (xc X).maxLocals = 4) (hR : RtT (some .int) X cX12_mark n res.1 res.2 ρ) (a0 : Nat) (a1 : Int32) (a2 : Int32) (h0 : Sh n a0 11) : ∀ (σ : Sto) (v3 : Int32) (t0 : Int32), BX12_mark_32 ρ a0 a1 a2 σ v3 t0 = some res → G X 0 0 n σ ρ 32 [(0, vr X a0), (1, .int a1), (2, .int a2), (3, .int v3)] [.int t0] := by
  intro σ v3 t0 hM
  unfold BX12_mark_32 at hM
  refine g_iload_n hC dX12_mark_32 rfl 2 rfl ?_
  refine g_icmp_ne (tgt := 43) hC dX12_mark_33 rfl (by decide) hM (fun hM => ?_) (fun hM => ?_)
  · refine g_iload_n hC dX12_mark_43 rfl 2 rfl ?_
    refine g_if_ne (tgt := 66) hC dX12_mark_44 rfl (by decide) hM (fun hM => ?_) (fun hM => ?_)
    · exact g_sub [0, 1, 2, 3] ((bX12_mark_66 hC hml hR a0 a1 a2 h0 ) _ _ hM) rfl
    · refine g_aload_n hC dX12_mark_47 rfl 0 rfl ?_
      refine fg_11_0 hC h0 k_1082 dX12_mark_48 rfl hM (fun j1 hj1 hM => ?_)
      refine g_bipush (v := 37) hC dX12_mark_51 rfl ib_37 ?_
      refine g_iald hC hj1 dX12_mark_53 rfl hM (fun x2 hM => ?_)
      refine g_bipush (v := 8) hC dX12_mark_54 rfl ib_8 ?_
      refine g_icmp_ne (tgt := 66) hC dX12_mark_56 rfl (by decide) hM (fun hM => ?_) (fun hM => ?_)
      · exact g_sub [0, 1, 2, 3] ((bX12_mark_66 hC hml hR a0 a1 a2 h0 ) _ _ hM) rfl
      · refine g_aload_n hC dX12_mark_59 rfl 0 rfl ?_
        refine g_iconst (v := 3) hC dX12_mark_60 rfl ic_3 ?_
        refine g_iconst (v := 0) hC dX12_mark_61 rfl ic_0 ?_
        refine g_callVi (As := [.int ((3 : Int32)), .int ((0 : Int32))]) (st' := []) (k := a0) (L' := 0) hC Y_X12_refused I_X12_refused k_1150 ⟨by decide, by decide⟩ h0 (ci := 11) (by decide) rfl dX12_mark_62 rfl rfl rfl (Nat.le_of_ble_eq_true rfl) ⟨Nat.zero_le _, Nat.zero_le _⟩ hM (fun c hc => c_X12_refused (xE X) a0 h0 ((3 : Int32)) ((0 : Int32)) c hc) (fun c3 hM => ?_)
        cases hM
        exact g_reti hR dX12_mark_65 rfl
  · refine g_aload_n hC dX12_mark_36 rfl 0 rfl ?_
    refine g_iconst (v := 2) hC dX12_mark_37 rfl ic_2 ?_
    refine g_iconst (v := 0) hC dX12_mark_38 rfl ic_0 ?_
    refine g_callVi (As := [.int ((2 : Int32)), .int ((0 : Int32))]) (st' := []) (k := a0) (L' := 0) hC Y_X12_refused I_X12_refused k_1150 ⟨by decide, by decide⟩ h0 (ci := 11) (by decide) rfl dX12_mark_39 rfl rfl rfl (Nat.le_of_ble_eq_true rfl) ⟨Nat.zero_le _, Nat.zero_le _⟩ hM (fun c hc => c_X12_refused (xE X) a0 h0 ((2 : Int32)) ((0 : Int32)) c hc) (fun c4 hM => ?_)
    cases hM
    exact g_reti hR dX12_mark_42 rfl
def MX12_mark (σ : Sto) (ρ : Rho) (a0 : Nat) (a1 : Int32) (a2 : Int32) : Option (Int32 × Sto) :=
  Option.bind (MX12_isPlace σ ρ a0 a1) fun c1 =>
  if c1.1 = 0 then
    Option.bind (MX12_refused c1.2 ρ a0 ((1 : Int32)) ((0 : Int32))) fun c4 =>
    some (c4.1, c4.2)
  else
    Option.bind (MX12_markOf c1.2 ρ a0 ((0 : Int32)) a1) fun c2 =>
    bn c2 fun y3 =>
    if y3 = (-1 : Int32) then
      BX12_mark_32 ρ a0 a1 a2 c1.2 y3 ((1 : Int32))
    else
      BX12_mark_32 ρ a0 a1 a2 c1.2 y3 ((0 : Int32))
set_option maxHeartbeats 4000000 in
set_option maxRecDepth 100000 in
theorem c_X12_mark (E : EX) {n : Nat} {σ : Sto} {ρ : Rho} (a0 : Nat) (h0 : Sh n a0 11) (a1 : Int32) (a2 : Int32) (res : Int32 × Sto) (hM : MX12_mark σ ρ a0 a1 a2 = some res) : CTi E yX12_mark cX12_mark 4 (some .int) 2 [.ref (eb E + a0), .int a1, .int a2] n σ ρ res.1 res.2 ρ := by
  refine ct_i (by decide +kernel) rfl (Nat.le_of_ble_eq_true rfl) (fun X hE hml hC hR => ?_)
  subst hE
  show G X 0 0 n σ ρ 0 [(0, vr X a0), (1, .int a1), (2, .int a2)] []
  replace hC : Cx X cX12_mark RX12 2 := hC
  unfold MX12_mark at hM
  refine g_aload_n hC dX12_mark_0 rfl 0 rfl ?_
  refine g_iload_n hC dX12_mark_1 rfl 1 rfl ?_
  refine g_callVi (As := [.int a1]) (st' := []) (k := a0) (L' := 1) hC Y_X12_isPlace I_X12_isPlace k_1271 ⟨by decide, by decide⟩ h0 (ci := 11) (by decide) rfl dX12_mark_2 rfl rfl rfl (Nat.le_of_ble_eq_true rfl) ⟨Nat.zero_le _, Nat.zero_le _⟩ hM (fun c hc => c_X12_isPlace (xE X) a0 h0 a1 c hc) (fun c1 hM => ?_)
  refine g_if_ne (tgt := 15) hC dX12_mark_5 rfl (by decide) hM (fun hM => ?_) (fun hM => ?_)
  · refine g_aload_n hC dX12_mark_15 rfl 0 rfl ?_
    refine g_iconst (v := 0) hC dX12_mark_16 rfl ic_0 ?_
    refine g_iload_n hC dX12_mark_17 rfl 1 rfl ?_
    refine g_callVi (As := [.int ((0 : Int32)), .int a1]) (st' := []) (k := a0) (L' := 0) hC Y_X12_markOf I_X12_markOf k_1275 ⟨by decide, by decide⟩ h0 (ci := 11) (by decide) rfl dX12_mark_18 rfl rfl rfl (Nat.le_of_ble_eq_true rfl) ⟨Nat.zero_le _, Nat.zero_le _⟩ hM (fun c hc => c_X12_markOf (xE X) a0 h0 ((0 : Int32)) a1 c hc) (fun c2 hM => ?_)
    refine g_istore_n hC (fun y3 => [(3, .int y3), (0, vr X a0), (1, .int a1), (2, .int a2)]) dX12_mark_21 rfl hM hml (by decide) (fun _ => rfl) (fun y3 hM => ?_)
    refine g_iload_n hC dX12_mark_22 rfl 0 rfl ?_
    refine g_iconst (v := -1) hC dX12_mark_23 rfl ic_m1 ?_
    refine g_icmp_ne (tgt := 31) hC dX12_mark_24 rfl (by decide) hM (fun hM => ?_) (fun hM => ?_)
    · refine g_iconst (v := 0) hC dX12_mark_31 rfl ic_0 ?_
      exact g_sub [1, 2, 3, 0] ((bX12_mark_32 hC hml hR a0 a1 a2 h0 ) _ _ _ hM) rfl
    · refine g_iconst (v := 1) hC dX12_mark_27 rfl ic_1 ?_
      refine g_goto (tgt := 32) hC dX12_mark_28 rfl (by decide) ?_
      exact g_sub [1, 2, 3, 0] ((bX12_mark_32 hC hml hR a0 a1 a2 h0 ) _ _ _ hM) rfl
  · refine g_aload_n hC dX12_mark_8 rfl 0 rfl ?_
    refine g_iconst (v := 1) hC dX12_mark_9 rfl ic_1 ?_
    refine g_iconst (v := 0) hC dX12_mark_10 rfl ic_0 ?_
    refine g_callVi (As := [.int ((1 : Int32)), .int ((0 : Int32))]) (st' := []) (k := a0) (L' := 0) hC Y_X12_refused I_X12_refused k_1150 ⟨by decide, by decide⟩ h0 (ci := 11) (by decide) rfl dX12_mark_11 rfl rfl rfl (Nat.le_of_ble_eq_true rfl) ⟨Nat.zero_le _, Nat.zero_le _⟩ hM (fun c hc => c_X12_refused (xE X) a0 h0 ((1 : Int32)) ((0 : Int32)) c hc) (fun c4 hM => ?_)
    cases hM
    exact g_reti hR dX12_mark_14 rfl
def MX12_why (σ : Sto) (ρ : Rho) (a0 : Nat) (a1 : Int32) : Option (Int32) :=
  Option.bind (MX12_isIn a1 ((0 : Int32)) ((1 : Int32))) fun c1 =>
  if c1 = 0 then
    some (-1 : Int32)
  else
    Option.bind (ρ a0 0) fun j2 =>
    Option.bind (ag σ j2 (((46 : Int32) + a1))) fun x3 =>
    some x3
set_option maxHeartbeats 4000000 in
set_option maxRecDepth 100000 in
theorem c_X12_why (E : EX) {n : Nat} {σ : Sto} {ρ : Rho} (a0 : Nat) (h0 : Sh n a0 11) (a1 : Int32) (res : Int32) (hM : MX12_why σ ρ a0 a1 = some res) : CTi E yX12_why cX12_why 2 (some .int) 1 [.ref (eb E + a0), .int a1] n σ ρ res σ ρ := by
  refine ct_i (by decide +kernel) rfl (Nat.le_of_ble_eq_true rfl) (fun X hE hml hC hR => ?_)
  subst hE
  show G X 0 0 n σ ρ 0 [(0, vr X a0), (1, .int a1)] []
  replace hC : Cx X cX12_why RX12 1 := hC
  unfold MX12_why at hM
  refine g_iload_n hC dX12_why_0 rfl 1 rfl ?_
  refine g_iconst (v := 0) hC dX12_why_1 rfl ic_0 ?_
  refine g_iconst (v := 1) hC dX12_why_2 rfl ic_1 ?_
  refine g_callSi (As := [.int a1, .int ((0 : Int32)), .int ((1 : Int32))]) (st' := []) (L' := 0) hC Y_X12_isIn k_1170 k_1169 ⟨by decide, by decide⟩ dX12_why_3 rfl rfl rfl (Nat.le_of_ble_eq_true rfl) ⟨Nat.zero_le _, Nat.zero_le _⟩ hM (fun c hc => c_X12_isIn (xE X) a1 ((0 : Int32)) ((1 : Int32)) c hc) (fun c1 hM => ?_)
  refine g_if_eq (tgt := 21) hC dX12_why_6 rfl (by decide) hM (fun hM => ?_) (fun hM => ?_)
  · refine g_iconst (v := -1) hC dX12_why_21 rfl ic_m1 ?_
    obtain rfl := Option.some.inj hM
    exact g_reti hR dX12_why_22 rfl
  · refine g_aload_n hC dX12_why_9 rfl 0 rfl ?_
    refine fg_11_0 hC h0 k_1082 dX12_why_10 rfl hM (fun j2 hj2 hM => ?_)
    refine g_bipush (v := 46) hC dX12_why_13 rfl ib_46 ?_
    refine g_iload_n hC dX12_why_15 rfl 1 rfl ?_
    refine g_iadd hC dX12_why_16 rfl ?_
    refine g_iald hC hj2 dX12_why_17 rfl hM (fun x3 hM => ?_)
    refine g_goto (tgt := 22) hC dX12_why_18 rfl (by decide) ?_
    cases hM
    exact g_reti hR dX12_why_22 rfl
def MX12_undo (σ : Sto) (ρ : Rho) (a0 : Nat) : Option (Int32 × Sto) :=
  if (σ a0 6) = 0 then
    some ((-1 : Int32), σ)
  else
    bn (su σ a0 6 (((σ a0 6) - (1 : Int32)))) fun σ1 =>
    Option.bind (MX12_copies σ1 ρ a0 (((94 : Int32) + ((46 : Int32) * (σ1 a0 6)))) ((0 : Int32)) ((46 : Int32))) fun c2 =>
    some ((c2 a0 6), c2)
set_option maxHeartbeats 4000000 in
set_option maxRecDepth 100000 in
theorem c_X12_undo (E : EX) {n : Nat} {σ : Sto} {ρ : Rho} (a0 : Nat) (h0 : Sh n a0 11) (res : Int32 × Sto) (hM : MX12_undo σ ρ a0 = some res) : CTi E yX12_undo cX12_undo 1 (some .int) 1 [.ref (eb E + a0)] n σ ρ res.1 res.2 ρ := by
  refine ct_i (by decide +kernel) rfl (Nat.le_of_ble_eq_true rfl) (fun X hE hml hC hR => ?_)
  subst hE
  show G X 0 0 n σ ρ 0 [(0, vr X a0)] []
  replace hC : Cx X cX12_undo RX12 1 := hC
  unfold MX12_undo at hM
  refine g_aload_n hC dX12_undo_0 rfl 0 rfl ?_
  refine fg_11_6 hC h0 k_1088 dX12_undo_1 rfl ?_
  refine g_if_ne (tgt := 9) hC dX12_undo_4 rfl (by decide) hM (fun hM => ?_) (fun hM => ?_)
  · refine g_aload_n hC dX12_undo_9 rfl 0 rfl ?_
    refine g_dup hC dX12_undo_10 rfl rfl ?_
    refine fg_11_6 hC h0 k_1088 dX12_undo_11 rfl ?_
    refine g_iconst (v := 1) hC dX12_undo_14 rfl ic_1 ?_
    refine g_isub hC dX12_undo_15 rfl ?_
    refine fp_11_6 hC h0 k_1088 dX12_undo_16 rfl hM (fun σ1 hM => ?_)
    refine g_aload_n hC dX12_undo_19 rfl 0 rfl ?_
    refine g_bipush (v := 94) hC dX12_undo_20 rfl ib_94 ?_
    refine g_bipush (v := 46) hC dX12_undo_22 rfl ib_46 ?_
    refine g_aload_n hC dX12_undo_24 rfl 0 rfl ?_
    refine fg_11_6 hC h0 k_1088 dX12_undo_25 rfl ?_
    refine g_imul hC dX12_undo_28 rfl ?_
    refine g_iadd hC dX12_undo_29 rfl ?_
    refine g_iconst (v := 0) hC dX12_undo_30 rfl ic_0 ?_
    refine g_bipush (v := 46) hC dX12_undo_31 rfl ib_46 ?_
    refine g_callVv0 (As := [.int (((94 : Int32) + ((46 : Int32) * (σ1 a0 6)))), .int ((0 : Int32)), .int ((46 : Int32))]) (st' := []) (k := a0) (L' := 0) hC Y_X12_copies I_X12_copies k_1158 ⟨by decide, by decide⟩ h0 (ci := 11) (by decide) rfl dX12_undo_33 rfl rfl rfl (Nat.le_of_ble_eq_true rfl) ⟨Nat.zero_le _, Nat.zero_le _⟩ hM (fun c hc => c_X12_copies (xE X) a0 h0 (((94 : Int32) + ((46 : Int32) * (σ1 a0 6)))) ((0 : Int32)) ((46 : Int32)) c hc) (fun c2 hM => ?_)
    refine g_aload_n hC dX12_undo_36 rfl 0 rfl ?_
    refine fg_11_6 hC h0 k_1088 dX12_undo_37 rfl ?_
    cases hM
    exact g_reti hR dX12_undo_40 rfl
  · refine g_iconst (v := -1) hC dX12_undo_7 rfl ic_m1 ?_
    obtain rfl := Option.some.inj hM
    exact g_reti hR dX12_undo_8 rfl
