def MX12_number (σ : Sto) (ρ : Rho) (a0 : Nat) (a1 : Int32) (a2 : Int32) (a3 : Int32) : Option (Int32 × Sto) :=
  Option.bind (ρ a0 0) fun j1 =>
  Option.bind (ag σ j1 ((36 : Int32))) fun x2 =>
  bn (su σ a0 7 x2) fun σ3 =>
  Option.bind (MX12_numberOf σ3 a0 a1 a2 a3) fun c4 =>
  some (c4, σ3)
set_option maxHeartbeats 4000000 in
set_option maxRecDepth 100000 in
theorem c_X12_number (E : EX) {n : Nat} {σ : Sto} {ρ : Rho} (a0 : Nat) (h0 : Sh n a0 11) (a1 : Int32) (a2 : Int32) (a3 : Int32) (res : Int32 × Sto) (hM : MX12_number σ ρ a0 a1 a2 a3 = some res) : CTi E yX12_number cX12_number 4 (some .int) 2 [.ref (eb E + a0), .int a1, .int a2, .int a3] n σ ρ res.1 res.2 ρ := by
  refine ct_i (by decide +kernel) rfl (Nat.le_of_ble_eq_true rfl) (fun X hE hml hC hR => ?_)
  subst hE
  show G X 0 0 n σ ρ 0 [(0, vr X a0), (1, .int a1), (2, .int a2), (3, .int a3)] []
  replace hC : Cx X cX12_number RX12 2 := hC
  unfold MX12_number at hM
  refine g_aload_n hC dX12_number_0 rfl 0 rfl ?_
  refine g_aload_n hC dX12_number_1 rfl 0 rfl ?_
  refine fg_11_0 hC h0 k_1082 dX12_number_2 rfl hM (fun j1 hj1 hM => ?_)
  refine g_bipush (v := 36) hC dX12_number_5 rfl ib_36 ?_
  refine g_iald hC hj1 dX12_number_7 rfl hM (fun x2 hM => ?_)
  refine fp_11_7 hC h0 k_1089 dX12_number_8 rfl hM (fun σ3 hM => ?_)
  refine g_aload_n hC dX12_number_11 rfl 0 rfl ?_
  refine g_iload_n hC dX12_number_12 rfl 1 rfl ?_
  refine g_iload_n hC dX12_number_13 rfl 2 rfl ?_
  refine g_iload_n hC dX12_number_14 rfl 3 rfl ?_
  refine g_callVi (As := [.int a1, .int a2, .int a3]) (st' := []) (k := a0) (L' := 1) hC Y_X12_numberOf I_X12_numberOf k_1307 ⟨by decide, by decide⟩ h0 (ci := 11) (by decide) rfl dX12_number_15 rfl rfl rfl (Nat.le_of_ble_eq_true rfl) ⟨Nat.zero_le _, Nat.zero_le _⟩ hM (fun c hc => c_X12_numberOf (xE X) a0 h0 a1 a2 a3 c hc) (fun c4 hM => ?_)
  cases hM
  exact g_reti hR dX12_number_18 rfl
def MX12_joined (σ : Sto) (ρ : Rho) (a0 : Nat) (a1 : Int32) (a2 : Int32) : Option (Int32 × Sto) :=
  Option.bind (MX12_isPlace σ ρ a0 a1) fun c1 =>
  if c1.1 = 0 then
    some ((-1 : Int32), c1.2)
  else
    Option.bind (MX12_isPlace c1.2 ρ a0 a2) fun c2 =>
    if c2.1 = 0 then
      some ((-1 : Int32), c2.2)
    else
      if a1 = a2 then
        some ((-1 : Int32), c2.2)
      else
        Option.bind (MX12_lineOf c2.2 a0 a1 a2) fun c3 =>
        some (c3.1, c3.2)
set_option maxHeartbeats 4000000 in
set_option maxRecDepth 100000 in
theorem c_X12_joined (E : EX) {n : Nat} {σ : Sto} {ρ : Rho} (a0 : Nat) (h0 : Sh n a0 11) (a1 : Int32) (a2 : Int32) (res : Int32 × Sto) (hM : MX12_joined σ ρ a0 a1 a2 = some res) : CTi E yX12_joined cX12_joined 3 (some .int) 3 [.ref (eb E + a0), .int a1, .int a2] n σ ρ res.1 res.2 ρ := by
  refine ct_i (by decide +kernel) rfl (Nat.le_of_ble_eq_true rfl) (fun X hE hml hC hR => ?_)
  subst hE
  show G X 0 0 n σ ρ 0 [(0, vr X a0), (1, .int a1), (2, .int a2)] []
  replace hC : Cx X cX12_joined RX12 3 := hC
  unfold MX12_joined at hM
  refine g_aload_n hC dX12_joined_0 rfl 0 rfl ?_
  refine g_iload_n hC dX12_joined_1 rfl 1 rfl ?_
  refine g_callVi (As := [.int a1]) (st' := []) (k := a0) (L' := 1) hC Y_X12_isPlace I_X12_isPlace k_1271 ⟨by decide, by decide⟩ h0 (ci := 11) (by decide) rfl dX12_joined_2 rfl rfl rfl (Nat.le_of_ble_eq_true rfl) ⟨Nat.zero_le _, Nat.zero_le _⟩ hM (fun c hc => c_X12_isPlace (xE X) a0 h0 a1 c hc) (fun c1 hM => ?_)
  refine g_if_eq (tgt := 30) hC dX12_joined_5 rfl (by decide) hM (fun hM => ?_) (fun hM => ?_)
  · refine g_iconst (v := -1) hC dX12_joined_30 rfl ic_m1 ?_
    obtain rfl := Option.some.inj hM
    exact g_reti hR dX12_joined_31 rfl
  · refine g_aload_n hC dX12_joined_8 rfl 0 rfl ?_
    refine g_iload_n hC dX12_joined_9 rfl 2 rfl ?_
    refine g_callVi (As := [.int a2]) (st' := []) (k := a0) (L' := 1) hC Y_X12_isPlace I_X12_isPlace k_1271 ⟨by decide, by decide⟩ h0 (ci := 11) (by decide) rfl dX12_joined_10 rfl rfl rfl (Nat.le_of_ble_eq_true rfl) ⟨Nat.zero_le _, Nat.zero_le _⟩ hM (fun c hc => c_X12_isPlace (xE X) a0 h0 a2 c hc) (fun c2 hM => ?_)
    refine g_if_eq (tgt := 30) hC dX12_joined_13 rfl (by decide) hM (fun hM => ?_) (fun hM => ?_)
    · refine g_iconst (v := -1) hC dX12_joined_30 rfl ic_m1 ?_
      obtain rfl := Option.some.inj hM
      exact g_reti hR dX12_joined_31 rfl
    · refine g_iload_n hC dX12_joined_16 rfl 1 rfl ?_
      refine g_iload_n hC dX12_joined_17 rfl 2 rfl ?_
      refine g_icmp_eq (tgt := 30) hC dX12_joined_18 rfl (by decide) hM (fun hM => ?_) (fun hM => ?_)
      · refine g_iconst (v := -1) hC dX12_joined_30 rfl ic_m1 ?_
        obtain rfl := Option.some.inj hM
        exact g_reti hR dX12_joined_31 rfl
      · refine g_aload_n hC dX12_joined_21 rfl 0 rfl ?_
        refine g_iload_n hC dX12_joined_22 rfl 1 rfl ?_
        refine g_iload_n hC dX12_joined_23 rfl 2 rfl ?_
        refine g_callVi (As := [.int a1, .int a2]) (st' := []) (k := a0) (L' := 2) hC Y_X12_lineOf I_X12_lineOf k_1303 ⟨by decide, by decide⟩ h0 (ci := 11) (by decide) rfl dX12_joined_24 rfl rfl rfl (Nat.le_of_ble_eq_true rfl) ⟨Nat.zero_le _, Nat.zero_le _⟩ hM (fun c hc => c_X12_lineOf (xE X) a0 h0 a1 a2 c hc) (fun c3 hM => ?_)
        refine g_goto (tgt := 31) hC dX12_joined_27 rfl (by decide) ?_
        cases hM
        exact g_reti hR dX12_joined_31 rfl
def MX12_marked (σ : Sto) (ρ : Rho) (a0 : Nat) (a1 : Int32) : Option (Int32) :=
  Option.bind (ρ a0 0) fun j1 =>
  Option.bind (ag σ j1 ((37 : Int32))) fun x2 =>
  Option.bind (MX12_isIn a1 ((0 : Int32)) ((x2 - (1 : Int32)))) fun c3 =>
  if c3 = 0 then
    some (-1 : Int32)
  else
    Option.bind (ρ a0 0) fun j4 =>
    Option.bind (ag σ j4 (((38 : Int32) + a1))) fun x5 =>
    some x5
set_option maxHeartbeats 4000000 in
set_option maxRecDepth 100000 in
theorem c_X12_marked (E : EX) {n : Nat} {σ : Sto} {ρ : Rho} (a0 : Nat) (h0 : Sh n a0 11) (a1 : Int32) (res : Int32) (hM : MX12_marked σ ρ a0 a1 = some res) : CTi E yX12_marked cX12_marked 2 (some .int) 1 [.ref (eb E + a0), .int a1] n σ ρ res σ ρ := by
  refine ct_i (by decide +kernel) rfl (Nat.le_of_ble_eq_true rfl) (fun X hE hml hC hR => ?_)
  subst hE
  show G X 0 0 n σ ρ 0 [(0, vr X a0), (1, .int a1)] []
  replace hC : Cx X cX12_marked RX12 1 := hC
  unfold MX12_marked at hM
  refine g_iload_n hC dX12_marked_0 rfl 1 rfl ?_
  refine g_iconst (v := 0) hC dX12_marked_1 rfl ic_0 ?_
  refine g_aload_n hC dX12_marked_2 rfl 0 rfl ?_
  refine fg_11_0 hC h0 k_1082 dX12_marked_3 rfl hM (fun j1 hj1 hM => ?_)
  refine g_bipush (v := 37) hC dX12_marked_6 rfl ib_37 ?_
  refine g_iald hC hj1 dX12_marked_8 rfl hM (fun x2 hM => ?_)
  refine g_iconst (v := 1) hC dX12_marked_9 rfl ic_1 ?_
  refine g_isub hC dX12_marked_10 rfl ?_
  refine g_callSi (As := [.int a1, .int ((0 : Int32)), .int ((x2 - (1 : Int32)))]) (st' := []) (L' := 0) hC Y_X12_isIn k_1170 k_1169 ⟨by decide, by decide⟩ dX12_marked_11 rfl rfl rfl (Nat.le_of_ble_eq_true rfl) ⟨Nat.zero_le _, Nat.zero_le _⟩ hM (fun c hc => c_X12_isIn (xE X) a1 ((0 : Int32)) ((x2 - (1 : Int32))) c hc) (fun c3 hM => ?_)
  refine g_if_eq (tgt := 29) hC dX12_marked_14 rfl (by decide) hM (fun hM => ?_) (fun hM => ?_)
  · refine g_iconst (v := -1) hC dX12_marked_29 rfl ic_m1 ?_
    obtain rfl := Option.some.inj hM
    exact g_reti hR dX12_marked_30 rfl
  · refine g_aload_n hC dX12_marked_17 rfl 0 rfl ?_
    refine fg_11_0 hC h0 k_1082 dX12_marked_18 rfl hM (fun j4 hj4 hM => ?_)
    refine g_bipush (v := 38) hC dX12_marked_21 rfl ib_38 ?_
    refine g_iload_n hC dX12_marked_23 rfl 1 rfl ?_
    refine g_iadd hC dX12_marked_24 rfl ?_
    refine g_iald hC hj4 dX12_marked_25 rfl hM (fun x5 hM => ?_)
    refine g_goto (tgt := 30) hC dX12_marked_26 rfl (by decide) ?_
    cases hM
    exact g_reti hR dX12_marked_30 rfl
def MX12_lies (σ : Sto) (ρ : Rho) (a0 : Nat) (a1 : Int32) (a2 : Int32) : Option (Int32 × Sto) :=
  Option.bind (MX12_isConic a1) fun c1 =>
  if c1 = 0 then
    some ((-1 : Int32), σ)
  else
    Option.bind (MX12_isPlace σ ρ a0 a2) fun c2 =>
    if c2.1 = 0 then
      some ((-1 : Int32), c2.2)
    else
      Option.bind (MX12_laysConic c2.2 ρ a0 ((0 : Int32)) a1) fun c3 =>
      Option.bind (MX12_kindOf c3 ρ a0) fun c4 =>
      Option.bind (MX12_liesOf c4.2 ρ a0 a2 c4.1) fun c5 =>
      some (c5.1, c5.2)
set_option maxHeartbeats 4000000 in
set_option maxRecDepth 100000 in
theorem c_X12_lies (E : EX) {n : Nat} {σ : Sto} {ρ : Rho} (a0 : Nat) (h0 : Sh n a0 11) (a1 : Int32) (a2 : Int32) (res : Int32 × Sto) (hM : MX12_lies σ ρ a0 a1 a2 = some res) : CTi E yX12_lies cX12_lies 3 (some .int) 5 [.ref (eb E + a0), .int a1, .int a2] n σ ρ res.1 res.2 ρ := by
  refine ct_i (by decide +kernel) rfl (Nat.le_of_ble_eq_true rfl) (fun X hE hml hC hR => ?_)
  subst hE
  show G X 0 0 n σ ρ 0 [(0, vr X a0), (1, .int a1), (2, .int a2)] []
  replace hC : Cx X cX12_lies RX12 5 := hC
  unfold MX12_lies at hM
  refine g_iload_n hC dX12_lies_0 rfl 1 rfl ?_
  refine g_callSi (As := [.int a1]) (st' := []) (L' := 1) hC Y_X12_isConic k_1167 k_1166 ⟨by decide, by decide⟩ dX12_lies_1 rfl rfl rfl (Nat.le_of_ble_eq_true rfl) ⟨Nat.zero_le _, Nat.zero_le _⟩ hM (fun c hc => c_X12_isConic (xE X) a1 c hc) (fun c1 hM => ?_)
  refine g_if_eq (tgt := 15) hC dX12_lies_4 rfl (by decide) hM (fun hM => ?_) (fun hM => ?_)
  · refine g_iconst (v := -1) hC dX12_lies_15 rfl ic_m1 ?_
    obtain rfl := Option.some.inj hM
    exact g_reti hR dX12_lies_16 rfl
  · refine g_aload_n hC dX12_lies_7 rfl 0 rfl ?_
    refine g_iload_n hC dX12_lies_8 rfl 2 rfl ?_
    refine g_callVi (As := [.int a2]) (st' := []) (k := a0) (L' := 1) hC Y_X12_isPlace I_X12_isPlace k_1271 ⟨by decide, by decide⟩ h0 (ci := 11) (by decide) rfl dX12_lies_9 rfl rfl rfl (Nat.le_of_ble_eq_true rfl) ⟨Nat.zero_le _, Nat.zero_le _⟩ hM (fun c hc => c_X12_isPlace (xE X) a0 h0 a2 c hc) (fun c2 hM => ?_)
    refine g_if_ne (tgt := 17) hC dX12_lies_12 rfl (by decide) hM (fun hM => ?_) (fun hM => ?_)
    · refine g_aload_n hC dX12_lies_17 rfl 0 rfl ?_
      refine g_iconst (v := 0) hC dX12_lies_18 rfl ic_0 ?_
      refine g_iload_n hC dX12_lies_19 rfl 1 rfl ?_
      refine g_callVv0 (As := [.int ((0 : Int32)), .int a1]) (st' := []) (k := a0) (L' := 1) hC Y_X12_laysConic I_X12_laysConic k_1199 ⟨by decide, by decide⟩ h0 (ci := 11) (by decide) rfl dX12_lies_20 rfl rfl rfl (Nat.le_of_ble_eq_true rfl) ⟨Nat.zero_le _, Nat.zero_le _⟩ hM (fun c hc => c_X12_laysConic (xE X) a0 h0 ((0 : Int32)) a1 c hc) (fun c3 hM => ?_)
      refine g_aload_n hC dX12_lies_23 rfl 0 rfl ?_
      refine g_iload_n hC dX12_lies_24 rfl 2 rfl ?_
      refine g_aload_n hC dX12_lies_25 rfl 0 rfl ?_
      refine g_callVi (As := []) (st' := [.int a2, vr X a0]) (k := a0) (L' := 4) hC Y_X12_kindOf I_X12_kindOf k_1207 ⟨by decide, by decide⟩ h0 (ci := 11) (by decide) rfl dX12_lies_26 rfl rfl rfl (Nat.le_of_ble_eq_true rfl) ⟨Nat.zero_le _, Nat.zero_le _⟩ hM (fun c hc => c_X12_kindOf (xE X) a0 h0 c hc) (fun c4 hM => ?_)
      refine g_callVi (As := [.int a2, .int c4.1]) (st' := []) (k := a0) (L' := 4) hC Y_X12_liesOf I_X12_liesOf k_1335 ⟨by decide, by decide⟩ h0 (ci := 11) (by decide) rfl dX12_lies_29 rfl rfl rfl (Nat.le_of_ble_eq_true rfl) ⟨Nat.zero_le _, Nat.zero_le _⟩ hM (fun c hc => c_X12_liesOf (xE X) a0 h0 a2 c4.1 c hc) (fun c5 hM => ?_)
      cases hM
      exact g_reti hR dX12_lies_32 rfl
    · refine g_iconst (v := -1) hC dX12_lies_15 rfl ic_m1 ?_
      obtain rfl := Option.some.inj hM
      exact g_reti hR dX12_lies_16 rfl
def BX12_on_74 (ρ : Rho) (a0 : Nat) (a1 : Int32) (a2 : Int32) (a3 : Int32) (rec : Sto → Int32 → Int32 → Option (Int32 × Sto)) (σ : Sto) (v4 : Int32) (v5 : Int32) : Option (Int32 × Sto) :=
  bn (v5 + (1 : Int32)) fun y1 =>
  rec σ v4 y1
set_option maxHeartbeats 4000000 in
set_option maxRecDepth 100000 in
theorem bX12_on_74 {X : CX} {n : Nat} {ρ : Rho} {res : Int32 × Sto} (hC : Cx X cX12_on RX12 3) (hml : (xc X).maxLocals = 6) (hR : RtT (some .int) X cX12_on n res.1 res.2 ρ) (a0 : Nat) (a1 : Int32) (a2 : Int32) (a3 : Int32) (h0 : Sh n a0 11) (rec : Sto → Int32 → Int32 → Option (Int32 × Sto)) (ih : ∀ (σ : Sto) (v4 : Int32) (v5 : Int32), rec σ v4 v5 = some res → G X 0 0 n σ ρ 25 [(0, vr X a0), (1, .int a1), (2, .int a2), (3, .int a3), (4, .int v4), (5, .int v5)] []) : ∀ (σ : Sto) (v4 : Int32) (v5 : Int32), BX12_on_74 ρ a0 a1 a2 a3 rec σ v4 v5 = some res → G X 0 0 n σ ρ 74 [(0, vr X a0), (1, .int a1), (2, .int a2), (3, .int a3), (4, .int v4), (5, .int v5)] [] := by
  intro σ v4 v5 hM
  unfold BX12_on_74 at hM
  refine g_iinc (v := 1) hC (fun y1 => [(5, .int y1), (0, vr X a0), (1, .int a1), (2, .int a2), (3, .int a3), (4, .int v4)]) dX12_on_74 rfl hM (j := 5) rfl ic_1 hml (by decide) (fun _ => rfl) (fun y1 hM => ?_)
  refine g_goto (tgt := 25) hC dX12_on_77 rfl (by decide) ?_
  exact g_sub [1, 2, 3, 4, 5, 0] (ih _ _ _ hM) rfl
def BX12_on_62 (ρ : Rho) (a0 : Nat) (a1 : Int32) (a2 : Int32) (a3 : Int32) (rec : Sto → Int32 → Int32 → Option (Int32 × Sto)) (σ : Sto) (v4 : Int32) (v5 : Int32) : Option (Int32 × Sto) :=
  if v4 = a2 then
    some (v5, σ)
  else
    bn (v4 + (1 : Int32)) fun y1 =>
    BX12_on_74 ρ a0 a1 a2 a3 rec σ y1 v5
set_option maxHeartbeats 4000000 in
set_option maxRecDepth 100000 in
theorem bX12_on_62 {X : CX} {n : Nat} {ρ : Rho} {res : Int32 × Sto} (hC : Cx X cX12_on RX12 3) (hml : (xc X).maxLocals = 6) (hR : RtT (some .int) X cX12_on n res.1 res.2 ρ) (a0 : Nat) (a1 : Int32) (a2 : Int32) (a3 : Int32) (h0 : Sh n a0 11) (rec : Sto → Int32 → Int32 → Option (Int32 × Sto)) (ih : ∀ (σ : Sto) (v4 : Int32) (v5 : Int32), rec σ v4 v5 = some res → G X 0 0 n σ ρ 25 [(0, vr X a0), (1, .int a1), (2, .int a2), (3, .int a3), (4, .int v4), (5, .int v5)] []) : ∀ (σ : Sto) (v4 : Int32) (v5 : Int32), BX12_on_62 ρ a0 a1 a2 a3 rec σ v4 v5 = some res → G X 0 0 n σ ρ 62 [(0, vr X a0), (1, .int a1), (2, .int a2), (3, .int a3), (4, .int v4), (5, .int v5)] [] := by
  intro σ v4 v5 hM
  unfold BX12_on_62 at hM
  refine g_iload hC dX12_on_62 rfl 4 rfl ?_
  refine g_iload_n hC dX12_on_64 rfl 2 rfl ?_
  refine g_icmp_ne (tgt := 71) hC dX12_on_65 rfl (by decide) hM (fun hM => ?_) (fun hM => ?_)
  · refine g_iinc (v := 1) hC (fun y1 => [(4, .int y1), (0, vr X a0), (1, .int a1), (2, .int a2), (3, .int a3), (5, .int v5)]) dX12_on_71 rfl hM (j := 4) rfl ic_1 hml (by decide) (fun _ => rfl) (fun y1 hM => ?_)
    exact g_sub [1, 2, 3, 4, 0, 5] ((bX12_on_74 hC hml hR a0 a1 a2 a3 h0 rec ih ) _ _ _ hM) rfl
  · refine g_iload hC dX12_on_68 rfl 5 rfl ?_
    cases hM
    exact g_reti hR dX12_on_70 rfl
def FX12_on_25 (ρ : Rho) (a0 : Nat) (a1 : Int32) (a2 : Int32) (a3 : Int32) (rec : Sto → Int32 → Int32 → Option (Int32 × Sto)) (σ : Sto) (v4 : Int32) (v5 : Int32) : Option (Int32 × Sto) :=
  Option.bind (MX12_places σ a0) fun c1 =>
  if c1 ≤ v5 then
    some ((-1 : Int32), σ)
  else
    if a3 = 0 then
      Option.bind (MX12_isOn σ ρ a0 v5) fun c2 =>
      if c2.1 = 0 then
        BX12_on_74 ρ a0 a1 a2 a3 rec c2.2 v4 v5
      else
        BX12_on_62 ρ a0 a1 a2 a3 rec c2.2 v4 v5
    else
      Option.bind (MX12_isOfAll σ ρ a0 v5) fun c3 =>
      if c3.1 = 0 then
        BX12_on_74 ρ a0 a1 a2 a3 rec c3.2 v4 v5
      else
        BX12_on_62 ρ a0 a1 a2 a3 rec c3.2 v4 v5
set_option maxHeartbeats 4000000 in
set_option maxRecDepth 100000 in
theorem bX12_on_25 {X : CX} {n : Nat} {ρ : Rho} {res : Int32 × Sto} (hC : Cx X cX12_on RX12 3) (hml : (xc X).maxLocals = 6) (hR : RtT (some .int) X cX12_on n res.1 res.2 ρ) (a0 : Nat) (a1 : Int32) (a2 : Int32) (a3 : Int32) (h0 : Sh n a0 11) (fu : Nat) : ∀ (σ : Sto) (v4 : Int32) (v5 : Int32), fixN (fun _ _ _ => none) (FX12_on_25 ρ a0 a1 a2 a3) fu σ v4 v5 = some res → G X 0 0 n σ ρ 25 [(0, vr X a0), (1, .int a1), (2, .int a2), (3, .int a3), (4, .int v4), (5, .int v5)] [] := by
  refine fixN_ind (P := fun (f : Sto → Int32 → Int32 → Option (Int32 × Sto)) => ∀ (σ : Sto) (v4 : Int32) (v5 : Int32), f σ v4 v5 = some res → G X 0 0 n σ ρ 25 [(0, vr X a0), (1, .int a1), (2, .int a2), (3, .int a3), (4, .int v4), (5, .int v5)] []) ?_ ?_ fu
  · intro σ v4 v5 hM; cases hM
  · intro rec ih σ v4 v5 hM
    unfold FX12_on_25 at hM
    refine g_iload hC dX12_on_25 rfl 5 rfl ?_
    refine g_aload_n hC dX12_on_27 rfl 0 rfl ?_
    refine g_callVi (As := []) (st' := [.int v5]) (k := a0) (L' := 0) hC Y_X12_places I_X12_places k_1227 ⟨by decide, by decide⟩ h0 (ci := 11) (by decide) rfl dX12_on_28 rfl rfl rfl (Nat.le_of_ble_eq_true rfl) ⟨Nat.zero_le _, Nat.zero_le _⟩ hM (fun c hc => c_X12_places (xE X) a0 h0 c hc) (fun c1 hM => ?_)
    refine g_icmp_ge (tgt := 80) hC dX12_on_31 rfl (by decide) hM (fun hM => ?_) (fun hM => ?_)
    · refine g_iconst (v := -1) hC dX12_on_80 rfl ic_m1 ?_
      obtain rfl := Option.some.inj hM
      exact g_reti hR dX12_on_81 rfl
    · refine g_iload_n hC dX12_on_34 rfl 3 rfl ?_
      refine g_if_eq (tgt := 50) hC dX12_on_35 rfl (by decide) hM (fun hM => ?_) (fun hM => ?_)
      · refine g_aload_n hC dX12_on_50 rfl 0 rfl ?_
        refine g_iload hC dX12_on_51 rfl 5 rfl ?_
        refine g_callVi (As := [.int v5]) (st' := []) (k := a0) (L' := 1) hC Y_X12_isOn I_X12_isOn k_1243 ⟨by decide, by decide⟩ h0 (ci := 11) (by decide) rfl dX12_on_53 rfl rfl rfl (Nat.le_of_ble_eq_true rfl) ⟨Nat.zero_le _, Nat.zero_le _⟩ hM (fun c hc => c_X12_isOn (xE X) a0 h0 v5 c hc) (fun c2 hM => ?_)
        refine g_if_ne (tgt := 62) hC dX12_on_56 rfl (by decide) hM (fun hM => ?_) (fun hM => ?_)
        · exact g_sub [0, 1, 2, 3, 4, 5] ((bX12_on_62 hC hml hR a0 a1 a2 a3 h0 rec ih ) _ _ _ hM) rfl
        · refine g_goto (tgt := 74) hC dX12_on_59 rfl (by decide) ?_
          exact g_sub [0, 1, 2, 3, 4, 5] ((bX12_on_74 hC hml hR a0 a1 a2 a3 h0 rec ih ) _ _ _ hM) rfl
      · refine g_aload_n hC dX12_on_38 rfl 0 rfl ?_
        refine g_iload hC dX12_on_39 rfl 5 rfl ?_
        refine g_callVi (As := [.int v5]) (st' := []) (k := a0) (L' := 2) hC Y_X12_isOfAll I_X12_isOfAll k_1231 ⟨by decide, by decide⟩ h0 (ci := 11) (by decide) rfl dX12_on_41 rfl rfl rfl (Nat.le_of_ble_eq_true rfl) ⟨Nat.zero_le _, Nat.zero_le _⟩ hM (fun c hc => c_X12_isOfAll (xE X) a0 h0 v5 c hc) (fun c3 hM => ?_)
        refine g_if_ne (tgt := 62) hC dX12_on_44 rfl (by decide) hM (fun hM => ?_) (fun hM => ?_)
        · exact g_sub [0, 1, 2, 3, 4, 5] ((bX12_on_62 hC hml hR a0 a1 a2 a3 h0 rec ih ) _ _ _ hM) rfl
        · refine g_goto (tgt := 74) hC dX12_on_47 rfl (by decide) ?_
          exact g_sub [0, 1, 2, 3, 4, 5] ((bX12_on_74 hC hml hR a0 a1 a2 a3 h0 rec ih ) _ _ _ hM) rfl
def MX12_on (σ : Sto) (ρ : Rho) (a0 : Nat) (a1 : Int32) (a2 : Int32) (a3 : Int32) : Option (Int32 × Sto) :=
  Option.bind (MX12_isConic a1) fun c1 =>
  if c1 = 0 then
    some ((-1 : Int32), σ)
  else
    if 0 ≤ a2 then
      Option.bind (MX12_laysConic σ ρ a0 ((0 : Int32)) a1) fun c2 =>
      bn ((0 : Int32)) fun y3 =>
      bn ((0 : Int32)) fun y4 =>
      fixN (fun _ _ _ => none) (FX12_on_25 ρ a0 a1 a2 a3) FU c2 y3 y4
    else
      some ((-1 : Int32), σ)
set_option maxHeartbeats 4000000 in
set_option maxRecDepth 100000 in
theorem c_X12_on (E : EX) {n : Nat} {σ : Sto} {ρ : Rho} (a0 : Nat) (h0 : Sh n a0 11) (a1 : Int32) (a2 : Int32) (a3 : Int32) (res : Int32 × Sto) (hM : MX12_on σ ρ a0 a1 a2 a3 = some res) : CTi E yX12_on cX12_on 6 (some .int) 3 [.ref (eb E + a0), .int a1, .int a2, .int a3] n σ ρ res.1 res.2 ρ := by
  refine ct_i (by decide +kernel) rfl (Nat.le_of_ble_eq_true rfl) (fun X hE hml hC hR => ?_)
  subst hE
  show G X 0 0 n σ ρ 0 [(0, vr X a0), (1, .int a1), (2, .int a2), (3, .int a3)] []
  replace hC : Cx X cX12_on RX12 3 := hC
  unfold MX12_on at hM
  refine g_iload_n hC dX12_on_0 rfl 1 rfl ?_
  refine g_callSi (As := [.int a1]) (st' := []) (L' := 1) hC Y_X12_isConic k_1167 k_1166 ⟨by decide, by decide⟩ dX12_on_1 rfl rfl rfl (Nat.le_of_ble_eq_true rfl) ⟨Nat.zero_le _, Nat.zero_le _⟩ hM (fun c hc => c_X12_isConic (xE X) a1 c hc) (fun c1 hM => ?_)
  refine g_if_eq (tgt := 11) hC dX12_on_4 rfl (by decide) hM (fun hM => ?_) (fun hM => ?_)
  · refine g_iconst (v := -1) hC dX12_on_11 rfl ic_m1 ?_
    obtain rfl := Option.some.inj hM
    exact g_reti hR dX12_on_12 rfl
  · refine g_iload_n hC dX12_on_7 rfl 2 rfl ?_
    refine g_if_ge (tgt := 13) hC dX12_on_8 rfl (by decide) hM (fun hM => ?_) (fun hM => ?_)
    · refine g_aload_n hC dX12_on_13 rfl 0 rfl ?_
      refine g_iconst (v := 0) hC dX12_on_14 rfl ic_0 ?_
      refine g_iload_n hC dX12_on_15 rfl 1 rfl ?_
      refine g_callVv0 (As := [.int ((0 : Int32)), .int a1]) (st' := []) (k := a0) (L' := 1) hC Y_X12_laysConic I_X12_laysConic k_1199 ⟨by decide, by decide⟩ h0 (ci := 11) (by decide) rfl dX12_on_16 rfl rfl rfl (Nat.le_of_ble_eq_true rfl) ⟨Nat.zero_le _, Nat.zero_le _⟩ hM (fun c hc => c_X12_laysConic (xE X) a0 h0 ((0 : Int32)) a1 c hc) (fun c2 hM => ?_)
      refine g_iconst (v := 0) hC dX12_on_19 rfl ic_0 ?_
      refine g_istore hC (fun y3 => [(4, .int y3), (0, vr X a0), (1, .int a1), (2, .int a2), (3, .int a3)]) dX12_on_20 rfl hM hml (by decide) (fun _ => rfl) (fun y3 hM => ?_)
      refine g_iconst (v := 0) hC dX12_on_22 rfl ic_0 ?_
      refine g_istore hC (fun y4 => [(5, .int y4), (4, .int y3), (0, vr X a0), (1, .int a1), (2, .int a2), (3, .int a3)]) dX12_on_23 rfl hM hml (by decide) (fun _ => rfl) (fun y4 hM => ?_)
      exact g_sub [2, 3, 4, 5, 1, 0] ((bX12_on_25 hC hml hR a0 a1 a2 a3 h0  FU) _ _ _ hM) rfl
    · refine g_iconst (v := -1) hC dX12_on_11 rfl ic_m1 ?_
      obtain rfl := Option.some.inj hM
      exact g_reti hR dX12_on_12 rfl
def MX12_polar (σ : Sto) (ρ : Rho) (a0 : Nat) (a1 : Int32) (a2 : Int32) : Option (Int32 × Sto) :=
  Option.bind (MX12_isConic a1) fun c1 =>
  if c1 = 0 then
    some ((-1 : Int32), σ)
  else
    Option.bind (MX12_isPlace σ ρ a0 a2) fun c2 =>
    if c2.1 = 0 then
      some ((-1 : Int32), c2.2)
    else
      Option.bind (MX12_laysConic c2.2 ρ a0 ((0 : Int32)) a1) fun c3 =>
      Option.bind (MX12_polarOf c3 ρ a0 a2) fun c4 =>
      some (c4.1, c4.2)
set_option maxHeartbeats 4000000 in
set_option maxRecDepth 100000 in
theorem c_X12_polar (E : EX) {n : Nat} {σ : Sto} {ρ : Rho} (a0 : Nat) (h0 : Sh n a0 11) (a1 : Int32) (a2 : Int32) (res : Int32 × Sto) (hM : MX12_polar σ ρ a0 a1 a2 = some res) : CTi E yX12_polar cX12_polar 3 (some .int) 3 [.ref (eb E + a0), .int a1, .int a2] n σ ρ res.1 res.2 ρ := by
  refine ct_i (by decide +kernel) rfl (Nat.le_of_ble_eq_true rfl) (fun X hE hml hC hR => ?_)
  subst hE
  show G X 0 0 n σ ρ 0 [(0, vr X a0), (1, .int a1), (2, .int a2)] []
  replace hC : Cx X cX12_polar RX12 3 := hC
  unfold MX12_polar at hM
  refine g_iload_n hC dX12_polar_0 rfl 1 rfl ?_
  refine g_callSi (As := [.int a1]) (st' := []) (L' := 1) hC Y_X12_isConic k_1167 k_1166 ⟨by decide, by decide⟩ dX12_polar_1 rfl rfl rfl (Nat.le_of_ble_eq_true rfl) ⟨Nat.zero_le _, Nat.zero_le _⟩ hM (fun c hc => c_X12_isConic (xE X) a1 c hc) (fun c1 hM => ?_)
  refine g_if_eq (tgt := 15) hC dX12_polar_4 rfl (by decide) hM (fun hM => ?_) (fun hM => ?_)
  · refine g_iconst (v := -1) hC dX12_polar_15 rfl ic_m1 ?_
    obtain rfl := Option.some.inj hM
    exact g_reti hR dX12_polar_16 rfl
  · refine g_aload_n hC dX12_polar_7 rfl 0 rfl ?_
    refine g_iload_n hC dX12_polar_8 rfl 2 rfl ?_
    refine g_callVi (As := [.int a2]) (st' := []) (k := a0) (L' := 1) hC Y_X12_isPlace I_X12_isPlace k_1271 ⟨by decide, by decide⟩ h0 (ci := 11) (by decide) rfl dX12_polar_9 rfl rfl rfl (Nat.le_of_ble_eq_true rfl) ⟨Nat.zero_le _, Nat.zero_le _⟩ hM (fun c hc => c_X12_isPlace (xE X) a0 h0 a2 c hc) (fun c2 hM => ?_)
    refine g_if_ne (tgt := 17) hC dX12_polar_12 rfl (by decide) hM (fun hM => ?_) (fun hM => ?_)
    · refine g_aload_n hC dX12_polar_17 rfl 0 rfl ?_
      refine g_iconst (v := 0) hC dX12_polar_18 rfl ic_0 ?_
      refine g_iload_n hC dX12_polar_19 rfl 1 rfl ?_
      refine g_callVv0 (As := [.int ((0 : Int32)), .int a1]) (st' := []) (k := a0) (L' := 1) hC Y_X12_laysConic I_X12_laysConic k_1199 ⟨by decide, by decide⟩ h0 (ci := 11) (by decide) rfl dX12_polar_20 rfl rfl rfl (Nat.le_of_ble_eq_true rfl) ⟨Nat.zero_le _, Nat.zero_le _⟩ hM (fun c hc => c_X12_laysConic (xE X) a0 h0 ((0 : Int32)) a1 c hc) (fun c3 hM => ?_)
      refine g_aload_n hC dX12_polar_23 rfl 0 rfl ?_
      refine g_iload_n hC dX12_polar_24 rfl 2 rfl ?_
      refine g_callVi (As := [.int a2]) (st' := []) (k := a0) (L' := 2) hC Y_X12_polarOf I_X12_polarOf k_1343 ⟨by decide, by decide⟩ h0 (ci := 11) (by decide) rfl dX12_polar_25 rfl rfl rfl (Nat.le_of_ble_eq_true rfl) ⟨Nat.zero_le _, Nat.zero_le _⟩ hM (fun c hc => c_X12_polarOf (xE X) a0 h0 a2 c hc) (fun c4 hM => ?_)
      cases hM
      exact g_reti hR dX12_polar_28 rfl
    · refine g_iconst (v := -1) hC dX12_polar_15 rfl ic_m1 ?_
      obtain rfl := Option.some.inj hM
      exact g_reti hR dX12_polar_16 rfl
def FX12_pole_35 (ρ : Rho) (a0 : Nat) (a1 : Int32) (a2 : Int32) (rec : Sto → Int32 → Option (Int32 × Sto)) (σ : Sto) (v3 : Int32) : Option (Int32 × Sto) :=
  Option.bind (MX12_places σ a0) fun c1 =>
  if c1 ≤ v3 then
    some ((-1 : Int32), σ)
  else
    Option.bind (MX12_polarOf σ ρ a0 v3) fun c2 =>
    if c2.1 = a2 then
      some (v3, c2.2)
    else
      bn (v3 + (1 : Int32)) fun y3 =>
      rec c2.2 y3
set_option maxHeartbeats 4000000 in
set_option maxRecDepth 100000 in
theorem bX12_pole_35 {X : CX} {n : Nat} {ρ : Rho} {res : Int32 × Sto} (hC : Cx X cX12_pole RX12 3) (hml : (xc X).maxLocals = 4) (hR : RtT (some .int) X cX12_pole n res.1 res.2 ρ) (a0 : Nat) (a1 : Int32) (a2 : Int32) (h0 : Sh n a0 11) (fu : Nat) : ∀ (σ : Sto) (v3 : Int32), fixN (fun _ _ => none) (FX12_pole_35 ρ a0 a1 a2) fu σ v3 = some res → G X 0 0 n σ ρ 35 [(0, vr X a0), (1, .int a1), (2, .int a2), (3, .int v3)] [] := by
  refine fixN_ind (P := fun (f : Sto → Int32 → Option (Int32 × Sto)) => ∀ (σ : Sto) (v3 : Int32), f σ v3 = some res → G X 0 0 n σ ρ 35 [(0, vr X a0), (1, .int a1), (2, .int a2), (3, .int v3)] []) ?_ ?_ fu
  · intro σ v3 hM; cases hM
  · intro rec ih σ v3 hM
    unfold FX12_pole_35 at hM
    refine g_iload_n hC dX12_pole_35 rfl 3 rfl ?_
    refine g_aload_n hC dX12_pole_36 rfl 0 rfl ?_
    refine g_callVi (As := []) (st' := [.int v3]) (k := a0) (L' := 0) hC Y_X12_places I_X12_places k_1227 ⟨by decide, by decide⟩ h0 (ci := 11) (by decide) rfl dX12_pole_37 rfl rfl rfl (Nat.le_of_ble_eq_true rfl) ⟨Nat.zero_le _, Nat.zero_le _⟩ hM (fun c hc => c_X12_places (xE X) a0 h0 c hc) (fun c1 hM => ?_)
    refine g_icmp_ge (tgt := 60) hC dX12_pole_40 rfl (by decide) hM (fun hM => ?_) (fun hM => ?_)
    · refine g_iconst (v := -1) hC dX12_pole_60 rfl ic_m1 ?_
      obtain rfl := Option.some.inj hM
      exact g_reti hR dX12_pole_61 rfl
    · refine g_aload_n hC dX12_pole_43 rfl 0 rfl ?_
      refine g_iload_n hC dX12_pole_44 rfl 3 rfl ?_
      refine g_callVi (As := [.int v3]) (st' := []) (k := a0) (L' := 2) hC Y_X12_polarOf I_X12_polarOf k_1343 ⟨by decide, by decide⟩ h0 (ci := 11) (by decide) rfl dX12_pole_45 rfl rfl rfl (Nat.le_of_ble_eq_true rfl) ⟨Nat.zero_le _, Nat.zero_le _⟩ hM (fun c hc => c_X12_polarOf (xE X) a0 h0 v3 c hc) (fun c2 hM => ?_)
      refine g_iload_n hC dX12_pole_48 rfl 2 rfl ?_
      refine g_icmp_ne (tgt := 54) hC dX12_pole_49 rfl (by decide) hM (fun hM => ?_) (fun hM => ?_)
      · refine g_iinc (v := 1) hC (fun y3 => [(3, .int y3), (0, vr X a0), (1, .int a1), (2, .int a2)]) dX12_pole_54 rfl hM (j := 3) rfl ic_1 hml (by decide) (fun _ => rfl) (fun y3 hM => ?_)
        refine g_goto (tgt := 35) hC dX12_pole_57 rfl (by decide) ?_
        exact g_sub [1, 2, 3, 0] (ih _ _ hM) rfl
      · refine g_iload_n hC dX12_pole_52 rfl 3 rfl ?_
        cases hM
        exact g_reti hR dX12_pole_53 rfl
def MX12_pole (σ : Sto) (ρ : Rho) (a0 : Nat) (a1 : Int32) (a2 : Int32) : Option (Int32 × Sto) :=
  Option.bind (MX12_isConic a1) fun c1 =>
  if c1 = 0 then
    some ((-1 : Int32), σ)
  else
    Option.bind (MX12_isPlace σ ρ a0 a2) fun c2 =>
    if c2.1 = 0 then
      some ((-1 : Int32), c2.2)
    else
      Option.bind (MX12_laysConic c2.2 ρ a0 ((0 : Int32)) a1) fun c3 =>
      Option.bind (MX12_rankOf c3 ρ a0) fun c4 =>
      if c4.1 = (3 : Int32) then
        bn ((0 : Int32)) fun y5 =>
        fixN (fun _ _ => none) (FX12_pole_35 ρ a0 a1 a2) FU c4.2 y5
      else
        some ((-1 : Int32), c4.2)
set_option maxHeartbeats 4000000 in
set_option maxRecDepth 100000 in
theorem c_X12_pole (E : EX) {n : Nat} {σ : Sto} {ρ : Rho} (a0 : Nat) (h0 : Sh n a0 11) (a1 : Int32) (a2 : Int32) (res : Int32 × Sto) (hM : MX12_pole σ ρ a0 a1 a2 = some res) : CTi E yX12_pole cX12_pole 4 (some .int) 3 [.ref (eb E + a0), .int a1, .int a2] n σ ρ res.1 res.2 ρ := by
  refine ct_i (by decide +kernel) rfl (Nat.le_of_ble_eq_true rfl) (fun X hE hml hC hR => ?_)
  subst hE
  show G X 0 0 n σ ρ 0 [(0, vr X a0), (1, .int a1), (2, .int a2)] []
  replace hC : Cx X cX12_pole RX12 3 := hC
  unfold MX12_pole at hM
  refine g_iload_n hC dX12_pole_0 rfl 1 rfl ?_
  refine g_callSi (As := [.int a1]) (st' := []) (L' := 1) hC Y_X12_isConic k_1167 k_1166 ⟨by decide, by decide⟩ dX12_pole_1 rfl rfl rfl (Nat.le_of_ble_eq_true rfl) ⟨Nat.zero_le _, Nat.zero_le _⟩ hM (fun c hc => c_X12_isConic (xE X) a1 c hc) (fun c1 hM => ?_)
  refine g_if_eq (tgt := 15) hC dX12_pole_4 rfl (by decide) hM (fun hM => ?_) (fun hM => ?_)
  · refine g_iconst (v := -1) hC dX12_pole_15 rfl ic_m1 ?_
    obtain rfl := Option.some.inj hM
    exact g_reti hR dX12_pole_16 rfl
  · refine g_aload_n hC dX12_pole_7 rfl 0 rfl ?_
    refine g_iload_n hC dX12_pole_8 rfl 2 rfl ?_
    refine g_callVi (As := [.int a2]) (st' := []) (k := a0) (L' := 1) hC Y_X12_isPlace I_X12_isPlace k_1271 ⟨by decide, by decide⟩ h0 (ci := 11) (by decide) rfl dX12_pole_9 rfl rfl rfl (Nat.le_of_ble_eq_true rfl) ⟨Nat.zero_le _, Nat.zero_le _⟩ hM (fun c hc => c_X12_isPlace (xE X) a0 h0 a2 c hc) (fun c2 hM => ?_)
    refine g_if_ne (tgt := 17) hC dX12_pole_12 rfl (by decide) hM (fun hM => ?_) (fun hM => ?_)
    · refine g_aload_n hC dX12_pole_17 rfl 0 rfl ?_
      refine g_iconst (v := 0) hC dX12_pole_18 rfl ic_0 ?_
      refine g_iload_n hC dX12_pole_19 rfl 1 rfl ?_
      refine g_callVv0 (As := [.int ((0 : Int32)), .int a1]) (st' := []) (k := a0) (L' := 1) hC Y_X12_laysConic I_X12_laysConic k_1199 ⟨by decide, by decide⟩ h0 (ci := 11) (by decide) rfl dX12_pole_20 rfl rfl rfl (Nat.le_of_ble_eq_true rfl) ⟨Nat.zero_le _, Nat.zero_le _⟩ hM (fun c hc => c_X12_laysConic (xE X) a0 h0 ((0 : Int32)) a1 c hc) (fun c3 hM => ?_)
      refine g_aload_n hC dX12_pole_23 rfl 0 rfl ?_
      refine g_callVi (As := []) (st' := []) (k := a0) (L' := 2) hC Y_X12_rankOf I_X12_rankOf k_1211 ⟨by decide, by decide⟩ h0 (ci := 11) (by decide) rfl dX12_pole_24 rfl rfl rfl (Nat.le_of_ble_eq_true rfl) ⟨Nat.zero_le _, Nat.zero_le _⟩ hM (fun c hc => c_X12_rankOf (xE X) a0 h0 c hc) (fun c4 hM => ?_)
      refine g_iconst (v := 3) hC dX12_pole_27 rfl ic_3 ?_
      refine g_icmp_eq (tgt := 33) hC dX12_pole_28 rfl (by decide) hM (fun hM => ?_) (fun hM => ?_)
      · refine g_iconst (v := 0) hC dX12_pole_33 rfl ic_0 ?_
        refine g_istore_n hC (fun y5 => [(3, .int y5), (0, vr X a0), (1, .int a1), (2, .int a2)]) dX12_pole_34 rfl hM hml (by decide) (fun _ => rfl) (fun y5 hM => ?_)
        exact g_sub [1, 2, 3, 0] ((bX12_pole_35 hC hml hR a0 a1 a2 h0  FU) _ _ hM) rfl
      · refine g_iconst (v := -1) hC dX12_pole_31 rfl ic_m1 ?_
        obtain rfl := Option.some.inj hM
        exact g_reti hR dX12_pole_32 rfl
    · refine g_iconst (v := -1) hC dX12_pole_15 rfl ic_m1 ?_
      obtain rfl := Option.some.inj hM
      exact g_reti hR dX12_pole_16 rfl
def BX12_meets_62 (ρ : Rho) (a0 : Nat) (a1 : Int32) (a2 : Int32) (rec : Sto → Int32 → Int32 → Option (Int32 × Sto)) (σ : Sto) (v4 : Int32) (t0 : Int32) (t1 : Int32) : Option (Int32 × Sto) :=
  bn ((t0 + t1)) fun y1 =>
  bn (v4 + (1 : Int32)) fun y2 =>
  rec σ y1 y2
set_option maxHeartbeats 4000000 in
set_option maxRecDepth 100000 in
theorem bX12_meets_62 {X : CX} {n : Nat} {ρ : Rho} {res : Int32 × Sto} (hC : Cx X cX12_meets RX12 2) (hml : (xc X).maxLocals = 5) (hR : RtT (some .int) X cX12_meets n res.1 res.2 ρ) (a0 : Nat) (a1 : Int32) (a2 : Int32) (h0 : Sh n a0 11) (rec : Sto → Int32 → Int32 → Option (Int32 × Sto)) (ih : ∀ (σ : Sto) (v3 : Int32) (v4 : Int32), rec σ v3 v4 = some res → G X 0 0 n σ ρ 28 [(0, vr X a0), (1, .int a1), (2, .int a2), (3, .int v3), (4, .int v4)] []) : ∀ (σ : Sto) (v4 : Int32) (t0 : Int32) (t1 : Int32), BX12_meets_62 ρ a0 a1 a2 rec σ v4 t0 t1 = some res → G X 0 0 n σ ρ 62 [(0, vr X a0), (1, .int a1), (2, .int a2), (4, .int v4)] [.int t1, .int t0] := by
  intro σ v4 t0 t1 hM
  unfold BX12_meets_62 at hM
  refine g_iadd hC dX12_meets_62 rfl ?_
  refine g_istore_n hC (fun y1 => [(3, .int y1), (0, vr X a0), (1, .int a1), (2, .int a2), (4, .int v4)]) dX12_meets_63 rfl hM hml (by decide) (fun _ => rfl) (fun y1 hM => ?_)
  refine g_iinc (v := 1) hC (fun y2 => [(4, .int y2), (3, .int y1), (0, vr X a0), (1, .int a1), (2, .int a2)]) dX12_meets_64 rfl hM (j := 4) rfl ic_1 hml (by decide) (fun _ => rfl) (fun y2 hM => ?_)
  refine g_goto (tgt := 28) hC dX12_meets_67 rfl (by decide) ?_
  exact g_sub [2, 3, 4, 1, 0] (ih _ _ _ hM) rfl
def BX12_meets_61 (ρ : Rho) (a0 : Nat) (a1 : Int32) (a2 : Int32) (rec : Sto → Int32 → Int32 → Option (Int32 × Sto)) (σ : Sto) (v4 : Int32) (t0 : Int32) : Option (Int32 × Sto) :=
  BX12_meets_62 ρ a0 a1 a2 rec σ v4 t0 ((0 : Int32))
set_option maxHeartbeats 4000000 in
set_option maxRecDepth 100000 in
theorem bX12_meets_61 {X : CX} {n : Nat} {ρ : Rho} {res : Int32 × Sto} (hC : Cx X cX12_meets RX12 2) (hml : (xc X).maxLocals = 5) (hR : RtT (some .int) X cX12_meets n res.1 res.2 ρ) (a0 : Nat) (a1 : Int32) (a2 : Int32) (h0 : Sh n a0 11) (rec : Sto → Int32 → Int32 → Option (Int32 × Sto)) (ih : ∀ (σ : Sto) (v3 : Int32) (v4 : Int32), rec σ v3 v4 = some res → G X 0 0 n σ ρ 28 [(0, vr X a0), (1, .int a1), (2, .int a2), (3, .int v3), (4, .int v4)] []) : ∀ (σ : Sto) (v4 : Int32) (t0 : Int32), BX12_meets_61 ρ a0 a1 a2 rec σ v4 t0 = some res → G X 0 0 n σ ρ 61 [(0, vr X a0), (1, .int a1), (2, .int a2), (4, .int v4)] [.int t0] := by
  intro σ v4 t0 hM
  unfold BX12_meets_61 at hM
  refine g_iconst (v := 0) hC dX12_meets_61 rfl ic_0 ?_
  exact g_sub [0, 1, 2, 3] ((bX12_meets_62 hC hml hR a0 a1 a2 h0 rec ih ) _ _ _ _ hM) rfl
def FX12_meets_28 (ρ : Rho) (a0 : Nat) (a1 : Int32) (a2 : Int32) (rec : Sto → Int32 → Int32 → Option (Int32 × Sto)) (σ : Sto) (v3 : Int32) (v4 : Int32) : Option (Int32 × Sto) :=
  Option.bind (MX12_places σ a0) fun c1 =>
  if c1 ≤ v4 then
    some (v3, σ)
  else
    Option.bind (MX12_isOnLine σ a0 v4 a2) fun c2 =>
    if c2.1 = 0 then
      BX12_meets_61 ρ a0 a1 a2 rec c2.2 v4 v3
    else
      Option.bind (MX12_isOn c2.2 ρ a0 v4) fun c3 =>
      if c3.1 = 0 then
        BX12_meets_61 ρ a0 a1 a2 rec c3.2 v4 v3
      else
        BX12_meets_62 ρ a0 a1 a2 rec c3.2 v4 v3 ((1 : Int32))
set_option maxHeartbeats 4000000 in
set_option maxRecDepth 100000 in
theorem bX12_meets_28 {X : CX} {n : Nat} {ρ : Rho} {res : Int32 × Sto} (hC : Cx X cX12_meets RX12 2) (hml : (xc X).maxLocals = 5) (hR : RtT (some .int) X cX12_meets n res.1 res.2 ρ) (a0 : Nat) (a1 : Int32) (a2 : Int32) (h0 : Sh n a0 11) (fu : Nat) : ∀ (σ : Sto) (v3 : Int32) (v4 : Int32), fixN (fun _ _ _ => none) (FX12_meets_28 ρ a0 a1 a2) fu σ v3 v4 = some res → G X 0 0 n σ ρ 28 [(0, vr X a0), (1, .int a1), (2, .int a2), (3, .int v3), (4, .int v4)] [] := by
  refine fixN_ind (P := fun (f : Sto → Int32 → Int32 → Option (Int32 × Sto)) => ∀ (σ : Sto) (v3 : Int32) (v4 : Int32), f σ v3 v4 = some res → G X 0 0 n σ ρ 28 [(0, vr X a0), (1, .int a1), (2, .int a2), (3, .int v3), (4, .int v4)] []) ?_ ?_ fu
  · intro σ v3 v4 hM; cases hM
  · intro rec ih σ v3 v4 hM
    unfold FX12_meets_28 at hM
    refine g_iload hC dX12_meets_28 rfl 4 rfl ?_
    refine g_aload_n hC dX12_meets_30 rfl 0 rfl ?_
    refine g_callVi (As := []) (st' := [.int v4]) (k := a0) (L' := 0) hC Y_X12_places I_X12_places k_1227 ⟨by decide, by decide⟩ h0 (ci := 11) (by decide) rfl dX12_meets_31 rfl rfl rfl (Nat.le_of_ble_eq_true rfl) ⟨Nat.zero_le _, Nat.zero_le _⟩ hM (fun c hc => c_X12_places (xE X) a0 h0 c hc) (fun c1 hM => ?_)
    refine g_icmp_ge (tgt := 70) hC dX12_meets_34 rfl (by decide) hM (fun hM => ?_) (fun hM => ?_)
    · refine g_iload_n hC dX12_meets_70 rfl 3 rfl ?_
      cases hM
      exact g_reti hR dX12_meets_71 rfl
    · refine g_iload_n hC dX12_meets_37 rfl 3 rfl ?_
      refine g_aload_n hC dX12_meets_38 rfl 0 rfl ?_
      refine g_iload hC dX12_meets_39 rfl 4 rfl ?_
      refine g_iload_n hC dX12_meets_41 rfl 2 rfl ?_
      refine g_callVi (As := [.int v4, .int a2]) (st' := [.int v3]) (k := a0) (L' := 1) hC Y_X12_isOnLine I_X12_isOnLine k_1235 ⟨by decide, by decide⟩ h0 (ci := 11) (by decide) rfl dX12_meets_42 rfl rfl rfl (Nat.le_of_ble_eq_true rfl) ⟨Nat.zero_le _, Nat.zero_le _⟩ hM (fun c hc => c_X12_isOnLine (xE X) a0 h0 v4 a2 c hc) (fun c2 hM => ?_)
      refine g_if_eq (tgt := 61) hC dX12_meets_45 rfl (by decide) hM (fun hM => ?_) (fun hM => ?_)
      · exact g_sub [0, 1, 2, 4] ((bX12_meets_61 hC hml hR a0 a1 a2 h0 rec ih ) _ _ _ hM) rfl
      · refine g_aload_n hC dX12_meets_48 rfl 0 rfl ?_
        refine g_iload hC dX12_meets_49 rfl 4 rfl ?_
        refine g_callVi (As := [.int v4]) (st' := [.int v3]) (k := a0) (L' := 1) hC Y_X12_isOn I_X12_isOn k_1243 ⟨by decide, by decide⟩ h0 (ci := 11) (by decide) rfl dX12_meets_51 rfl rfl rfl (Nat.le_of_ble_eq_true rfl) ⟨Nat.zero_le _, Nat.zero_le _⟩ hM (fun c hc => c_X12_isOn (xE X) a0 h0 v4 c hc) (fun c3 hM => ?_)
        refine g_if_eq (tgt := 61) hC dX12_meets_54 rfl (by decide) hM (fun hM => ?_) (fun hM => ?_)
        · exact g_sub [0, 1, 2, 4] ((bX12_meets_61 hC hml hR a0 a1 a2 h0 rec ih ) _ _ _ hM) rfl
        · refine g_iconst (v := 1) hC dX12_meets_57 rfl ic_1 ?_
          refine g_goto (tgt := 62) hC dX12_meets_58 rfl (by decide) ?_
          exact g_sub [0, 1, 2, 4] ((bX12_meets_62 hC hml hR a0 a1 a2 h0 rec ih ) _ _ _ _ hM) rfl
def MX12_meets (σ : Sto) (ρ : Rho) (a0 : Nat) (a1 : Int32) (a2 : Int32) : Option (Int32 × Sto) :=
  Option.bind (MX12_isConic a1) fun c1 =>
  if c1 = 0 then
    some ((-1 : Int32), σ)
  else
    Option.bind (MX12_isPlace σ ρ a0 a2) fun c2 =>
    if c2.1 = 0 then
      some ((-1 : Int32), c2.2)
    else
      Option.bind (MX12_laysConic c2.2 ρ a0 ((0 : Int32)) a1) fun c3 =>
      bn ((0 : Int32)) fun y4 =>
      bn ((0 : Int32)) fun y5 =>
      fixN (fun _ _ _ => none) (FX12_meets_28 ρ a0 a1 a2) FU c3 y4 y5
set_option maxHeartbeats 4000000 in
set_option maxRecDepth 100000 in
theorem c_X12_meets (E : EX) {n : Nat} {σ : Sto} {ρ : Rho} (a0 : Nat) (h0 : Sh n a0 11) (a1 : Int32) (a2 : Int32) (res : Int32 × Sto) (hM : MX12_meets σ ρ a0 a1 a2 = some res) : CTi E yX12_meets cX12_meets 5 (some .int) 2 [.ref (eb E + a0), .int a1, .int a2] n σ ρ res.1 res.2 ρ := by
  refine ct_i (by decide +kernel) rfl (Nat.le_of_ble_eq_true rfl) (fun X hE hml hC hR => ?_)
  subst hE
  show G X 0 0 n σ ρ 0 [(0, vr X a0), (1, .int a1), (2, .int a2)] []
  replace hC : Cx X cX12_meets RX12 2 := hC
  unfold MX12_meets at hM
  refine g_iload_n hC dX12_meets_0 rfl 1 rfl ?_
  refine g_callSi (As := [.int a1]) (st' := []) (L' := 1) hC Y_X12_isConic k_1167 k_1166 ⟨by decide, by decide⟩ dX12_meets_1 rfl rfl rfl (Nat.le_of_ble_eq_true rfl) ⟨Nat.zero_le _, Nat.zero_le _⟩ hM (fun c hc => c_X12_isConic (xE X) a1 c hc) (fun c1 hM => ?_)
  refine g_if_eq (tgt := 15) hC dX12_meets_4 rfl (by decide) hM (fun hM => ?_) (fun hM => ?_)
  · refine g_iconst (v := -1) hC dX12_meets_15 rfl ic_m1 ?_
    obtain rfl := Option.some.inj hM
    exact g_reti hR dX12_meets_16 rfl
  · refine g_aload_n hC dX12_meets_7 rfl 0 rfl ?_
    refine g_iload_n hC dX12_meets_8 rfl 2 rfl ?_
    refine g_callVi (As := [.int a2]) (st' := []) (k := a0) (L' := 1) hC Y_X12_isPlace I_X12_isPlace k_1271 ⟨by decide, by decide⟩ h0 (ci := 11) (by decide) rfl dX12_meets_9 rfl rfl rfl (Nat.le_of_ble_eq_true rfl) ⟨Nat.zero_le _, Nat.zero_le _⟩ hM (fun c hc => c_X12_isPlace (xE X) a0 h0 a2 c hc) (fun c2 hM => ?_)
    refine g_if_ne (tgt := 17) hC dX12_meets_12 rfl (by decide) hM (fun hM => ?_) (fun hM => ?_)
    · refine g_aload_n hC dX12_meets_17 rfl 0 rfl ?_
      refine g_iconst (v := 0) hC dX12_meets_18 rfl ic_0 ?_
      refine g_iload_n hC dX12_meets_19 rfl 1 rfl ?_
      refine g_callVv0 (As := [.int ((0 : Int32)), .int a1]) (st' := []) (k := a0) (L' := 1) hC Y_X12_laysConic I_X12_laysConic k_1199 ⟨by decide, by decide⟩ h0 (ci := 11) (by decide) rfl dX12_meets_20 rfl rfl rfl (Nat.le_of_ble_eq_true rfl) ⟨Nat.zero_le _, Nat.zero_le _⟩ hM (fun c hc => c_X12_laysConic (xE X) a0 h0 ((0 : Int32)) a1 c hc) (fun c3 hM => ?_)
      refine g_iconst (v := 0) hC dX12_meets_23 rfl ic_0 ?_
      refine g_istore_n hC (fun y4 => [(3, .int y4), (0, vr X a0), (1, .int a1), (2, .int a2)]) dX12_meets_24 rfl hM hml (by decide) (fun _ => rfl) (fun y4 hM => ?_)
      refine g_iconst (v := 0) hC dX12_meets_25 rfl ic_0 ?_
      refine g_istore hC (fun y5 => [(4, .int y5), (3, .int y4), (0, vr X a0), (1, .int a1), (2, .int a2)]) dX12_meets_26 rfl hM hml (by decide) (fun _ => rfl) (fun y5 hM => ?_)
      exact g_sub [2, 3, 4, 1, 0] ((bX12_meets_28 hC hml hR a0 a1 a2 h0  FU) _ _ _ hM) rfl
    · refine g_iconst (v := -1) hC dX12_meets_15 rfl ic_m1 ?_
      obtain rfl := Option.some.inj hM
      exact g_reti hR dX12_meets_16 rfl
def BX12_isTangent_29 (ρ : Rho) (a0 : Nat) (a1 : Int32) (rec : Sto → Int32 → Option (Int32 × Sto)) (σ : Sto) (v2 : Int32) : Option (Int32 × Sto) :=
  bn (v2 + (1 : Int32)) fun y1 =>
  rec σ y1
set_option maxHeartbeats 4000000 in
set_option maxRecDepth 100000 in
theorem bX12_isTangent_29 {X : CX} {n : Nat} {ρ : Rho} {res : Int32 × Sto} (hC : Cx X cX12_isTangent RX12 3) (hml : (xc X).maxLocals = 3) (hR : RtT (some .boolean) X cX12_isTangent n res.1 res.2 ρ) (a0 : Nat) (a1 : Int32) (h0 : Sh n a0 11) (rec : Sto → Int32 → Option (Int32 × Sto)) (ih : ∀ (σ : Sto) (v2 : Int32), rec σ v2 = some res → G X 0 0 n σ ρ 2 [(0, vr X a0), (1, .int a1), (2, .int v2)] []) : ∀ (σ : Sto) (v2 : Int32), BX12_isTangent_29 ρ a0 a1 rec σ v2 = some res → G X 0 0 n σ ρ 29 [(0, vr X a0), (1, .int a1), (2, .int v2)] [] := by
  intro σ v2 hM
  unfold BX12_isTangent_29 at hM
  refine g_iinc (v := 1) hC (fun y1 => [(2, .int y1), (0, vr X a0), (1, .int a1)]) dX12_isTangent_29 rfl hM (j := 2) rfl ic_1 hml (by decide) (fun _ => rfl) (fun y1 hM => ?_)
  refine g_goto (tgt := 2) hC dX12_isTangent_32 rfl (by decide) ?_
  exact g_sub [1, 2, 0] (ih _ _ hM) rfl
def FX12_isTangent_2 (ρ : Rho) (a0 : Nat) (a1 : Int32) (rec : Sto → Int32 → Option (Int32 × Sto)) (σ : Sto) (v2 : Int32) : Option (Int32 × Sto) :=
  Option.bind (MX12_places σ a0) fun c1 =>
  if c1 ≤ v2 then
    zr ((0 : Int32)) (some ((0 : Int32), σ))
  else
    Option.bind (MX12_isOn σ ρ a0 v2) fun c2 =>
    if c2.1 = 0 then
      BX12_isTangent_29 ρ a0 a1 rec c2.2 v2
    else
      Option.bind (MX12_polarOf c2.2 ρ a0 v2) fun c3 =>
      if c3.1 = a1 then
        zr ((1 : Int32)) (some ((1 : Int32), c3.2))
      else
        BX12_isTangent_29 ρ a0 a1 rec c3.2 v2
set_option maxHeartbeats 4000000 in
set_option maxRecDepth 100000 in
theorem bX12_isTangent_2 {X : CX} {n : Nat} {ρ : Rho} {res : Int32 × Sto} (hC : Cx X cX12_isTangent RX12 3) (hml : (xc X).maxLocals = 3) (hR : RtT (some .boolean) X cX12_isTangent n res.1 res.2 ρ) (a0 : Nat) (a1 : Int32) (h0 : Sh n a0 11) (fu : Nat) : ∀ (σ : Sto) (v2 : Int32), fixN (fun _ _ => none) (FX12_isTangent_2 ρ a0 a1) fu σ v2 = some res → G X 0 0 n σ ρ 2 [(0, vr X a0), (1, .int a1), (2, .int v2)] [] := by
  refine fixN_ind (P := fun (f : Sto → Int32 → Option (Int32 × Sto)) => ∀ (σ : Sto) (v2 : Int32), f σ v2 = some res → G X 0 0 n σ ρ 2 [(0, vr X a0), (1, .int a1), (2, .int v2)] []) ?_ ?_ fu
  · intro σ v2 hM; cases hM
  · intro rec ih σ v2 hM
    unfold FX12_isTangent_2 at hM
    refine g_iload_n hC dX12_isTangent_2 rfl 2 rfl ?_
    refine g_aload_n hC dX12_isTangent_3 rfl 0 rfl ?_
    refine g_callVi (As := []) (st' := [.int v2]) (k := a0) (L' := 0) hC Y_X12_places I_X12_places k_1227 ⟨by decide, by decide⟩ h0 (ci := 11) (by decide) rfl dX12_isTangent_4 rfl rfl rfl (Nat.le_of_ble_eq_true rfl) ⟨Nat.zero_le _, Nat.zero_le _⟩ hM (fun c hc => c_X12_places (xE X) a0 h0 c hc) (fun c1 hM => ?_)
    refine g_icmp_ge (tgt := 35) hC dX12_isTangent_7 rfl (by decide) hM (fun hM => ?_) (fun hM => ?_)
    · refine g_iconst (v := 0) hC dX12_isTangent_35 rfl ic_0 ?_
      exact g_retz hM dX12_isTangent_36 rfl (fun h => by cases h; exact hR)
    · refine g_aload_n hC dX12_isTangent_10 rfl 0 rfl ?_
      refine g_iload_n hC dX12_isTangent_11 rfl 2 rfl ?_
      refine g_callVi (As := [.int v2]) (st' := []) (k := a0) (L' := 1) hC Y_X12_isOn I_X12_isOn k_1243 ⟨by decide, by decide⟩ h0 (ci := 11) (by decide) rfl dX12_isTangent_12 rfl rfl rfl (Nat.le_of_ble_eq_true rfl) ⟨Nat.zero_le _, Nat.zero_le _⟩ hM (fun c hc => c_X12_isOn (xE X) a0 h0 v2 c hc) (fun c2 hM => ?_)
      refine g_if_eq (tgt := 29) hC dX12_isTangent_15 rfl (by decide) hM (fun hM => ?_) (fun hM => ?_)
      · exact g_sub [0, 1, 2] ((bX12_isTangent_29 hC hml hR a0 a1 h0 rec ih ) _ _ hM) rfl
      · refine g_aload_n hC dX12_isTangent_18 rfl 0 rfl ?_
        refine g_iload_n hC dX12_isTangent_19 rfl 2 rfl ?_
        refine g_callVi (As := [.int v2]) (st' := []) (k := a0) (L' := 2) hC Y_X12_polarOf I_X12_polarOf k_1343 ⟨by decide, by decide⟩ h0 (ci := 11) (by decide) rfl dX12_isTangent_20 rfl rfl rfl (Nat.le_of_ble_eq_true rfl) ⟨Nat.zero_le _, Nat.zero_le _⟩ hM (fun c hc => c_X12_polarOf (xE X) a0 h0 v2 c hc) (fun c3 hM => ?_)
        refine g_iload_n hC dX12_isTangent_23 rfl 1 rfl ?_
        refine g_icmp_ne (tgt := 29) hC dX12_isTangent_24 rfl (by decide) hM (fun hM => ?_) (fun hM => ?_)
        · exact g_sub [0, 1, 2] ((bX12_isTangent_29 hC hml hR a0 a1 h0 rec ih ) _ _ hM) rfl
        · refine g_iconst (v := 1) hC dX12_isTangent_27 rfl ic_1 ?_
          exact g_retz hM dX12_isTangent_28 rfl (fun h => by cases h; exact hR)
def MX12_isTangent (σ : Sto) (ρ : Rho) (a0 : Nat) (a1 : Int32) : Option (Int32 × Sto) :=
  bn ((0 : Int32)) fun y1 =>
  fixN (fun _ _ => none) (FX12_isTangent_2 ρ a0 a1) FU σ y1
set_option maxHeartbeats 4000000 in
set_option maxRecDepth 100000 in
theorem c_X12_isTangent (E : EX) {n : Nat} {σ : Sto} {ρ : Rho} (a0 : Nat) (h0 : Sh n a0 11) (a1 : Int32) (res : Int32 × Sto) (hM : MX12_isTangent σ ρ a0 a1 = some res) : CTi E yX12_isTangent cX12_isTangent 3 (some .boolean) 3 [.ref (eb E + a0), .int a1] n σ ρ res.1 res.2 ρ := by
  refine ct_i (by decide +kernel) rfl (Nat.le_of_ble_eq_true rfl) (fun X hE hml hC hR => ?_)
  subst hE
  show G X 0 0 n σ ρ 0 [(0, vr X a0), (1, .int a1)] []
  replace hC : Cx X cX12_isTangent RX12 3 := hC
  unfold MX12_isTangent at hM
  refine g_iconst (v := 0) hC dX12_isTangent_0 rfl ic_0 ?_
  refine g_istore_n hC (fun y1 => [(2, .int y1), (0, vr X a0), (1, .int a1)]) dX12_isTangent_1 rfl hM hml (by decide) (fun _ => rfl) (fun y1 hM => ?_)
  exact g_sub [1, 2, 0] ((bX12_isTangent_2 hC hml hR a0 a1 h0  FU) _ _ hM) rfl
def BX12_tangent_98 (ρ : Rho) (a0 : Nat) (a1 : Int32) (a2 : Int32) (a3 : Int32) (rec : Sto → Int32 → Int32 → Option (Int32 × Sto)) (σ : Sto) (v4 : Int32) (v5 : Int32) : Option (Int32 × Sto) :=
  bn (v5 + (1 : Int32)) fun y1 =>
  rec σ v4 y1
set_option maxHeartbeats 4000000 in
set_option maxRecDepth 100000 in
theorem bX12_tangent_98 {X : CX} {n : Nat} {ρ : Rho} {res : Int32 × Sto} (hC : Cx X cX12_tangent RX12 4) (hml : (xc X).maxLocals = 6) (hR : RtT (some .int) X cX12_tangent n res.1 res.2 ρ) (a0 : Nat) (a1 : Int32) (a2 : Int32) (a3 : Int32) (h0 : Sh n a0 11) (rec : Sto → Int32 → Int32 → Option (Int32 × Sto)) (ih : ∀ (σ : Sto) (v4 : Int32) (v5 : Int32), rec σ v4 v5 = some res → G X 0 0 n σ ρ 55 [(0, vr X a0), (1, .int a1), (2, .int a2), (3, .int a3), (4, .int v4), (5, .int v5)] []) : ∀ (σ : Sto) (v4 : Int32) (v5 : Int32), BX12_tangent_98 ρ a0 a1 a2 a3 rec σ v4 v5 = some res → G X 0 0 n σ ρ 98 [(0, vr X a0), (1, .int a1), (2, .int a2), (3, .int a3), (4, .int v4), (5, .int v5)] [] := by
  intro σ v4 v5 hM
  unfold BX12_tangent_98 at hM
  refine g_iinc (v := 1) hC (fun y1 => [(5, .int y1), (0, vr X a0), (1, .int a1), (2, .int a2), (3, .int a3), (4, .int v4)]) dX12_tangent_98 rfl hM (j := 5) rfl ic_1 hml (by decide) (fun _ => rfl) (fun y1 hM => ?_)
  refine g_goto (tgt := 55) hC dX12_tangent_101 rfl (by decide) ?_
  exact g_sub [1, 2, 3, 4, 5, 0] (ih _ _ _ hM) rfl
def FX12_tangent_55 (ρ : Rho) (a0 : Nat) (a1 : Int32) (a2 : Int32) (a3 : Int32) (rec : Sto → Int32 → Int32 → Option (Int32 × Sto)) (σ : Sto) (v4 : Int32) (v5 : Int32) : Option (Int32 × Sto) :=
  Option.bind (MX12_places σ a0) fun c1 =>
  if c1 ≤ v5 then
    some ((-1 : Int32), σ)
  else
    Option.bind (MX12_isOnLine σ a0 a2 v5) fun c2 =>
    if c2.1 = 0 then
      BX12_tangent_98 ρ a0 a1 a2 a3 rec c2.2 v4 v5
    else
      Option.bind (MX12_isTangent c2.2 ρ a0 v5) fun c3 =>
      if c3.1 = 0 then
        BX12_tangent_98 ρ a0 a1 a2 a3 rec c3.2 v4 v5
      else
        if v4 = a3 then
          some (v5, c3.2)
        else
          bn (v4 + (1 : Int32)) fun y4 =>
          BX12_tangent_98 ρ a0 a1 a2 a3 rec c3.2 y4 v5
set_option maxHeartbeats 4000000 in
set_option maxRecDepth 100000 in
theorem bX12_tangent_55 {X : CX} {n : Nat} {ρ : Rho} {res : Int32 × Sto} (hC : Cx X cX12_tangent RX12 4) (hml : (xc X).maxLocals = 6) (hR : RtT (some .int) X cX12_tangent n res.1 res.2 ρ) (a0 : Nat) (a1 : Int32) (a2 : Int32) (a3 : Int32) (h0 : Sh n a0 11) (fu : Nat) : ∀ (σ : Sto) (v4 : Int32) (v5 : Int32), fixN (fun _ _ _ => none) (FX12_tangent_55 ρ a0 a1 a2 a3) fu σ v4 v5 = some res → G X 0 0 n σ ρ 55 [(0, vr X a0), (1, .int a1), (2, .int a2), (3, .int a3), (4, .int v4), (5, .int v5)] [] := by
  refine fixN_ind (P := fun (f : Sto → Int32 → Int32 → Option (Int32 × Sto)) => ∀ (σ : Sto) (v4 : Int32) (v5 : Int32), f σ v4 v5 = some res → G X 0 0 n σ ρ 55 [(0, vr X a0), (1, .int a1), (2, .int a2), (3, .int a3), (4, .int v4), (5, .int v5)] []) ?_ ?_ fu
  · intro σ v4 v5 hM; cases hM
  · intro rec ih σ v4 v5 hM
    unfold FX12_tangent_55 at hM
    refine g_iload hC dX12_tangent_55 rfl 5 rfl ?_
    refine g_aload_n hC dX12_tangent_57 rfl 0 rfl ?_
    refine g_callVi (As := []) (st' := [.int v5]) (k := a0) (L' := 0) hC Y_X12_places I_X12_places k_1227 ⟨by decide, by decide⟩ h0 (ci := 11) (by decide) rfl dX12_tangent_58 rfl rfl rfl (Nat.le_of_ble_eq_true rfl) ⟨Nat.zero_le _, Nat.zero_le _⟩ hM (fun c hc => c_X12_places (xE X) a0 h0 c hc) (fun c1 hM => ?_)
    refine g_icmp_ge (tgt := 104) hC dX12_tangent_61 rfl (by decide) hM (fun hM => ?_) (fun hM => ?_)
    · refine g_iconst (v := -1) hC dX12_tangent_104 rfl ic_m1 ?_
      obtain rfl := Option.some.inj hM
      exact g_reti hR dX12_tangent_105 rfl
    · refine g_aload_n hC dX12_tangent_64 rfl 0 rfl ?_
      refine g_iload_n hC dX12_tangent_65 rfl 2 rfl ?_
      refine g_iload hC dX12_tangent_66 rfl 5 rfl ?_
      refine g_callVi (As := [.int a2, .int v5]) (st' := []) (k := a0) (L' := 1) hC Y_X12_isOnLine I_X12_isOnLine k_1235 ⟨by decide, by decide⟩ h0 (ci := 11) (by decide) rfl dX12_tangent_68 rfl rfl rfl (Nat.le_of_ble_eq_true rfl) ⟨Nat.zero_le _, Nat.zero_le _⟩ hM (fun c hc => c_X12_isOnLine (xE X) a0 h0 a2 v5 c hc) (fun c2 hM => ?_)
      refine g_if_eq (tgt := 98) hC dX12_tangent_71 rfl (by decide) hM (fun hM => ?_) (fun hM => ?_)
      · exact g_sub [0, 1, 2, 3, 4, 5] ((bX12_tangent_98 hC hml hR a0 a1 a2 a3 h0 rec ih ) _ _ _ hM) rfl
      · refine g_aload_n hC dX12_tangent_74 rfl 0 rfl ?_
        refine g_iload hC dX12_tangent_75 rfl 5 rfl ?_
        refine g_callVi (As := [.int v5]) (st' := []) (k := a0) (L' := 3) hC Y_X12_isTangent I_X12_isTangent k_1387 ⟨by decide, by decide⟩ h0 (ci := 11) (by decide) rfl dX12_tangent_77 rfl rfl rfl (Nat.le_of_ble_eq_true rfl) ⟨Nat.zero_le _, Nat.zero_le _⟩ hM (fun c hc => c_X12_isTangent (xE X) a0 h0 v5 c hc) (fun c3 hM => ?_)
        refine g_if_ne (tgt := 86) hC dX12_tangent_80 rfl (by decide) hM (fun hM => ?_) (fun hM => ?_)
        · refine g_iload hC dX12_tangent_86 rfl 4 rfl ?_
          refine g_iload_n hC dX12_tangent_88 rfl 3 rfl ?_
          refine g_icmp_ne (tgt := 95) hC dX12_tangent_89 rfl (by decide) hM (fun hM => ?_) (fun hM => ?_)
          · refine g_iinc (v := 1) hC (fun y4 => [(4, .int y4), (0, vr X a0), (1, .int a1), (2, .int a2), (3, .int a3), (5, .int v5)]) dX12_tangent_95 rfl hM (j := 4) rfl ic_1 hml (by decide) (fun _ => rfl) (fun y4 hM => ?_)
            exact g_sub [1, 2, 3, 4, 0, 5] ((bX12_tangent_98 hC hml hR a0 a1 a2 a3 h0 rec ih ) _ _ _ hM) rfl
          · refine g_iload hC dX12_tangent_92 rfl 5 rfl ?_
            cases hM
            exact g_reti hR dX12_tangent_94 rfl
        · refine g_goto (tgt := 98) hC dX12_tangent_83 rfl (by decide) ?_
          exact g_sub [0, 1, 2, 3, 4, 5] ((bX12_tangent_98 hC hml hR a0 a1 a2 a3 h0 rec ih ) _ _ _ hM) rfl
def MX12_tangent (σ : Sto) (ρ : Rho) (a0 : Nat) (a1 : Int32) (a2 : Int32) (a3 : Int32) : Option (Int32 × Sto) :=
  Option.bind (MX12_isConic a1) fun c1 =>
  if c1 = 0 then
    some ((-1 : Int32), σ)
  else
    Option.bind (MX12_isPlace σ ρ a0 a2) fun c2 =>
    if c2.1 = 0 then
      some ((-1 : Int32), c2.2)
    else
      if (-1 : Int32) ≤ a3 then
        Option.bind (MX12_laysConic c2.2 ρ a0 ((0 : Int32)) a1) fun c3 =>
        Option.bind (MX12_rankOf c3 ρ a0) fun c4 =>
        if c4.1 = (3 : Int32) then
          if a3 = (-1 : Int32) then
            Option.bind (MX12_tangents c4.2 ρ a0 a2) fun c7 =>
            some (c7.1, c7.2)
          else
            bn ((0 : Int32)) fun y5 =>
            bn ((0 : Int32)) fun y6 =>
            fixN (fun _ _ _ => none) (FX12_tangent_55 ρ a0 a1 a2 a3) FU c4.2 y5 y6
        else
          some ((-1 : Int32), c4.2)
      else
        some ((-1 : Int32), c2.2)
set_option maxHeartbeats 4000000 in
set_option maxRecDepth 100000 in
theorem c_X12_tangent (E : EX) {n : Nat} {σ : Sto} {ρ : Rho} (a0 : Nat) (h0 : Sh n a0 11) (a1 : Int32) (a2 : Int32) (a3 : Int32) (res : Int32 × Sto) (hM : MX12_tangent σ ρ a0 a1 a2 a3 = some res) : CTi E yX12_tangent cX12_tangent 6 (some .int) 4 [.ref (eb E + a0), .int a1, .int a2, .int a3] n σ ρ res.1 res.2 ρ := by
  refine ct_i (by decide +kernel) rfl (Nat.le_of_ble_eq_true rfl) (fun X hE hml hC hR => ?_)
  subst hE
  show G X 0 0 n σ ρ 0 [(0, vr X a0), (1, .int a1), (2, .int a2), (3, .int a3)] []
  replace hC : Cx X cX12_tangent RX12 4 := hC
  unfold MX12_tangent at hM
  refine g_iload_n hC dX12_tangent_0 rfl 1 rfl ?_
  refine g_callSi (As := [.int a1]) (st' := []) (L' := 1) hC Y_X12_isConic k_1167 k_1166 ⟨by decide, by decide⟩ dX12_tangent_1 rfl rfl rfl (Nat.le_of_ble_eq_true rfl) ⟨Nat.zero_le _, Nat.zero_le _⟩ hM (fun c hc => c_X12_isConic (xE X) a1 c hc) (fun c1 hM => ?_)
  refine g_if_eq (tgt := 20) hC dX12_tangent_4 rfl (by decide) hM (fun hM => ?_) (fun hM => ?_)
  · refine g_iconst (v := -1) hC dX12_tangent_20 rfl ic_m1 ?_
    obtain rfl := Option.some.inj hM
    exact g_reti hR dX12_tangent_21 rfl
  · refine g_aload_n hC dX12_tangent_7 rfl 0 rfl ?_
    refine g_iload_n hC dX12_tangent_8 rfl 2 rfl ?_
    refine g_callVi (As := [.int a2]) (st' := []) (k := a0) (L' := 1) hC Y_X12_isPlace I_X12_isPlace k_1271 ⟨by decide, by decide⟩ h0 (ci := 11) (by decide) rfl dX12_tangent_9 rfl rfl rfl (Nat.le_of_ble_eq_true rfl) ⟨Nat.zero_le _, Nat.zero_le _⟩ hM (fun c hc => c_X12_isPlace (xE X) a0 h0 a2 c hc) (fun c2 hM => ?_)
    refine g_if_eq (tgt := 20) hC dX12_tangent_12 rfl (by decide) hM (fun hM => ?_) (fun hM => ?_)
    · refine g_iconst (v := -1) hC dX12_tangent_20 rfl ic_m1 ?_
      obtain rfl := Option.some.inj hM
      exact g_reti hR dX12_tangent_21 rfl
    · refine g_iload_n hC dX12_tangent_15 rfl 3 rfl ?_
      refine g_iconst (v := -1) hC dX12_tangent_16 rfl ic_m1 ?_
      refine g_icmp_ge (tgt := 22) hC dX12_tangent_17 rfl (by decide) hM (fun hM => ?_) (fun hM => ?_)
      · refine g_aload_n hC dX12_tangent_22 rfl 0 rfl ?_
        refine g_iconst (v := 0) hC dX12_tangent_23 rfl ic_0 ?_
        refine g_iload_n hC dX12_tangent_24 rfl 1 rfl ?_
        refine g_callVv0 (As := [.int ((0 : Int32)), .int a1]) (st' := []) (k := a0) (L' := 1) hC Y_X12_laysConic I_X12_laysConic k_1199 ⟨by decide, by decide⟩ h0 (ci := 11) (by decide) rfl dX12_tangent_25 rfl rfl rfl (Nat.le_of_ble_eq_true rfl) ⟨Nat.zero_le _, Nat.zero_le _⟩ hM (fun c hc => c_X12_laysConic (xE X) a0 h0 ((0 : Int32)) a1 c hc) (fun c3 hM => ?_)
        refine g_aload_n hC dX12_tangent_28 rfl 0 rfl ?_
        refine g_callVi (As := []) (st' := []) (k := a0) (L' := 2) hC Y_X12_rankOf I_X12_rankOf k_1211 ⟨by decide, by decide⟩ h0 (ci := 11) (by decide) rfl dX12_tangent_29 rfl rfl rfl (Nat.le_of_ble_eq_true rfl) ⟨Nat.zero_le _, Nat.zero_le _⟩ hM (fun c hc => c_X12_rankOf (xE X) a0 h0 c hc) (fun c4 hM => ?_)
        refine g_iconst (v := 3) hC dX12_tangent_32 rfl ic_3 ?_
        refine g_icmp_eq (tgt := 38) hC dX12_tangent_33 rfl (by decide) hM (fun hM => ?_) (fun hM => ?_)
        · refine g_iload_n hC dX12_tangent_38 rfl 3 rfl ?_
          refine g_iconst (v := -1) hC dX12_tangent_39 rfl ic_m1 ?_
          refine g_icmp_ne (tgt := 49) hC dX12_tangent_40 rfl (by decide) hM (fun hM => ?_) (fun hM => ?_)
          · refine g_iconst (v := 0) hC dX12_tangent_49 rfl ic_0 ?_
            refine g_istore hC (fun y5 => [(4, .int y5), (0, vr X a0), (1, .int a1), (2, .int a2), (3, .int a3)]) dX12_tangent_50 rfl hM hml (by decide) (fun _ => rfl) (fun y5 hM => ?_)
            refine g_iconst (v := 0) hC dX12_tangent_52 rfl ic_0 ?_
            refine g_istore hC (fun y6 => [(5, .int y6), (4, .int y5), (0, vr X a0), (1, .int a1), (2, .int a2), (3, .int a3)]) dX12_tangent_53 rfl hM hml (by decide) (fun _ => rfl) (fun y6 hM => ?_)
            exact g_sub [2, 3, 4, 5, 1, 0] ((bX12_tangent_55 hC hml hR a0 a1 a2 a3 h0  FU) _ _ _ hM) rfl
          · refine g_aload_n hC dX12_tangent_43 rfl 0 rfl ?_
            refine g_iload_n hC dX12_tangent_44 rfl 2 rfl ?_
            refine g_callVi (As := [.int a2]) (st' := []) (k := a0) (L' := 3) hC Y_X12_tangents I_X12_tangents k_1339 ⟨by decide, by decide⟩ h0 (ci := 11) (by decide) rfl dX12_tangent_45 rfl rfl rfl (Nat.le_of_ble_eq_true rfl) ⟨Nat.zero_le _, Nat.zero_le _⟩ hM (fun c hc => c_X12_tangents (xE X) a0 h0 a2 c hc) (fun c7 hM => ?_)
            cases hM
            exact g_reti hR dX12_tangent_48 rfl
        · refine g_iconst (v := -1) hC dX12_tangent_36 rfl ic_m1 ?_
          obtain rfl := Option.some.inj hM
          exact g_reti hR dX12_tangent_37 rfl
      · refine g_iconst (v := -1) hC dX12_tangent_20 rfl ic_m1 ?_
        obtain rfl := Option.some.inj hM
        exact g_reti hR dX12_tangent_21 rfl
