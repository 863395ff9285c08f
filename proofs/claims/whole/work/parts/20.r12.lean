def BX12_numeral_50 (ρ : Rho) (a0 : Nat) (a1 : Int32) (σ : Sto) : Option (Int32 × Sto) :=
  Option.bind (MX12_isGood σ a0) fun c1 =>
  if c1 = 0 then
    some ((0 : Int32), σ)
  else
    bn (((jn (σ a0 18) (σ a0 1018))).toInt32) fun y2 =>
    Option.bind (MX12_takes σ ρ a0) fun c3 =>
    some (y2, c3)
set_option maxHeartbeats 4000000 in
set_option maxRecDepth 100000 in
theorem bX12_numeral_50 {X : CX} {n : Nat} {ρ : Rho} {res : Int32 × Sto} (hC : Cx X cX12_numeral RX12 2) (hml : (xc X).maxLocals = 3) (hR : RtT (some .int) X cX12_numeral n res.1 res.2 ρ) (a0 : Nat) (a1 : Int32) (h0 : Sh n a0 11) : ∀ (σ : Sto), BX12_numeral_50 ρ a0 a1 σ = some res → G X 0 0 n σ ρ 50 [(0, vr X a0), (1, .int a1)] [] := by
  intro σ hM
  unfold BX12_numeral_50 at hM
  refine g_aload_n hC dX12_numeral_50 rfl 0 rfl ?_
  refine g_callVi (As := []) (st' := []) (k := a0) (L' := 0) hC Y_X12_isGood I_X12_isGood k_1478 ⟨by decide, by decide⟩ h0 (ci := 11) (by decide) rfl dX12_numeral_51 rfl rfl rfl (Nat.le_of_ble_eq_true rfl) ⟨Nat.zero_le _, Nat.zero_le _⟩ hM (fun c hc => c_X12_isGood (xE X) a0 h0 c hc) (fun c1 hM => ?_)
  refine g_if_ne (tgt := 59) hC dX12_numeral_54 rfl (by decide) hM (fun hM => ?_) (fun hM => ?_)
  · refine g_aload_n hC dX12_numeral_59 rfl 0 rfl ?_
    refine fg_11_18 hC h0 k_1100 dX12_numeral_60 rfl ?_
    refine g_l2i hC dX12_numeral_63 rfl ?_
    refine g_istore_n hC (fun y2 => [(2, .int y2), (0, vr X a0), (1, .int a1)]) dX12_numeral_64 rfl hM hml (by decide) (fun _ => rfl) (fun y2 hM => ?_)
    refine g_aload_n hC dX12_numeral_65 rfl 1 rfl ?_
    refine g_callVv0 (As := []) (st' := []) (k := a0) (L' := 1) hC Y_X12_takes I_X12_takes k_1459 ⟨by decide, by decide⟩ h0 (ci := 11) (by decide) rfl dX12_numeral_66 rfl rfl rfl (Nat.le_of_ble_eq_true rfl) ⟨Nat.zero_le _, Nat.zero_le _⟩ hM (fun c hc => c_X12_takes (xE X) a0 h0 c hc) (fun c3 hM => ?_)
    refine g_iload_n hC dX12_numeral_69 rfl 0 rfl ?_
    cases hM
    exact g_reti hR dX12_numeral_70 rfl
  · refine g_iconst (v := 0) hC dX12_numeral_57 rfl ic_0 ?_
    cases hM
    exact g_reti hR dX12_numeral_58 rfl
def BX12_numeral_24 (ρ : Rho) (a0 : Nat) (a1 : Int32) (σ : Sto) : Option (Int32 × Sto) :=
  Option.bind (MX12_isGood σ a0) fun c1 =>
  if c1 = 0 then
    BX12_numeral_50 ρ a0 a1 σ
  else
    if (lg_cmp ((jn (σ a0 18) (σ a0 1018))) a1.toInt64) ≤ 0 then
      BX12_numeral_50 ρ a0 a1 σ
    else
      Option.bind (MX12_fails σ a0 ((2 : Int32)) ((σ a0 17))) fun c2 =>
      BX12_numeral_50 ρ a0 a1 c2
set_option maxHeartbeats 4000000 in
set_option maxRecDepth 100000 in
theorem bX12_numeral_24 {X : CX} {n : Nat} {ρ : Rho} {res : Int32 × Sto} (hC : Cx X cX12_numeral RX12 2) (hml : (xc X).maxLocals = 3) (hR : RtT (some .int) X cX12_numeral n res.1 res.2 ρ) (a0 : Nat) (a1 : Int32) (h0 : Sh n a0 11) : ∀ (σ : Sto), BX12_numeral_24 ρ a0 a1 σ = some res → G X 0 0 n σ ρ 24 [(0, vr X a0), (1, .int a1)] [] := by
  intro σ hM
  unfold BX12_numeral_24 at hM
  refine g_aload_n hC dX12_numeral_24 rfl 0 rfl ?_
  refine g_callVi (As := []) (st' := []) (k := a0) (L' := 0) hC Y_X12_isGood I_X12_isGood k_1478 ⟨by decide, by decide⟩ h0 (ci := 11) (by decide) rfl dX12_numeral_25 rfl rfl rfl (Nat.le_of_ble_eq_true rfl) ⟨Nat.zero_le _, Nat.zero_le _⟩ hM (fun c hc => c_X12_isGood (xE X) a0 h0 c hc) (fun c1 hM => ?_)
  refine g_if_eq (tgt := 50) hC dX12_numeral_28 rfl (by decide) hM (fun hM => ?_) (fun hM => ?_)
  · exact g_sub [0, 1] ((bX12_numeral_50 hC hml hR a0 a1 h0 ) _ hM) rfl
  · refine g_aload_n hC dX12_numeral_31 rfl 0 rfl ?_
    refine fg_11_18 hC h0 k_1100 dX12_numeral_32 rfl ?_
    refine g_iload_n hC dX12_numeral_35 rfl 1 rfl ?_
    refine g_i2l hC dX12_numeral_36 rfl ?_
    refine g_lcmp hC dX12_numeral_37 rfl ?_
    refine g_if_le (tgt := 50) hC dX12_numeral_38 rfl (by decide) hM (fun hM => ?_) (fun hM => ?_)
    · exact g_sub [0, 1] ((bX12_numeral_50 hC hml hR a0 a1 h0 ) _ hM) rfl
    · refine g_aload_n hC dX12_numeral_41 rfl 0 rfl ?_
      refine g_iconst (v := 2) hC dX12_numeral_42 rfl ic_2 ?_
      refine g_aload_n hC dX12_numeral_43 rfl 0 rfl ?_
      refine fg_11_17 hC h0 k_1099 dX12_numeral_44 rfl ?_
      refine g_callVv0 (As := [.int ((2 : Int32)), .int ((σ a0 17))]) (st' := []) (k := a0) (L' := 0) hC Y_X12_fails I_X12_fails k_1495 ⟨by decide, by decide⟩ h0 (ci := 11) (by decide) rfl dX12_numeral_47 rfl rfl rfl (Nat.le_of_ble_eq_true rfl) ⟨Nat.zero_le _, Nat.zero_le _⟩ hM (fun c hc => c_X12_fails (xE X) a0 h0 ((2 : Int32)) ((σ a0 17)) c hc) (fun c2 hM => ?_)
      exact g_sub [0, 1] ((bX12_numeral_50 hC hml hR a0 a1 h0 ) _ hM) rfl
def MX12_numeral (σ : Sto) (ρ : Rho) (a0 : Nat) (a1 : Int32) : Option (Int32 × Sto) :=
  Option.bind (MX12_isGood σ a0) fun c1 =>
  if c1 = 0 then
    BX12_numeral_24 ρ a0 a1 σ
  else
    if (σ a0 16) = (2 : Int32) then
      BX12_numeral_24 ρ a0 a1 σ
    else
      Option.bind (MX12_fails σ a0 ((1 : Int32)) ((σ a0 17))) fun c2 =>
      BX12_numeral_24 ρ a0 a1 c2
set_option maxHeartbeats 4000000 in
set_option maxRecDepth 100000 in
theorem c_X12_numeral (E : EX) {n : Nat} {σ : Sto} {ρ : Rho} (a0 : Nat) (h0 : Sh n a0 11) (a1 : Int32) (res : Int32 × Sto) (hM : MX12_numeral σ ρ a0 a1 = some res) : CTi E yX12_numeral cX12_numeral 3 (some .int) 2 [.ref (eb E + a0), .int a1] n σ ρ res.1 res.2 ρ := by
  refine ct_i (by decide +kernel) rfl (Nat.le_of_ble_eq_true rfl) (fun X hE hml hC hR => ?_)
  subst hE
  show G X 0 0 n σ ρ 0 [(0, vr X a0), (1, .int a1)] []
  replace hC : Cx X cX12_numeral RX12 2 := hC
  unfold MX12_numeral at hM
  refine g_aload_n hC dX12_numeral_0 rfl 0 rfl ?_
  refine g_callVi (As := []) (st' := []) (k := a0) (L' := 0) hC Y_X12_isGood I_X12_isGood k_1478 ⟨by decide, by decide⟩ h0 (ci := 11) (by decide) rfl dX12_numeral_1 rfl rfl rfl (Nat.le_of_ble_eq_true rfl) ⟨Nat.zero_le _, Nat.zero_le _⟩ hM (fun c hc => c_X12_isGood (xE X) a0 h0 c hc) (fun c1 hM => ?_)
  refine g_if_eq (tgt := 24) hC dX12_numeral_4 rfl (by decide) hM (fun hM => ?_) (fun hM => ?_)
  · exact g_sub [0, 1] ((bX12_numeral_24 hC hml hR a0 a1 h0 ) _ hM) rfl
  · refine g_aload_n hC dX12_numeral_7 rfl 0 rfl ?_
    refine fg_11_16 hC h0 k_1098 dX12_numeral_8 rfl ?_
    refine g_iconst (v := 2) hC dX12_numeral_11 rfl ic_2 ?_
    refine g_icmp_eq (tgt := 24) hC dX12_numeral_12 rfl (by decide) hM (fun hM => ?_) (fun hM => ?_)
    · exact g_sub [0, 1] ((bX12_numeral_24 hC hml hR a0 a1 h0 ) _ hM) rfl
    · refine g_aload_n hC dX12_numeral_15 rfl 0 rfl ?_
      refine g_iconst (v := 1) hC dX12_numeral_16 rfl ic_1 ?_
      refine g_aload_n hC dX12_numeral_17 rfl 0 rfl ?_
      refine fg_11_17 hC h0 k_1099 dX12_numeral_18 rfl ?_
      refine g_callVv0 (As := [.int ((1 : Int32)), .int ((σ a0 17))]) (st' := []) (k := a0) (L' := 0) hC Y_X12_fails I_X12_fails k_1495 ⟨by decide, by decide⟩ h0 (ci := 11) (by decide) rfl dX12_numeral_21 rfl rfl rfl (Nat.le_of_ble_eq_true rfl) ⟨Nat.zero_le _, Nat.zero_le _⟩ hM (fun c hc => c_X12_fails (xE X) a0 h0 ((1 : Int32)) ((σ a0 17)) c hc) (fun c2 hM => ?_)
      exact g_sub [0, 1] ((bX12_numeral_24 hC hml hR a0 a1 h0 ) _ hM) rfl
def MX12_signed (σ : Sto) (ρ : Rho) (a0 : Nat) : Option (Int32 × Sto) :=
  Option.bind (MX12_hasSign σ ρ a0 ((45 : Int32))) fun c1 =>
  bn c1.1 fun y2 =>
  Option.bind (MX12_numeral c1.2 ρ a0 ((99 : Int32))) fun c3 =>
  bn c3.1 fun y4 =>
  if y2 = 0 then
    some (y4, c3.2)
  else
    some ((-y4), c3.2)
set_option maxHeartbeats 4000000 in
set_option maxRecDepth 100000 in
theorem c_X12_signed (E : EX) {n : Nat} {σ : Sto} {ρ : Rho} (a0 : Nat) (h0 : Sh n a0 11) (res : Int32 × Sto) (hM : MX12_signed σ ρ a0 = some res) : CTi E yX12_signed cX12_signed 3 (some .int) 3 [.ref (eb E + a0)] n σ ρ res.1 res.2 ρ := by
  refine ct_i (by decide +kernel) rfl (Nat.le_of_ble_eq_true rfl) (fun X hE hml hC hR => ?_)
  subst hE
  show G X 0 0 n σ ρ 0 [(0, vr X a0)] []
  replace hC : Cx X cX12_signed RX12 3 := hC
  unfold MX12_signed at hM
  refine g_aload_n hC dX12_signed_0 rfl 0 rfl ?_
  refine g_bipush (v := 45) hC dX12_signed_1 rfl ib_45 ?_
  refine g_callVi (As := [.int ((45 : Int32))]) (st' := []) (k := a0) (L' := 2) hC Y_X12_hasSign I_X12_hasSign k_1507 ⟨by decide, by decide⟩ h0 (ci := 11) (by decide) rfl dX12_signed_3 rfl rfl rfl (Nat.le_of_ble_eq_true rfl) ⟨Nat.zero_le _, Nat.zero_le _⟩ hM (fun c hc => c_X12_hasSign (xE X) a0 h0 ((45 : Int32)) c hc) (fun c1 hM => ?_)
  refine g_istore_n hC (fun y2 => [(1, .int y2), (0, vr X a0)]) dX12_signed_6 rfl hM hml (by decide) (fun _ => rfl) (fun y2 hM => ?_)
  refine g_aload_n hC dX12_signed_7 rfl 1 rfl ?_
  refine g_bipush (v := 99) hC dX12_signed_8 rfl ib_99 ?_
  refine g_callVi (As := [.int ((99 : Int32))]) (st' := []) (k := a0) (L' := 2) hC Y_X12_numeral I_X12_numeral k_1499 ⟨by decide, by decide⟩ h0 (ci := 11) (by decide) rfl dX12_signed_10 rfl rfl rfl (Nat.le_of_ble_eq_true rfl) ⟨Nat.zero_le _, Nat.zero_le _⟩ hM (fun c hc => c_X12_numeral (xE X) a0 h0 ((99 : Int32)) c hc) (fun c3 hM => ?_)
  refine g_istore_n hC (fun y4 => [(2, .int y4), (1, .int y2), (0, vr X a0)]) dX12_signed_13 rfl hM hml (by decide) (fun _ => rfl) (fun y4 hM => ?_)
  refine g_iload_n hC dX12_signed_14 rfl 1 rfl ?_
  refine g_if_eq (tgt := 23) hC dX12_signed_15 rfl (by decide) hM (fun hM => ?_) (fun hM => ?_)
  · refine g_iload_n hC dX12_signed_23 rfl 0 rfl ?_
    cases hM
    exact g_reti hR dX12_signed_24 rfl
  · refine g_iload_n hC dX12_signed_18 rfl 0 rfl ?_
    refine g_ineg hC dX12_signed_19 rfl ?_
    refine g_goto (tgt := 24) hC dX12_signed_20 rfl (by decide) ?_
    obtain rfl := Option.some.inj hM
    exact g_reti hR dX12_signed_24 rfl
def MX12_ends (σ : Sto) (ρ : Rho) (a0 : Nat) : Option (Sto) :=
  Option.bind (MX12_isGood σ a0) fun c1 =>
  if c1 = 0 then
    some σ
  else
    Option.bind (MX12_hasSign σ ρ a0 ((59 : Int32))) fun c2 =>
    if c2.1 = 0 then
      Option.bind (MX12_fails c2.2 a0 ((1 : Int32)) ((c2.2 a0 17))) fun c3 =>
      some c3
    else
      some c2.2
set_option maxHeartbeats 4000000 in
set_option maxRecDepth 100000 in
theorem c_X12_ends (E : EX) {n : Nat} {σ : Sto} {ρ : Rho} (a0 : Nat) (h0 : Sh n a0 11) (res : Sto) (hM : MX12_ends σ ρ a0 = some res) : CTv E yX12_ends cX12_ends 1 3 0 0 [.ref (eb E + a0)] n σ ρ res ρ := by
  refine ct_v (by decide +kernel) (Nat.le_of_ble_eq_true rfl) (fun X hE hml hin hRm hC hR => ?_)
  subst hE
  show G X 0 0 n σ ρ 0 [(0, vr X a0)] []
  replace hC : Cx X cX12_ends RX12 3 := hC
  unfold MX12_ends at hM
  refine g_aload_n hC dX12_ends_0 rfl 0 rfl ?_
  refine g_callVi (As := []) (st' := []) (k := a0) (L' := 0) hC Y_X12_isGood I_X12_isGood k_1478 ⟨by decide, by decide⟩ h0 (ci := 11) (by decide) rfl dX12_ends_1 rfl rfl rfl (Nat.le_of_ble_eq_true rfl) ⟨Nat.zero_le _, Nat.zero_le _⟩ hM (fun c hc => c_X12_isGood (xE X) a0 h0 c hc) (fun c1 hM => ?_)
  refine g_if_eq (tgt := 25) hC dX12_ends_4 rfl (by decide) hM (fun hM => ?_) (fun hM => ?_)
  · cases hM
    exact g_retv hR dX12_ends_25 rfl
  · refine g_aload_n hC dX12_ends_7 rfl 0 rfl ?_
    refine g_bipush (v := 59) hC dX12_ends_8 rfl ib_59 ?_
    refine g_callVi (As := [.int ((59 : Int32))]) (st' := []) (k := a0) (L' := 2) hC Y_X12_hasSign I_X12_hasSign k_1507 ⟨by decide, by decide⟩ h0 (ci := 11) (by decide) rfl dX12_ends_10 rfl rfl rfl (Nat.le_of_ble_eq_true rfl) ⟨Nat.zero_le _, Nat.zero_le _⟩ hM (fun c hc => c_X12_hasSign (xE X) a0 h0 ((59 : Int32)) c hc) (fun c2 hM => ?_)
    refine g_if_ne (tgt := 25) hC dX12_ends_13 rfl (by decide) hM (fun hM => ?_) (fun hM => ?_)
    · cases hM
      exact g_retv hR dX12_ends_25 rfl
    · refine g_aload_n hC dX12_ends_16 rfl 0 rfl ?_
      refine g_iconst (v := 1) hC dX12_ends_17 rfl ic_1 ?_
      refine g_aload_n hC dX12_ends_18 rfl 0 rfl ?_
      refine fg_11_17 hC h0 k_1099 dX12_ends_19 rfl ?_
      refine g_callVv0 (As := [.int ((1 : Int32)), .int ((c2.2 a0 17))]) (st' := []) (k := a0) (L' := 0) hC Y_X12_fails I_X12_fails k_1495 ⟨by decide, by decide⟩ h0 (ci := 11) (by decide) rfl dX12_ends_22 rfl rfl rfl (Nat.le_of_ble_eq_true rfl) ⟨Nat.zero_le _, Nat.zero_le _⟩ hM (fun c hc => c_X12_fails (xE X) a0 h0 ((1 : Int32)) ((c2.2 a0 17)) c hc) (fun c3 hM => ?_)
      cases hM
      exact g_retv hR dX12_ends_25 rfl
def BX12_readsPrime_35 (ρ : Rho) (a0 : Nat) (σ : Sto) : Option (Sto) :=
  Option.bind (MX12_numeral σ ρ a0 ((23 : Int32))) fun c1 =>
  bn c1.1 fun y2 =>
  Option.bind (MX12_ends c1.2 ρ a0) fun c3 =>
  Option.bind (MX12_isGood c3 a0) fun c4 =>
  if c4 = 0 then
    some c3
  else
    Option.bind (ρ a0 0) fun j5 =>
    Option.bind (ag c3 j5 ((84 : Int32))) fun x6 =>
    if y2 = x6 then
      some c3
    else
      Option.bind (ρ a0 0) fun j7 =>
      Option.bind (ap c3 j7 ((84 : Int32)) y2) fun σ8 =>
      Option.bind (ρ a0 0) fun j9 =>
      Option.bind (ap σ8 j9 ((85 : Int32)) ((0 : Int32))) fun σ10 =>
      some σ10
set_option maxHeartbeats 4000000 in
set_option maxRecDepth 100000 in
theorem bX12_readsPrime_35 {X : CX} {n : Nat} {ρ : Rho} {res : Sto} (hC : Cx X cX12_readsPrime RX12 4) (hml : (xc X).maxLocals = 2) (hR : RtV X cX12_readsPrime 0 0 n res ρ) (a0 : Nat) (h0 : Sh n a0 11) : ∀ (σ : Sto), BX12_readsPrime_35 ρ a0 σ = some res → G X 0 0 n σ ρ 35 [(0, vr X a0)] [] := by
  intro σ hM
  unfold BX12_readsPrime_35 at hM
  refine g_aload_n hC dX12_readsPrime_35 rfl 0 rfl ?_
  refine g_bipush (v := 23) hC dX12_readsPrime_36 rfl ib_23 ?_
  refine g_callVi (As := [.int ((23 : Int32))]) (st' := []) (k := a0) (L' := 2) hC Y_X12_numeral I_X12_numeral k_1499 ⟨by decide, by decide⟩ h0 (ci := 11) (by decide) rfl dX12_readsPrime_38 rfl rfl rfl (Nat.le_of_ble_eq_true rfl) ⟨Nat.zero_le _, Nat.zero_le _⟩ hM (fun c hc => c_X12_numeral (xE X) a0 h0 ((23 : Int32)) c hc) (fun c1 hM => ?_)
  refine g_istore_n hC (fun y2 => [(1, .int y2), (0, vr X a0)]) dX12_readsPrime_41 rfl hM hml (by decide) (fun _ => rfl) (fun y2 hM => ?_)
  refine g_aload_n hC dX12_readsPrime_42 rfl 1 rfl ?_
  refine g_callVv0 (As := []) (st' := []) (k := a0) (L' := 3) hC Y_X12_ends I_X12_ends k_1503 ⟨by decide, by decide⟩ h0 (ci := 11) (by decide) rfl dX12_readsPrime_43 rfl rfl rfl (Nat.le_of_ble_eq_true rfl) ⟨Nat.zero_le _, Nat.zero_le _⟩ hM (fun c hc => c_X12_ends (xE X) a0 h0 c hc) (fun c3 hM => ?_)
  refine g_aload_n hC dX12_readsPrime_46 rfl 1 rfl ?_
  refine g_callVi (As := []) (st' := []) (k := a0) (L' := 0) hC Y_X12_isGood I_X12_isGood k_1478 ⟨by decide, by decide⟩ h0 (ci := 11) (by decide) rfl dX12_readsPrime_47 rfl rfl rfl (Nat.le_of_ble_eq_true rfl) ⟨Nat.zero_le _, Nat.zero_le _⟩ hM (fun c hc => c_X12_isGood (xE X) a0 h0 c hc) (fun c4 hM => ?_)
  refine g_if_eq (tgt := 64) hC dX12_readsPrime_50 rfl (by decide) hM (fun hM => ?_) (fun hM => ?_)
  · cases hM
    exact g_retv hR dX12_readsPrime_64 rfl
  · refine g_iload_n hC dX12_readsPrime_53 rfl 0 rfl ?_
    refine g_aload_n hC dX12_readsPrime_54 rfl 1 rfl ?_
    refine fg_11_0 hC h0 k_1082 dX12_readsPrime_55 rfl hM (fun j5 hj5 hM => ?_)
    refine g_bipush (v := 84) hC dX12_readsPrime_58 rfl ib_84 ?_
    refine g_iald hC hj5 dX12_readsPrime_60 rfl hM (fun x6 hM => ?_)
    refine g_icmp_ne (tgt := 65) hC dX12_readsPrime_61 rfl (by decide) hM (fun hM => ?_) (fun hM => ?_)
    · refine g_aload_n hC dX12_readsPrime_65 rfl 1 rfl ?_
      refine fg_11_0 hC h0 k_1082 dX12_readsPrime_66 rfl hM (fun j7 hj7 hM => ?_)
      refine g_bipush (v := 84) hC dX12_readsPrime_69 rfl ib_84 ?_
      refine g_iload_n hC dX12_readsPrime_71 rfl 0 rfl ?_
      refine g_iast hC hj7 dX12_readsPrime_72 rfl hM (fun σ8 hM => ?_)
      refine g_aload_n hC dX12_readsPrime_73 rfl 1 rfl ?_
      refine fg_11_0 hC h0 k_1082 dX12_readsPrime_74 rfl hM (fun j9 hj9 hM => ?_)
      refine g_bipush (v := 85) hC dX12_readsPrime_77 rfl ib_85 ?_
      refine g_iconst (v := 0) hC dX12_readsPrime_79 rfl ic_0 ?_
      refine g_iast hC hj9 dX12_readsPrime_80 rfl hM (fun σ10 hM => ?_)
      cases hM
      exact g_retv hR dX12_readsPrime_81 rfl
    · cases hM
      exact g_retv hR dX12_readsPrime_64 rfl
def MX12_readsPrime (σ : Sto) (ρ : Rho) (a0 : Nat) : Option (Sto) :=
  Option.bind (MX12_isGood σ a0) fun c1 =>
  if c1 = 0 then
    BX12_readsPrime_35 ρ a0 σ
  else
    if (σ a0 16) = (2 : Int32) then
      Option.bind (MX12_isPrime (((jn (σ a0 18) (σ a0 1018))).toInt32)) fun c2 =>
      if c2 = 0 then
        Option.bind (MX12_fails σ a0 ((2 : Int32)) ((σ a0 17))) fun c3 =>
        BX12_readsPrime_35 ρ a0 c3
      else
        BX12_readsPrime_35 ρ a0 σ
    else
      BX12_readsPrime_35 ρ a0 σ
set_option maxHeartbeats 4000000 in
set_option maxRecDepth 100000 in
theorem c_X12_readsPrime (E : EX) {n : Nat} {σ : Sto} {ρ : Rho} (a0 : Nat) (h0 : Sh n a0 11) (res : Sto) (hM : MX12_readsPrime σ ρ a0 = some res) : CTv E yX12_readsPrime cX12_readsPrime 2 4 0 0 [.ref (eb E + a0)] n σ ρ res ρ := by
  refine ct_v (by decide +kernel) (Nat.le_of_ble_eq_true rfl) (fun X hE hml hin hRm hC hR => ?_)
  subst hE
  show G X 0 0 n σ ρ 0 [(0, vr X a0)] []
  replace hC : Cx X cX12_readsPrime RX12 4 := hC
  unfold MX12_readsPrime at hM
  refine g_aload_n hC dX12_readsPrime_0 rfl 0 rfl ?_
  refine g_callVi (As := []) (st' := []) (k := a0) (L' := 0) hC Y_X12_isGood I_X12_isGood k_1478 ⟨by decide, by decide⟩ h0 (ci := 11) (by decide) rfl dX12_readsPrime_1 rfl rfl rfl (Nat.le_of_ble_eq_true rfl) ⟨Nat.zero_le _, Nat.zero_le _⟩ hM (fun c hc => c_X12_isGood (xE X) a0 h0 c hc) (fun c1 hM => ?_)
  refine g_if_eq (tgt := 35) hC dX12_readsPrime_4 rfl (by decide) hM (fun hM => ?_) (fun hM => ?_)
  · exact g_sub [0] ((bX12_readsPrime_35 hC hml hR a0 h0 ) _ hM) rfl
  · refine g_aload_n hC dX12_readsPrime_7 rfl 0 rfl ?_
    refine fg_11_16 hC h0 k_1098 dX12_readsPrime_8 rfl ?_
    refine g_iconst (v := 2) hC dX12_readsPrime_11 rfl ic_2 ?_
    refine g_icmp_ne (tgt := 35) hC dX12_readsPrime_12 rfl (by decide) hM (fun hM => ?_) (fun hM => ?_)
    · exact g_sub [0] ((bX12_readsPrime_35 hC hml hR a0 h0 ) _ hM) rfl
    · refine g_aload_n hC dX12_readsPrime_15 rfl 0 rfl ?_
      refine fg_11_18 hC h0 k_1100 dX12_readsPrime_16 rfl ?_
      refine g_l2i hC dX12_readsPrime_19 rfl ?_
      refine g_callSi (As := [.int (((jn (σ a0 18) (σ a0 1018))).toInt32)]) (st' := []) (L' := 0) hC Y_X12_isPrime k_1148 k_1147 ⟨by decide, by decide⟩ dX12_readsPrime_20 rfl rfl rfl (Nat.le_of_ble_eq_true rfl) ⟨Nat.zero_le _, Nat.zero_le _⟩ hM (fun c hc => c_X12_isPrime (xE X) (((jn (σ a0 18) (σ a0 1018))).toInt32) c hc) (fun c2 hM => ?_)
      refine g_if_ne (tgt := 35) hC dX12_readsPrime_23 rfl (by decide) hM (fun hM => ?_) (fun hM => ?_)
      · exact g_sub [0] ((bX12_readsPrime_35 hC hml hR a0 h0 ) _ hM) rfl
      · refine g_aload_n hC dX12_readsPrime_26 rfl 0 rfl ?_
        refine g_iconst (v := 2) hC dX12_readsPrime_27 rfl ic_2 ?_
        refine g_aload_n hC dX12_readsPrime_28 rfl 0 rfl ?_
        refine fg_11_17 hC h0 k_1099 dX12_readsPrime_29 rfl ?_
        refine g_callVv0 (As := [.int ((2 : Int32)), .int ((σ a0 17))]) (st' := []) (k := a0) (L' := 0) hC Y_X12_fails I_X12_fails k_1495 ⟨by decide, by decide⟩ h0 (ci := 11) (by decide) rfl dX12_readsPrime_32 rfl rfl rfl (Nat.le_of_ble_eq_true rfl) ⟨Nat.zero_le _, Nat.zero_le _⟩ hM (fun c hc => c_X12_fails (xE X) a0 h0 ((2 : Int32)) ((σ a0 17)) c hc) (fun c3 hM => ?_)
        exact g_sub [0] ((bX12_readsPrime_35 hC hml hR a0 h0 ) _ hM) rfl
def BX12_readsPoint_57 (ρ : Rho) (a0 : Nat) (a1 : Int32) (σ : Sto) : Option (Sto) :=
  Option.bind (MX12_fails σ a0 ((3 : Int32)) a1) fun c1 =>
  some c1
set_option maxHeartbeats 4000000 in
set_option maxRecDepth 100000 in
theorem bX12_readsPoint_57 {X : CX} {n : Nat} {ρ : Rho} {res : Sto} (hC : Cx X cX12_readsPoint RX12 4) (hml : (xc X).maxLocals = 3) (hR : RtV X cX12_readsPoint 0 0 n res ρ) (a0 : Nat) (a1 : Int32) (h0 : Sh n a0 11) : ∀ (σ : Sto), BX12_readsPoint_57 ρ a0 a1 σ = some res → G X 0 0 n σ ρ 57 [(0, vr X a0), (1, .int a1)] [] := by
  intro σ hM
  unfold BX12_readsPoint_57 at hM
  refine g_aload_n hC dX12_readsPoint_57 rfl 0 rfl ?_
  refine g_iconst (v := 3) hC dX12_readsPoint_58 rfl ic_3 ?_
  refine g_iload_n hC dX12_readsPoint_59 rfl 1 rfl ?_
  refine g_callVv0 (As := [.int ((3 : Int32)), .int a1]) (st' := []) (k := a0) (L' := 0) hC Y_X12_fails I_X12_fails k_1495 ⟨by decide, by decide⟩ h0 (ci := 11) (by decide) rfl dX12_readsPoint_60 rfl rfl rfl (Nat.le_of_ble_eq_true rfl) ⟨Nat.zero_le _, Nat.zero_le _⟩ hM (fun c hc => c_X12_fails (xE X) a0 h0 ((3 : Int32)) a1 c hc) (fun c1 hM => ?_)
  cases hM
  exact g_retv hR dX12_readsPoint_63 rfl
def MX12_readsPoint (σ : Sto) (ρ : Rho) (a0 : Nat) (a1 : Int32) : Option (Sto) :=
  Option.bind (ρ a0 0) fun j1 =>
  Option.bind (ag σ j1 ((84 : Int32))) fun x2 =>
  bn (su σ a0 7 x2) fun σ3 =>
  Option.bind (MX12_places σ3 a0) fun c4 =>
  Option.bind (MX12_numeral σ3 ρ a0 ((c4 - (1 : Int32)))) fun c5 =>
  bn c5.1 fun y6 =>
  Option.bind (MX12_ends c5.2 ρ a0) fun c7 =>
  Option.bind (MX12_isGood c7 a0) fun c8 =>
  if c8 = 0 then
    some c7
  else
    Option.bind (MX12_markOf c7 ρ a0 ((48 : Int32)) y6) fun c9 =>
    if c9 = (-1 : Int32) then
      Option.bind (ρ a0 0) fun j10 =>
      Option.bind (ag c7 j10 ((85 : Int32))) fun x11 =>
      if x11 = (8 : Int32) then
        BX12_readsPoint_57 ρ a0 a1 c7
      else
        Option.bind (ρ a0 0) fun j12 =>
        Option.bind (ρ a0 0) fun j13 =>
        Option.bind (ag c7 j13 ((85 : Int32))) fun x14 =>
        Option.bind (ap c7 j12 (((86 : Int32) + x14)) y6) fun σ15 =>
        Option.bind (ρ a0 0) fun j16 =>
        Option.bind (ag σ15 j16 ((85 : Int32))) fun x17 =>
        Option.bind (ap σ15 j16 ((85 : Int32)) ((x17 + (1 : Int32)))) fun σ18 =>
        some σ18
    else
      BX12_readsPoint_57 ρ a0 a1 c7
set_option maxHeartbeats 4000000 in
set_option maxRecDepth 100000 in
theorem c_X12_readsPoint (E : EX) {n : Nat} {σ : Sto} {ρ : Rho} (a0 : Nat) (h0 : Sh n a0 11) (a1 : Int32) (res : Sto) (hM : MX12_readsPoint σ ρ a0 a1 = some res) : CTv E yX12_readsPoint cX12_readsPoint 3 4 0 0 [.ref (eb E + a0), .int a1] n σ ρ res ρ := by
  refine ct_v (by decide +kernel) (Nat.le_of_ble_eq_true rfl) (fun X hE hml hin hRm hC hR => ?_)
  subst hE
  show G X 0 0 n σ ρ 0 [(0, vr X a0), (1, .int a1)] []
  replace hC : Cx X cX12_readsPoint RX12 4 := hC
  unfold MX12_readsPoint at hM
  refine g_aload_n hC dX12_readsPoint_0 rfl 0 rfl ?_
  refine g_aload_n hC dX12_readsPoint_1 rfl 0 rfl ?_
  refine fg_11_0 hC h0 k_1082 dX12_readsPoint_2 rfl hM (fun j1 hj1 hM => ?_)
  refine g_bipush (v := 84) hC dX12_readsPoint_5 rfl ib_84 ?_
  refine g_iald hC hj1 dX12_readsPoint_7 rfl hM (fun x2 hM => ?_)
  refine fp_11_7 hC h0 k_1089 dX12_readsPoint_8 rfl hM (fun σ3 hM => ?_)
  refine g_aload_n hC dX12_readsPoint_11 rfl 0 rfl ?_
  refine g_aload_n hC dX12_readsPoint_12 rfl 0 rfl ?_
  refine g_callVi (As := []) (st' := [vr X a0]) (k := a0) (L' := 0) hC Y_X12_places I_X12_places k_1227 ⟨by decide, by decide⟩ h0 (ci := 11) (by decide) rfl dX12_readsPoint_13 rfl rfl rfl (Nat.le_of_ble_eq_true rfl) ⟨Nat.zero_le _, Nat.zero_le _⟩ hM (fun c hc => c_X12_places (xE X) a0 h0 c hc) (fun c4 hM => ?_)
  refine g_iconst (v := 1) hC dX12_readsPoint_16 rfl ic_1 ?_
  refine g_isub hC dX12_readsPoint_17 rfl ?_
  refine g_callVi (As := [.int ((c4 - (1 : Int32)))]) (st' := []) (k := a0) (L' := 2) hC Y_X12_numeral I_X12_numeral k_1499 ⟨by decide, by decide⟩ h0 (ci := 11) (by decide) rfl dX12_readsPoint_18 rfl rfl rfl (Nat.le_of_ble_eq_true rfl) ⟨Nat.zero_le _, Nat.zero_le _⟩ hM (fun c hc => c_X12_numeral (xE X) a0 h0 ((c4 - (1 : Int32))) c hc) (fun c5 hM => ?_)
  refine g_istore_n hC (fun y6 => [(2, .int y6), (0, vr X a0), (1, .int a1)]) dX12_readsPoint_21 rfl hM hml (by decide) (fun _ => rfl) (fun y6 hM => ?_)
  refine g_aload_n hC dX12_readsPoint_22 rfl 1 rfl ?_
  refine g_callVv0 (As := []) (st' := []) (k := a0) (L' := 3) hC Y_X12_ends I_X12_ends k_1503 ⟨by decide, by decide⟩ h0 (ci := 11) (by decide) rfl dX12_readsPoint_23 rfl rfl rfl (Nat.le_of_ble_eq_true rfl) ⟨Nat.zero_le _, Nat.zero_le _⟩ hM (fun c hc => c_X12_ends (xE X) a0 h0 c hc) (fun c7 hM => ?_)
  refine g_aload_n hC dX12_readsPoint_26 rfl 1 rfl ?_
  refine g_callVi (As := []) (st' := []) (k := a0) (L' := 0) hC Y_X12_isGood I_X12_isGood k_1478 ⟨by decide, by decide⟩ h0 (ci := 11) (by decide) rfl dX12_readsPoint_27 rfl rfl rfl (Nat.le_of_ble_eq_true rfl) ⟨Nat.zero_le _, Nat.zero_le _⟩ hM (fun c hc => c_X12_isGood (xE X) a0 h0 c hc) (fun c8 hM => ?_)
  refine g_if_ne (tgt := 34) hC dX12_readsPoint_30 rfl (by decide) hM (fun hM => ?_) (fun hM => ?_)
  · refine g_aload_n hC dX12_readsPoint_34 rfl 1 rfl ?_
    refine g_bipush (v := 48) hC dX12_readsPoint_35 rfl ib_48 ?_
    refine g_iload_n hC dX12_readsPoint_37 rfl 0 rfl ?_
    refine g_callVi (As := [.int ((48 : Int32)), .int y6]) (st' := []) (k := a0) (L' := 0) hC Y_X12_markOf I_X12_markOf k_1275 ⟨by decide, by decide⟩ h0 (ci := 11) (by decide) rfl dX12_readsPoint_38 rfl rfl rfl (Nat.le_of_ble_eq_true rfl) ⟨Nat.zero_le _, Nat.zero_le _⟩ hM (fun c hc => c_X12_markOf (xE X) a0 h0 ((48 : Int32)) y6 c hc) (fun c9 hM => ?_)
    refine g_iconst (v := -1) hC dX12_readsPoint_41 rfl ic_m1 ?_
    refine g_icmp_ne (tgt := 57) hC dX12_readsPoint_42 rfl (by decide) hM (fun hM => ?_) (fun hM => ?_)
    · exact g_sub [1, 2] ((bX12_readsPoint_57 hC hml hR a0 a1 h0 ) _ hM) rfl
    · refine g_aload_n hC dX12_readsPoint_45 rfl 1 rfl ?_
      refine fg_11_0 hC h0 k_1082 dX12_readsPoint_46 rfl hM (fun j10 hj10 hM => ?_)
      refine g_bipush (v := 85) hC dX12_readsPoint_49 rfl ib_85 ?_
      refine g_iald hC hj10 dX12_readsPoint_51 rfl hM (fun x11 hM => ?_)
      refine g_bipush (v := 8) hC dX12_readsPoint_52 rfl ib_8 ?_
      refine g_icmp_ne (tgt := 64) hC dX12_readsPoint_54 rfl (by decide) hM (fun hM => ?_) (fun hM => ?_)
      · refine g_aload_n hC dX12_readsPoint_64 rfl 1 rfl ?_
        refine fg_11_0 hC h0 k_1082 dX12_readsPoint_65 rfl hM (fun j12 hj12 hM => ?_)
        refine g_bipush (v := 86) hC dX12_readsPoint_68 rfl ib_86 ?_
        refine g_aload_n hC dX12_readsPoint_70 rfl 1 rfl ?_
        refine fg_11_0 hC h0 k_1082 dX12_readsPoint_71 rfl hM (fun j13 hj13 hM => ?_)
        refine g_bipush (v := 85) hC dX12_readsPoint_74 rfl ib_85 ?_
        refine g_iald hC hj13 dX12_readsPoint_76 rfl hM (fun x14 hM => ?_)
        refine g_iadd hC dX12_readsPoint_77 rfl ?_
        refine g_iload_n hC dX12_readsPoint_78 rfl 0 rfl ?_
        refine g_iast hC hj12 dX12_readsPoint_79 rfl hM (fun σ15 hM => ?_)
        refine g_aload_n hC dX12_readsPoint_80 rfl 1 rfl ?_
        refine fg_11_0 hC h0 k_1082 dX12_readsPoint_81 rfl hM (fun j16 hj16 hM => ?_)
        refine g_bipush (v := 85) hC dX12_readsPoint_84 rfl ib_85 ?_
        refine g_dup2 hC dX12_readsPoint_86 rfl rfl rfl ?_
        refine g_iald hC hj16 dX12_readsPoint_87 rfl hM (fun x17 hM => ?_)
        refine g_iconst (v := 1) hC dX12_readsPoint_88 rfl ic_1 ?_
        refine g_iadd hC dX12_readsPoint_89 rfl ?_
        refine g_iast hC hj16 dX12_readsPoint_90 rfl hM (fun σ18 hM => ?_)
        cases hM
        exact g_retv hR dX12_readsPoint_91 rfl
      · exact g_sub [1, 2] ((bX12_readsPoint_57 hC hml hR a0 a1 h0 ) _ hM) rfl
  · cases hM
    exact g_retv hR dX12_readsPoint_33 rfl
def BX12_readsConic_235 (ρ : Rho) (a0 : Nat) (a1 : Int32) (a2 : Int32) (σ : Sto) (v3 : Int32) : Option (Sto) :=
  Option.bind (MX12_whyNot σ ρ a0) fun c1 =>
  if c1 ≤ 0 then
    Option.bind (MX12_takesIts σ ρ a0 ((48 : Int32)) v3) fun c2 =>
    some c2
  else
    Option.bind (MX12_fails σ a0 ((3 : Int32)) a1) fun c3 =>
    some c3
set_option maxHeartbeats 4000000 in
set_option maxRecDepth 100000 in
theorem bX12_readsConic_235 {X : CX} {n : Nat} {ρ : Rho} {res : Sto} (hC : Cx X cX12_readsConic RX12 4) (hml : (xc X).maxLocals = 5) (hR : RtV X cX12_readsConic 0 0 n res ρ) (a0 : Nat) (a1 : Int32) (a2 : Int32) (h0 : Sh n a0 11) : ∀ (σ : Sto) (v3 : Int32), BX12_readsConic_235 ρ a0 a1 a2 σ v3 = some res → G X 0 0 n σ ρ 235 [(0, vr X a0), (1, .int a1), (2, .int a2), (3, .int v3)] [] := by
  intro σ v3 hM
  unfold BX12_readsConic_235 at hM
  refine g_aload_n hC dX12_readsConic_235 rfl 0 rfl ?_
  refine g_callVi (As := []) (st' := []) (k := a0) (L' := 2) hC Y_X12_whyNot I_X12_whyNot k_1183 ⟨by decide, by decide⟩ h0 (ci := 11) (by decide) rfl dX12_readsConic_236 rfl rfl rfl (Nat.le_of_ble_eq_true rfl) ⟨Nat.zero_le _, Nat.zero_le _⟩ hM (fun c hc => c_X12_whyNot (xE X) a0 h0 c hc) (fun c1 hM => ?_)
  refine g_if_le (tgt := 251) hC dX12_readsConic_239 rfl (by decide) hM (fun hM => ?_) (fun hM => ?_)
  · refine g_aload_n hC dX12_readsConic_251 rfl 0 rfl ?_
    refine g_bipush (v := 48) hC dX12_readsConic_252 rfl ib_48 ?_
    refine g_iload_n hC dX12_readsConic_254 rfl 3 rfl ?_
    refine g_callVv0 (As := [.int ((48 : Int32)), .int v3]) (st' := []) (k := a0) (L' := 0) hC Y_X12_takesIts I_X12_takesIts k_1187 ⟨by decide, by decide⟩ h0 (ci := 11) (by decide) rfl dX12_readsConic_255 rfl rfl rfl (Nat.le_of_ble_eq_true rfl) ⟨Nat.zero_le _, Nat.zero_le _⟩ hM (fun c hc => c_X12_takesIts (xE X) a0 h0 ((48 : Int32)) v3 c hc) (fun c2 hM => ?_)
    cases hM
    exact g_retv hR dX12_readsConic_258 rfl
  · refine g_aload_n hC dX12_readsConic_242 rfl 0 rfl ?_
    refine g_iconst (v := 3) hC dX12_readsConic_243 rfl ic_3 ?_
    refine g_iload_n hC dX12_readsConic_244 rfl 1 rfl ?_
    refine g_callVv0 (As := [.int ((3 : Int32)), .int a1]) (st' := []) (k := a0) (L' := 0) hC Y_X12_fails I_X12_fails k_1495 ⟨by decide, by decide⟩ h0 (ci := 11) (by decide) rfl dX12_readsConic_245 rfl rfl rfl (Nat.le_of_ble_eq_true rfl) ⟨Nat.zero_le _, Nat.zero_le _⟩ hM (fun c hc => c_X12_fails (xE X) a0 h0 ((3 : Int32)) a1 c hc) (fun c3 hM => ?_)
    refine g_goto (tgt := 258) hC dX12_readsConic_248 rfl (by decide) ?_
    cases hM
    exact g_retv hR dX12_readsConic_258 rfl
def BX12_readsConic_75 (ρ : Rho) (a0 : Nat) (a1 : Int32) (a2 : Int32) (σ : Sto) (v3 : Int32) : Option (Sto) :=
  if a2 = 0 then
    BX12_readsConic_235 ρ a0 a1 a2 σ v3
  else
    Option.bind (ρ a0 13) fun j1 =>
    Option.bind (ρ a0 19) fun j2 =>
    Option.bind (ag σ j2 ((0 : Int32))) fun x3 =>
    Option.bind (ρ a0 19) fun j4 =>
    Option.bind (ag σ j4 ((3 : Int32))) fun x5 =>
    Option.bind (ap σ j1 ((0 : Int32)) ((x3 * x5))) fun σ6 =>
    Option.bind (ρ a0 13) fun j7 =>
    Option.bind (ρ a0 19) fun j8 =>
    Option.bind (ag σ6 j8 ((1 : Int32))) fun x9 =>
    Option.bind (ρ a0 19) fun j10 =>
    Option.bind (ag σ6 j10 ((4 : Int32))) fun x11 =>
    Option.bind (ap σ6 j7 ((1 : Int32)) ((x9 * x11))) fun σ12 =>
    Option.bind (ρ a0 13) fun j13 =>
    Option.bind (ρ a0 19) fun j14 =>
    Option.bind (ag σ12 j14 ((2 : Int32))) fun x15 =>
    Option.bind (ρ a0 19) fun j16 =>
    Option.bind (ag σ12 j16 ((5 : Int32))) fun x17 =>
    Option.bind (ap σ12 j13 ((2 : Int32)) ((x15 * x17))) fun σ18 =>
    Option.bind (ρ a0 13) fun j19 =>
    Option.bind (ρ a0 19) fun j20 =>
    Option.bind (ag σ18 j20 ((1 : Int32))) fun x21 =>
    Option.bind (ρ a0 19) fun j22 =>
    Option.bind (ag σ18 j22 ((5 : Int32))) fun x23 =>
    Option.bind (ρ a0 19) fun j24 =>
    Option.bind (ag σ18 j24 ((2 : Int32))) fun x25 =>
    Option.bind (ρ a0 19) fun j26 =>
    Option.bind (ag σ18 j26 ((4 : Int32))) fun x27 =>
    Option.bind (ap σ18 j19 ((3 : Int32)) (((x21 * x23) + (x25 * x27)))) fun σ28 =>
    Option.bind (ρ a0 13) fun j29 =>
    Option.bind (ρ a0 19) fun j30 =>
    Option.bind (ag σ28 j30 ((2 : Int32))) fun x31 =>
    Option.bind (ρ a0 19) fun j32 =>
    Option.bind (ag σ28 j32 ((3 : Int32))) fun x33 =>
    Option.bind (ρ a0 19) fun j34 =>
    Option.bind (ag σ28 j34 ((0 : Int32))) fun x35 =>
    Option.bind (ρ a0 19) fun j36 =>
    Option.bind (ag σ28 j36 ((5 : Int32))) fun x37 =>
    Option.bind (ap σ28 j29 ((4 : Int32)) (((x31 * x33) + (x35 * x37)))) fun σ38 =>
    Option.bind (ρ a0 13) fun j39 =>
    Option.bind (ρ a0 19) fun j40 =>
    Option.bind (ag σ38 j40 ((0 : Int32))) fun x41 =>
    Option.bind (ρ a0 19) fun j42 =>
    Option.bind (ag σ38 j42 ((4 : Int32))) fun x43 =>
    Option.bind (ρ a0 19) fun j44 =>
    Option.bind (ag σ38 j44 ((1 : Int32))) fun x45 =>
    Option.bind (ρ a0 19) fun j46 =>
    Option.bind (ag σ38 j46 ((3 : Int32))) fun x47 =>
    Option.bind (ap σ38 j39 ((5 : Int32)) (((x41 * x43) + (x45 * x47)))) fun σ48 =>
    BX12_readsConic_235 ρ a0 a1 a2 σ48 v3
set_option maxHeartbeats 4000000 in
set_option maxRecDepth 100000 in
theorem bX12_readsConic_75 {X : CX} {n : Nat} {ρ : Rho} {res : Sto} (hC : Cx X cX12_readsConic RX12 4) (hml : (xc X).maxLocals = 5) (hR : RtV X cX12_readsConic 0 0 n res ρ) (a0 : Nat) (a1 : Int32) (a2 : Int32) (h0 : Sh n a0 11) : ∀ (σ : Sto) (v3 : Int32), BX12_readsConic_75 ρ a0 a1 a2 σ v3 = some res → G X 0 0 n σ ρ 75 [(0, vr X a0), (1, .int a1), (2, .int a2), (3, .int v3)] [] := by
  intro σ v3 hM
  unfold BX12_readsConic_75 at hM
  refine g_iload_n hC dX12_readsConic_75 rfl 2 rfl ?_
  refine g_if_eq (tgt := 235) hC dX12_readsConic_76 rfl (by decide) hM (fun hM => ?_) (fun hM => ?_)
  · exact g_sub [0, 1, 2, 3] ((bX12_readsConic_235 hC hml hR a0 a1 a2 h0 ) _ _ hM) rfl
  · refine g_aload_n hC dX12_readsConic_79 rfl 0 rfl ?_
    refine fg_11_13 hC h0 k_1095 dX12_readsConic_80 rfl hM (fun j1 hj1 hM => ?_)
    refine g_iconst (v := 0) hC dX12_readsConic_83 rfl ic_0 ?_
    refine g_aload_n hC dX12_readsConic_84 rfl 0 rfl ?_
    refine fg_11_19 hC h0 k_1101 dX12_readsConic_85 rfl hM (fun j2 hj2 hM => ?_)
    refine g_iconst (v := 0) hC dX12_readsConic_88 rfl ic_0 ?_
    refine g_iald hC hj2 dX12_readsConic_89 rfl hM (fun x3 hM => ?_)
    refine g_aload_n hC dX12_readsConic_90 rfl 0 rfl ?_
    refine fg_11_19 hC h0 k_1101 dX12_readsConic_91 rfl hM (fun j4 hj4 hM => ?_)
    refine g_iconst (v := 3) hC dX12_readsConic_94 rfl ic_3 ?_
    refine g_iald hC hj4 dX12_readsConic_95 rfl hM (fun x5 hM => ?_)
    refine g_imul hC dX12_readsConic_96 rfl ?_
    refine g_iast hC hj1 dX12_readsConic_97 rfl hM (fun σ6 hM => ?_)
    refine g_aload_n hC dX12_readsConic_98 rfl 0 rfl ?_
    refine fg_11_13 hC h0 k_1095 dX12_readsConic_99 rfl hM (fun j7 hj7 hM => ?_)
    refine g_iconst (v := 1) hC dX12_readsConic_102 rfl ic_1 ?_
    refine g_aload_n hC dX12_readsConic_103 rfl 0 rfl ?_
    refine fg_11_19 hC h0 k_1101 dX12_readsConic_104 rfl hM (fun j8 hj8 hM => ?_)
    refine g_iconst (v := 1) hC dX12_readsConic_107 rfl ic_1 ?_
    refine g_iald hC hj8 dX12_readsConic_108 rfl hM (fun x9 hM => ?_)
    refine g_aload_n hC dX12_readsConic_109 rfl 0 rfl ?_
    refine fg_11_19 hC h0 k_1101 dX12_readsConic_110 rfl hM (fun j10 hj10 hM => ?_)
    refine g_iconst (v := 4) hC dX12_readsConic_113 rfl ic_4 ?_
    refine g_iald hC hj10 dX12_readsConic_114 rfl hM (fun x11 hM => ?_)
    refine g_imul hC dX12_readsConic_115 rfl ?_
    refine g_iast hC hj7 dX12_readsConic_116 rfl hM (fun σ12 hM => ?_)
    refine g_aload_n hC dX12_readsConic_117 rfl 0 rfl ?_
    refine fg_11_13 hC h0 k_1095 dX12_readsConic_118 rfl hM (fun j13 hj13 hM => ?_)
    refine g_iconst (v := 2) hC dX12_readsConic_121 rfl ic_2 ?_
    refine g_aload_n hC dX12_readsConic_122 rfl 0 rfl ?_
    refine fg_11_19 hC h0 k_1101 dX12_readsConic_123 rfl hM (fun j14 hj14 hM => ?_)
    refine g_iconst (v := 2) hC dX12_readsConic_126 rfl ic_2 ?_
    refine g_iald hC hj14 dX12_readsConic_127 rfl hM (fun x15 hM => ?_)
    refine g_aload_n hC dX12_readsConic_128 rfl 0 rfl ?_
    refine fg_11_19 hC h0 k_1101 dX12_readsConic_129 rfl hM (fun j16 hj16 hM => ?_)
    refine g_iconst (v := 5) hC dX12_readsConic_132 rfl ic_5 ?_
    refine g_iald hC hj16 dX12_readsConic_133 rfl hM (fun x17 hM => ?_)
    refine g_imul hC dX12_readsConic_134 rfl ?_
    refine g_iast hC hj13 dX12_readsConic_135 rfl hM (fun σ18 hM => ?_)
    refine g_aload_n hC dX12_readsConic_136 rfl 0 rfl ?_
    refine fg_11_13 hC h0 k_1095 dX12_readsConic_137 rfl hM (fun j19 hj19 hM => ?_)
    refine g_iconst (v := 3) hC dX12_readsConic_140 rfl ic_3 ?_
    refine g_aload_n hC dX12_readsConic_141 rfl 0 rfl ?_
    refine fg_11_19 hC h0 k_1101 dX12_readsConic_142 rfl hM (fun j20 hj20 hM => ?_)
    refine g_iconst (v := 1) hC dX12_readsConic_145 rfl ic_1 ?_
    refine g_iald hC hj20 dX12_readsConic_146 rfl hM (fun x21 hM => ?_)
    refine g_aload_n hC dX12_readsConic_147 rfl 0 rfl ?_
    refine fg_11_19 hC h0 k_1101 dX12_readsConic_148 rfl hM (fun j22 hj22 hM => ?_)
    refine g_iconst (v := 5) hC dX12_readsConic_151 rfl ic_5 ?_
    refine g_iald hC hj22 dX12_readsConic_152 rfl hM (fun x23 hM => ?_)
    refine g_imul hC dX12_readsConic_153 rfl ?_
    refine g_aload_n hC dX12_readsConic_154 rfl 0 rfl ?_
    refine fg_11_19 hC h0 k_1101 dX12_readsConic_155 rfl hM (fun j24 hj24 hM => ?_)
    refine g_iconst (v := 2) hC dX12_readsConic_158 rfl ic_2 ?_
    refine g_iald hC hj24 dX12_readsConic_159 rfl hM (fun x25 hM => ?_)
    refine g_aload_n hC dX12_readsConic_160 rfl 0 rfl ?_
    refine fg_11_19 hC h0 k_1101 dX12_readsConic_161 rfl hM (fun j26 hj26 hM => ?_)
    refine g_iconst (v := 4) hC dX12_readsConic_164 rfl ic_4 ?_
    refine g_iald hC hj26 dX12_readsConic_165 rfl hM (fun x27 hM => ?_)
    refine g_imul hC dX12_readsConic_166 rfl ?_
    refine g_iadd hC dX12_readsConic_167 rfl ?_
    refine g_iast hC hj19 dX12_readsConic_168 rfl hM (fun σ28 hM => ?_)
    refine g_aload_n hC dX12_readsConic_169 rfl 0 rfl ?_
    refine fg_11_13 hC h0 k_1095 dX12_readsConic_170 rfl hM (fun j29 hj29 hM => ?_)
    refine g_iconst (v := 4) hC dX12_readsConic_173 rfl ic_4 ?_
    refine g_aload_n hC dX12_readsConic_174 rfl 0 rfl ?_
    refine fg_11_19 hC h0 k_1101 dX12_readsConic_175 rfl hM (fun j30 hj30 hM => ?_)
    refine g_iconst (v := 2) hC dX12_readsConic_178 rfl ic_2 ?_
    refine g_iald hC hj30 dX12_readsConic_179 rfl hM (fun x31 hM => ?_)
    refine g_aload_n hC dX12_readsConic_180 rfl 0 rfl ?_
    refine fg_11_19 hC h0 k_1101 dX12_readsConic_181 rfl hM (fun j32 hj32 hM => ?_)
    refine g_iconst (v := 3) hC dX12_readsConic_184 rfl ic_3 ?_
    refine g_iald hC hj32 dX12_readsConic_185 rfl hM (fun x33 hM => ?_)
    refine g_imul hC dX12_readsConic_186 rfl ?_
    refine g_aload_n hC dX12_readsConic_187 rfl 0 rfl ?_
    refine fg_11_19 hC h0 k_1101 dX12_readsConic_188 rfl hM (fun j34 hj34 hM => ?_)
    refine g_iconst (v := 0) hC dX12_readsConic_191 rfl ic_0 ?_
    refine g_iald hC hj34 dX12_readsConic_192 rfl hM (fun x35 hM => ?_)
    refine g_aload_n hC dX12_readsConic_193 rfl 0 rfl ?_
    refine fg_11_19 hC h0 k_1101 dX12_readsConic_194 rfl hM (fun j36 hj36 hM => ?_)
    refine g_iconst (v := 5) hC dX12_readsConic_197 rfl ic_5 ?_
    refine g_iald hC hj36 dX12_readsConic_198 rfl hM (fun x37 hM => ?_)
    refine g_imul hC dX12_readsConic_199 rfl ?_
    refine g_iadd hC dX12_readsConic_200 rfl ?_
    refine g_iast hC hj29 dX12_readsConic_201 rfl hM (fun σ38 hM => ?_)
    refine g_aload_n hC dX12_readsConic_202 rfl 0 rfl ?_
    refine fg_11_13 hC h0 k_1095 dX12_readsConic_203 rfl hM (fun j39 hj39 hM => ?_)
    refine g_iconst (v := 5) hC dX12_readsConic_206 rfl ic_5 ?_
    refine g_aload_n hC dX12_readsConic_207 rfl 0 rfl ?_
    refine fg_11_19 hC h0 k_1101 dX12_readsConic_208 rfl hM (fun j40 hj40 hM => ?_)
    refine g_iconst (v := 0) hC dX12_readsConic_211 rfl ic_0 ?_
    refine g_iald hC hj40 dX12_readsConic_212 rfl hM (fun x41 hM => ?_)
    refine g_aload_n hC dX12_readsConic_213 rfl 0 rfl ?_
    refine fg_11_19 hC h0 k_1101 dX12_readsConic_214 rfl hM (fun j42 hj42 hM => ?_)
    refine g_iconst (v := 4) hC dX12_readsConic_217 rfl ic_4 ?_
    refine g_iald hC hj42 dX12_readsConic_218 rfl hM (fun x43 hM => ?_)
    refine g_imul hC dX12_readsConic_219 rfl ?_
    refine g_aload_n hC dX12_readsConic_220 rfl 0 rfl ?_
    refine fg_11_19 hC h0 k_1101 dX12_readsConic_221 rfl hM (fun j44 hj44 hM => ?_)
    refine g_iconst (v := 1) hC dX12_readsConic_224 rfl ic_1 ?_
    refine g_iald hC hj44 dX12_readsConic_225 rfl hM (fun x45 hM => ?_)
    refine g_aload_n hC dX12_readsConic_226 rfl 0 rfl ?_
    refine fg_11_19 hC h0 k_1101 dX12_readsConic_227 rfl hM (fun j46 hj46 hM => ?_)
    refine g_iconst (v := 3) hC dX12_readsConic_230 rfl ic_3 ?_
    refine g_iald hC hj46 dX12_readsConic_231 rfl hM (fun x47 hM => ?_)
    refine g_imul hC dX12_readsConic_232 rfl ?_
    refine g_iadd hC dX12_readsConic_233 rfl ?_
    refine g_iast hC hj39 dX12_readsConic_234 rfl hM (fun σ48 hM => ?_)
    exact g_sub [0, 1, 2, 3] ((bX12_readsConic_235 hC hml hR a0 a1 a2 h0 ) _ _ hM) rfl
def FX12_readsConic_48 (ρ : Rho) (a0 : Nat) (a1 : Int32) (a2 : Int32) (k75 : Sto → Int32 → Option (Sto)) (rec : Sto → Int32 → Int32 → Option (Sto)) (σ : Sto) (v3 : Int32) (v4 : Int32) : Option (Sto) :=
  if (6 : Int32) ≤ v4 then
    k75 σ v3
  else
    Option.bind (ρ a0 13) fun j1 =>
    Option.bind (ρ a0 19) fun j2 =>
    Option.bind (ag σ j2 v4) fun x3 =>
    Option.bind (ap σ j1 v4 x3) fun σ4 =>
    bn (v4 + (1 : Int32)) fun y5 =>
    rec σ4 v3 y5
set_option maxHeartbeats 4000000 in
set_option maxRecDepth 100000 in
theorem bX12_readsConic_48 {X : CX} {n : Nat} {ρ : Rho} {res : Sto} (hC : Cx X cX12_readsConic RX12 4) (hml : (xc X).maxLocals = 5) (hR : RtV X cX12_readsConic 0 0 n res ρ) (a0 : Nat) (a1 : Int32) (a2 : Int32) (h0 : Sh n a0 11) (k75 : Sto → Int32 → Option (Sto)) (hk75 : ∀ (σ : Sto) (v3 : Int32), k75 σ v3 = some res → G X 0 0 n σ ρ 75 [(0, vr X a0), (1, .int a1), (2, .int a2), (3, .int v3)] []) (fu : Nat) : ∀ (σ : Sto) (v3 : Int32) (v4 : Int32), fixN (fun _ _ _ => none) (FX12_readsConic_48 ρ a0 a1 a2 k75) fu σ v3 v4 = some res → G X 0 0 n σ ρ 48 [(0, vr X a0), (1, .int a1), (2, .int a2), (3, .int v3), (4, .int v4)] [] := by
  refine fixN_ind (P := fun (f : Sto → Int32 → Int32 → Option (Sto)) => ∀ (σ : Sto) (v3 : Int32) (v4 : Int32), f σ v3 v4 = some res → G X 0 0 n σ ρ 48 [(0, vr X a0), (1, .int a1), (2, .int a2), (3, .int v3), (4, .int v4)] []) ?_ ?_ fu
  · intro σ v3 v4 hM; cases hM
  · intro rec ih σ v3 v4 hM
    unfold FX12_readsConic_48 at hM
    refine g_iload hC dX12_readsConic_48 rfl 4 rfl ?_
    refine g_bipush (v := 6) hC dX12_readsConic_50 rfl ib_6 ?_
    refine g_icmp_ge (tgt := 75) hC dX12_readsConic_52 rfl (by decide) hM (fun hM => ?_) (fun hM => ?_)
    · exact g_sub [0, 1, 2, 3] (hk75 _ _ hM) rfl
    · refine g_aload_n hC dX12_readsConic_55 rfl 0 rfl ?_
      refine fg_11_13 hC h0 k_1095 dX12_readsConic_56 rfl hM (fun j1 hj1 hM => ?_)
      refine g_iload hC dX12_readsConic_59 rfl 4 rfl ?_
      refine g_aload_n hC dX12_readsConic_61 rfl 0 rfl ?_
      refine fg_11_19 hC h0 k_1101 dX12_readsConic_62 rfl hM (fun j2 hj2 hM => ?_)
      refine g_iload hC dX12_readsConic_65 rfl 4 rfl ?_
      refine g_iald hC hj2 dX12_readsConic_67 rfl hM (fun x3 hM => ?_)
      refine g_iast hC hj1 dX12_readsConic_68 rfl hM (fun σ4 hM => ?_)
      refine g_iinc (v := 1) hC (fun y5 => [(4, .int y5), (0, vr X a0), (1, .int a1), (2, .int a2), (3, .int v3)]) dX12_readsConic_69 rfl hM (j := 4) rfl ic_1 hml (by decide) (fun _ => rfl) (fun y5 hM => ?_)
      refine g_goto (tgt := 48) hC dX12_readsConic_72 rfl (by decide) ?_
      exact g_sub [1, 2, 3, 4, 0] (ih _ _ _ hM) rfl
def BX12_readsConic_33 (ρ : Rho) (a0 : Nat) (a1 : Int32) (a2 : Int32) (σ : Sto) (v3 : Int32) : Option (Sto) :=
  Option.bind (MX12_ends σ ρ a0) fun c1 =>
  Option.bind (MX12_isGood c1 a0) fun c2 =>
  if c2 = 0 then
    some c1
  else
    bn ((0 : Int32)) fun y3 =>
    fixN (fun _ _ _ => none) (FX12_readsConic_48 ρ a0 a1 a2 (BX12_readsConic_75 ρ a0 a1 a2)) FU c1 v3 y3
set_option maxHeartbeats 4000000 in
set_option maxRecDepth 100000 in
theorem bX12_readsConic_33 {X : CX} {n : Nat} {ρ : Rho} {res : Sto} (hC : Cx X cX12_readsConic RX12 4) (hml : (xc X).maxLocals = 5) (hR : RtV X cX12_readsConic 0 0 n res ρ) (a0 : Nat) (a1 : Int32) (a2 : Int32) (h0 : Sh n a0 11) : ∀ (σ : Sto) (v3 : Int32), BX12_readsConic_33 ρ a0 a1 a2 σ v3 = some res → G X 0 0 n σ ρ 33 [(0, vr X a0), (1, .int a1), (2, .int a2), (3, .int v3)] [] := by
  intro σ v3 hM
  unfold BX12_readsConic_33 at hM
  refine g_aload_n hC dX12_readsConic_33 rfl 0 rfl ?_
  refine g_callVv0 (As := []) (st' := []) (k := a0) (L' := 3) hC Y_X12_ends I_X12_ends k_1503 ⟨by decide, by decide⟩ h0 (ci := 11) (by decide) rfl dX12_readsConic_34 rfl rfl rfl (Nat.le_of_ble_eq_true rfl) ⟨Nat.zero_le _, Nat.zero_le _⟩ hM (fun c hc => c_X12_ends (xE X) a0 h0 c hc) (fun c1 hM => ?_)
  refine g_aload_n hC dX12_readsConic_37 rfl 0 rfl ?_
  refine g_callVi (As := []) (st' := []) (k := a0) (L' := 0) hC Y_X12_isGood I_X12_isGood k_1478 ⟨by decide, by decide⟩ h0 (ci := 11) (by decide) rfl dX12_readsConic_38 rfl rfl rfl (Nat.le_of_ble_eq_true rfl) ⟨Nat.zero_le _, Nat.zero_le _⟩ hM (fun c hc => c_X12_isGood (xE X) a0 h0 c hc) (fun c2 hM => ?_)
  refine g_if_ne (tgt := 45) hC dX12_readsConic_41 rfl (by decide) hM (fun hM => ?_) (fun hM => ?_)
  · refine g_iconst (v := 0) hC dX12_readsConic_45 rfl ic_0 ?_
    refine g_istore hC (fun y3 => [(4, .int y3), (0, vr X a0), (1, .int a1), (2, .int a2), (3, .int v3)]) dX12_readsConic_46 rfl hM hml (by decide) (fun _ => rfl) (fun y3 hM => ?_)
    exact g_sub [1, 2, 3, 4, 0] ((bX12_readsConic_48 hC hml hR a0 a1 a2 h0 (BX12_readsConic_75 ρ a0 a1 a2) (bX12_readsConic_75 hC hml hR a0 a1 a2 h0 ) FU) _ _ _ hM) rfl
  · cases hM
    exact g_retv hR dX12_readsConic_44 rfl
def FX12_readsConic_9 (ρ : Rho) (a0 : Nat) (a1 : Int32) (a2 : Int32) (k33 : Sto → Int32 → Option (Sto)) (rec : Sto → Int32 → Int32 → Option (Sto)) (σ : Sto) (v3 : Int32) (v4 : Int32) : Option (Sto) :=
  if (6 : Int32) ≤ v4 then
    k33 σ v3
  else
    Option.bind (ρ a0 19) fun j1 =>
    Option.bind (MX12_signed σ ρ a0) fun c2 =>
    Option.bind (ap c2.2 j1 v4 c2.1) fun σ3 =>
    bn (v4 + (1 : Int32)) fun y4 =>
    rec σ3 v3 y4
set_option maxHeartbeats 4000000 in
set_option maxRecDepth 100000 in
theorem bX12_readsConic_9 {X : CX} {n : Nat} {ρ : Rho} {res : Sto} (hC : Cx X cX12_readsConic RX12 4) (hml : (xc X).maxLocals = 5) (hR : RtV X cX12_readsConic 0 0 n res ρ) (a0 : Nat) (a1 : Int32) (a2 : Int32) (h0 : Sh n a0 11) (k33 : Sto → Int32 → Option (Sto)) (hk33 : ∀ (σ : Sto) (v3 : Int32), k33 σ v3 = some res → G X 0 0 n σ ρ 33 [(0, vr X a0), (1, .int a1), (2, .int a2), (3, .int v3)] []) (fu : Nat) : ∀ (σ : Sto) (v3 : Int32) (v4 : Int32), fixN (fun _ _ _ => none) (FX12_readsConic_9 ρ a0 a1 a2 k33) fu σ v3 v4 = some res → G X 0 0 n σ ρ 9 [(0, vr X a0), (1, .int a1), (2, .int a2), (3, .int v3), (4, .int v4)] [] := by
  refine fixN_ind (P := fun (f : Sto → Int32 → Int32 → Option (Sto)) => ∀ (σ : Sto) (v3 : Int32) (v4 : Int32), f σ v3 v4 = some res → G X 0 0 n σ ρ 9 [(0, vr X a0), (1, .int a1), (2, .int a2), (3, .int v3), (4, .int v4)] []) ?_ ?_ fu
  · intro σ v3 v4 hM; cases hM
  · intro rec ih σ v3 v4 hM
    unfold FX12_readsConic_9 at hM
    refine g_iload hC dX12_readsConic_9 rfl 4 rfl ?_
    refine g_bipush (v := 6) hC dX12_readsConic_11 rfl ib_6 ?_
    refine g_icmp_ge (tgt := 33) hC dX12_readsConic_13 rfl (by decide) hM (fun hM => ?_) (fun hM => ?_)
    · exact g_sub [0, 1, 2, 3] (hk33 _ _ hM) rfl
    · refine g_aload_n hC dX12_readsConic_16 rfl 0 rfl ?_
      refine fg_11_19 hC h0 k_1101 dX12_readsConic_17 rfl hM (fun j1 hj1 hM => ?_)
      refine g_iload hC dX12_readsConic_20 rfl 4 rfl ?_
      refine g_aload_n hC dX12_readsConic_22 rfl 0 rfl ?_
      refine g_callVi (As := []) (st' := [.int v4, vr X j1]) (k := a0) (L' := 3) hC Y_X12_signed I_X12_signed k_1521 ⟨by decide, by decide⟩ h0 (ci := 11) (by decide) rfl dX12_readsConic_23 rfl rfl rfl (Nat.le_of_ble_eq_true rfl) ⟨Nat.zero_le _, Nat.zero_le _⟩ hM (fun c hc => c_X12_signed (xE X) a0 h0 c hc) (fun c2 hM => ?_)
      refine g_iast hC hj1 dX12_readsConic_26 rfl hM (fun σ3 hM => ?_)
      refine g_iinc (v := 1) hC (fun y4 => [(4, .int y4), (0, vr X a0), (1, .int a1), (2, .int a2), (3, .int v3)]) dX12_readsConic_27 rfl hM (j := 4) rfl ic_1 hml (by decide) (fun _ => rfl) (fun y4 hM => ?_)
      refine g_goto (tgt := 9) hC dX12_readsConic_30 rfl (by decide) ?_
      exact g_sub [1, 2, 3, 4, 0] (ih _ _ _ hM) rfl
def MX12_readsConic (σ : Sto) (ρ : Rho) (a0 : Nat) (a1 : Int32) (a2 : Int32) : Option (Sto) :=
  Option.bind (MX12_numeral σ ρ a0 ((5 : Int32))) fun c1 =>
  bn c1.1 fun y2 =>
  bn ((0 : Int32)) fun y3 =>
  fixN (fun _ _ _ => none) (FX12_readsConic_9 ρ a0 a1 a2 (BX12_readsConic_33 ρ a0 a1 a2)) FU c1.2 y2 y3
set_option maxHeartbeats 4000000 in
set_option maxRecDepth 100000 in
theorem c_X12_readsConic (E : EX) {n : Nat} {σ : Sto} {ρ : Rho} (a0 : Nat) (h0 : Sh n a0 11) (a1 : Int32) (a2 : Int32) (res : Sto) (hM : MX12_readsConic σ ρ a0 a1 a2 = some res) : CTv E yX12_readsConic cX12_readsConic 5 4 0 0 [.ref (eb E + a0), .int a1, .int a2] n σ ρ res ρ := by
  refine ct_v (by decide +kernel) (Nat.le_of_ble_eq_true rfl) (fun X hE hml hin hRm hC hR => ?_)
  subst hE
  show G X 0 0 n σ ρ 0 [(0, vr X a0), (1, .int a1), (2, .int a2)] []
  replace hC : Cx X cX12_readsConic RX12 4 := hC
  unfold MX12_readsConic at hM
  refine g_aload_n hC dX12_readsConic_0 rfl 0 rfl ?_
  refine g_iconst (v := 5) hC dX12_readsConic_1 rfl ic_5 ?_
  refine g_callVi (As := [.int ((5 : Int32))]) (st' := []) (k := a0) (L' := 2) hC Y_X12_numeral I_X12_numeral k_1499 ⟨by decide, by decide⟩ h0 (ci := 11) (by decide) rfl dX12_readsConic_2 rfl rfl rfl (Nat.le_of_ble_eq_true rfl) ⟨Nat.zero_le _, Nat.zero_le _⟩ hM (fun c hc => c_X12_numeral (xE X) a0 h0 ((5 : Int32)) c hc) (fun c1 hM => ?_)
  refine g_istore_n hC (fun y2 => [(3, .int y2), (0, vr X a0), (1, .int a1), (2, .int a2)]) dX12_readsConic_5 rfl hM hml (by decide) (fun _ => rfl) (fun y2 hM => ?_)
  refine g_iconst (v := 0) hC dX12_readsConic_6 rfl ic_0 ?_
  refine g_istore hC (fun y3 => [(4, .int y3), (3, .int y2), (0, vr X a0), (1, .int a1), (2, .int a2)]) dX12_readsConic_7 rfl hM hml (by decide) (fun _ => rfl) (fun y3 hM => ?_)
  exact g_sub [2, 3, 4, 1, 0] ((bX12_readsConic_9 hC hml hR a0 a1 a2 h0 (BX12_readsConic_33 ρ a0 a1 a2) (bX12_readsConic_33 hC hml hR a0 a1 a2 h0 ) FU) _ _ _ hM) rfl
def MX12_readsLine (σ : Sto) (ρ : Rho) (a0 : Nat) : Option (Sto) :=
  bn ((σ a0 17)) fun y1 =>
  Option.bind (MX12_hasWord σ ρ a0 ((8864267 : Int64))) fun c2 =>
  if c2.1 = 0 then
    Option.bind (MX12_hasWord c2.2 ρ a0 ((8805260 : Int64))) fun c3 =>
    if c3.1 = 0 then
      Option.bind (MX12_hasWord c3.2 ρ a0 ((1900020 : Int64))) fun c4 =>
      if c4.1 = 0 then
        Option.bind (MX12_hasWord c4.2 ρ a0 ((315918 : Int64))) fun c5 =>
        if c5.1 = 0 then
          Option.bind (MX12_fails c5.2 a0 ((1 : Int32)) ((c5.2 a0 17))) fun c6 =>
          some c6
        else
          Option.bind (MX12_readsConic c5.2 ρ a0 y1 ((1 : Int32))) fun c7 =>
          some c7
      else
        Option.bind (MX12_readsConic c4.2 ρ a0 y1 ((0 : Int32))) fun c8 =>
        some c8
    else
      Option.bind (MX12_readsPoint c3.2 ρ a0 y1) fun c9 =>
      some c9
  else
    Option.bind (MX12_readsPrime c2.2 ρ a0) fun c10 =>
    some c10
set_option maxHeartbeats 4000000 in
set_option maxRecDepth 100000 in
theorem c_X12_readsLine (E : EX) {n : Nat} {σ : Sto} {ρ : Rho} (a0 : Nat) (h0 : Sh n a0 11) (res : Sto) (hM : MX12_readsLine σ ρ a0 = some res) : CTv E yX12_readsLine cX12_readsLine 2 5 0 0 [.ref (eb E + a0)] n σ ρ res ρ := by
  refine ct_v (by decide +kernel) (Nat.le_of_ble_eq_true rfl) (fun X hE hml hin hRm hC hR => ?_)
  subst hE
  show G X 0 0 n σ ρ 0 [(0, vr X a0)] []
  replace hC : Cx X cX12_readsLine RX12 5 := hC
  unfold MX12_readsLine at hM
  refine g_aload_n hC dX12_readsLine_0 rfl 0 rfl ?_
  refine fg_11_17 hC h0 k_1099 dX12_readsLine_1 rfl ?_
  refine g_istore_n hC (fun y1 => [(1, .int y1), (0, vr X a0)]) dX12_readsLine_4 rfl hM hml (by decide) (fun _ => rfl) (fun y1 hM => ?_)
  refine g_aload_n hC dX12_readsLine_5 rfl 1 rfl ?_
  refine g_ldc2 hC k_1486 dX12_readsLine_6 rfl ?_
  refine g_callVi (As := [.long ((8864267 : Int64))]) (st' := []) (k := a0) (L' := 2) hC Y_X12_hasWord I_X12_hasWord k_1487 ⟨by decide, by decide⟩ h0 (ci := 11) (by decide) rfl dX12_readsLine_9 rfl rfl rfl (Nat.le_of_ble_eq_true rfl) ⟨Nat.zero_le _, Nat.zero_le _⟩ hM (fun c hc => c_X12_hasWord (xE X) a0 h0 ((8864267 : Int64)) c hc) (fun c2 hM => ?_)
  refine g_if_eq (tgt := 22) hC dX12_readsLine_12 rfl (by decide) hM (fun hM => ?_) (fun hM => ?_)
  · refine g_aload_n hC dX12_readsLine_22 rfl 1 rfl ?_
    refine g_ldc2 hC k_1511 dX12_readsLine_23 rfl ?_
    refine g_callVi (As := [.long ((8805260 : Int64))]) (st' := []) (k := a0) (L' := 2) hC Y_X12_hasWord I_X12_hasWord k_1487 ⟨by decide, by decide⟩ h0 (ci := 11) (by decide) rfl dX12_readsLine_26 rfl rfl rfl (Nat.le_of_ble_eq_true rfl) ⟨Nat.zero_le _, Nat.zero_le _⟩ hM (fun c hc => c_X12_hasWord (xE X) a0 h0 ((8805260 : Int64)) c hc) (fun c3 hM => ?_)
    refine g_if_eq (tgt := 40) hC dX12_readsLine_29 rfl (by decide) hM (fun hM => ?_) (fun hM => ?_)
    · refine g_aload_n hC dX12_readsLine_40 rfl 1 rfl ?_
      refine g_ldc2 hC k_1516 dX12_readsLine_41 rfl ?_
      refine g_callVi (As := [.long ((1900020 : Int64))]) (st' := []) (k := a0) (L' := 2) hC Y_X12_hasWord I_X12_hasWord k_1487 ⟨by decide, by decide⟩ h0 (ci := 11) (by decide) rfl dX12_readsLine_44 rfl rfl rfl (Nat.le_of_ble_eq_true rfl) ⟨Nat.zero_le _, Nat.zero_le _⟩ hM (fun c hc => c_X12_hasWord (xE X) a0 h0 ((1900020 : Int64)) c hc) (fun c4 hM => ?_)
      refine g_if_eq (tgt := 59) hC dX12_readsLine_47 rfl (by decide) hM (fun hM => ?_) (fun hM => ?_)
      · refine g_aload_n hC dX12_readsLine_59 rfl 1 rfl ?_
        refine g_ldc2 hC k_1525 dX12_readsLine_60 rfl ?_
        refine g_callVi (As := [.long ((315918 : Int64))]) (st' := []) (k := a0) (L' := 2) hC Y_X12_hasWord I_X12_hasWord k_1487 ⟨by decide, by decide⟩ h0 (ci := 11) (by decide) rfl dX12_readsLine_63 rfl rfl rfl (Nat.le_of_ble_eq_true rfl) ⟨Nat.zero_le _, Nat.zero_le _⟩ hM (fun c hc => c_X12_hasWord (xE X) a0 h0 ((315918 : Int64)) c hc) (fun c5 hM => ?_)
        refine g_if_eq (tgt := 78) hC dX12_readsLine_66 rfl (by decide) hM (fun hM => ?_) (fun hM => ?_)
        · refine g_aload_n hC dX12_readsLine_78 rfl 1 rfl ?_
          refine g_iconst (v := 1) hC dX12_readsLine_79 rfl ic_1 ?_
          refine g_aload_n hC dX12_readsLine_80 rfl 1 rfl ?_
          refine fg_11_17 hC h0 k_1099 dX12_readsLine_81 rfl ?_
          refine g_callVv0 (As := [.int ((1 : Int32)), .int ((c5.2 a0 17))]) (st' := []) (k := a0) (L' := 0) hC Y_X12_fails I_X12_fails k_1495 ⟨by decide, by decide⟩ h0 (ci := 11) (by decide) rfl dX12_readsLine_84 rfl rfl rfl (Nat.le_of_ble_eq_true rfl) ⟨Nat.zero_le _, Nat.zero_le _⟩ hM (fun c hc => c_X12_fails (xE X) a0 h0 ((1 : Int32)) ((c5.2 a0 17)) c hc) (fun c6 hM => ?_)
          cases hM
          exact g_retv hR dX12_readsLine_87 rfl
        · refine g_aload_n hC dX12_readsLine_69 rfl 1 rfl ?_
          refine g_iload_n hC dX12_readsLine_70 rfl 0 rfl ?_
          refine g_iconst (v := 1) hC dX12_readsLine_71 rfl ic_1 ?_
          refine g_callVv0 (As := [.int y1, .int ((1 : Int32))]) (st' := []) (k := a0) (L' := 4) hC Y_X12_readsConic I_X12_readsConic k_1517 ⟨by decide, by decide⟩ h0 (ci := 11) (by decide) rfl dX12_readsLine_72 rfl rfl rfl (Nat.le_of_ble_eq_true rfl) ⟨Nat.zero_le _, Nat.zero_le _⟩ hM (fun c hc => c_X12_readsConic (xE X) a0 h0 y1 ((1 : Int32)) c hc) (fun c7 hM => ?_)
          refine g_goto (tgt := 87) hC dX12_readsLine_75 rfl (by decide) ?_
          cases hM
          exact g_retv hR dX12_readsLine_87 rfl
      · refine g_aload_n hC dX12_readsLine_50 rfl 1 rfl ?_
        refine g_iload_n hC dX12_readsLine_51 rfl 0 rfl ?_
        refine g_iconst (v := 0) hC dX12_readsLine_52 rfl ic_0 ?_
        refine g_callVv0 (As := [.int y1, .int ((0 : Int32))]) (st' := []) (k := a0) (L' := 4) hC Y_X12_readsConic I_X12_readsConic k_1517 ⟨by decide, by decide⟩ h0 (ci := 11) (by decide) rfl dX12_readsLine_53 rfl rfl rfl (Nat.le_of_ble_eq_true rfl) ⟨Nat.zero_le _, Nat.zero_le _⟩ hM (fun c hc => c_X12_readsConic (xE X) a0 h0 y1 ((0 : Int32)) c hc) (fun c8 hM => ?_)
        refine g_goto (tgt := 87) hC dX12_readsLine_56 rfl (by decide) ?_
        cases hM
        exact g_retv hR dX12_readsLine_87 rfl
    · refine g_aload_n hC dX12_readsLine_32 rfl 1 rfl ?_
      refine g_iload_n hC dX12_readsLine_33 rfl 0 rfl ?_
      refine g_callVv0 (As := [.int y1]) (st' := []) (k := a0) (L' := 4) hC Y_X12_readsPoint I_X12_readsPoint k_1512 ⟨by decide, by decide⟩ h0 (ci := 11) (by decide) rfl dX12_readsLine_34 rfl rfl rfl (Nat.le_of_ble_eq_true rfl) ⟨Nat.zero_le _, Nat.zero_le _⟩ hM (fun c hc => c_X12_readsPoint (xE X) a0 h0 y1 c hc) (fun c9 hM => ?_)
      refine g_goto (tgt := 87) hC dX12_readsLine_37 rfl (by decide) ?_
      cases hM
      exact g_retv hR dX12_readsLine_87 rfl
  · refine g_aload_n hC dX12_readsLine_15 rfl 1 rfl ?_
    refine g_callVv0 (As := []) (st' := []) (k := a0) (L' := 4) hC Y_X12_readsPrime I_X12_readsPrime k_1491 ⟨by decide, by decide⟩ h0 (ci := 11) (by decide) rfl dX12_readsLine_16 rfl rfl rfl (Nat.le_of_ble_eq_true rfl) ⟨Nat.zero_le _, Nat.zero_le _⟩ hM (fun c hc => c_X12_readsPrime (xE X) a0 h0 c hc) (fun c10 hM => ?_)
    refine g_goto (tgt := 87) hC dX12_readsLine_19 rfl (by decide) ?_
    cases hM
    exact g_retv hR dX12_readsLine_87 rfl
