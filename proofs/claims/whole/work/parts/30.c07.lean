def BX7_carryOut_47 (ρ : Rho) (a0 : Nat) (a1 : Int32) (a2 : Int32) (σ : Sto) (t0 : Int32) : Option (Int32 × Sto) :=
  bn t0 fun y1 =>
  if y1 = 0 then
    zr y1 (some (y1, σ))
  else
    Option.bind (ρ a0 0) fun j2 =>
    Option.bind (MX8_addMark σ ρ j2 a2) fun c3 =>
    zr y1 (some (y1, c3))
set_option maxHeartbeats 4000000 in
set_option maxRecDepth 100000 in
theorem bX7_carryOut_47 {X : CX} {n : Nat} {ρ : Rho} {res : Int32 × Sto} (hC : Cx X cX7_carryOut RX7 2) (hml : (xc X).maxLocals = 4) (hR : RtT (some .boolean) X cX7_carryOut n res.1 res.2 ρ) (a0 : Nat) (a1 : Int32) (a2 : Int32) (h0 : Sh n a0 6) : ∀ (σ : Sto) (t0 : Int32), BX7_carryOut_47 ρ a0 a1 a2 σ t0 = some res → G X 0 0 n σ ρ 47 [(0, vr X a0), (1, .int a1), (2, .int a2)] [.int t0] := by
  intro σ t0 hM
  unfold BX7_carryOut_47 at hM
  refine g_istore_n hC (fun y1 => [(3, .int y1), (0, vr X a0), (1, .int a1), (2, .int a2)]) dX7_carryOut_47 rfl hM hml (by decide) (fun _ => rfl) (fun y1 hM => ?_)
  refine g_iload_n hC dX7_carryOut_48 rfl 0 rfl ?_
  refine g_if_eq (tgt := 60) hC dX7_carryOut_49 rfl (by decide) hM (fun hM => ?_) (fun hM => ?_)
  · refine g_iload_n hC dX7_carryOut_60 rfl 0 rfl ?_
    exact g_retz hM dX7_carryOut_61 rfl (fun h => by cases h; exact hR)
  · refine g_aload_n hC dX7_carryOut_52 rfl 1 rfl ?_
    refine fg_6_0 hC h0 k_276 dX7_carryOut_53 rfl hM (fun j2 hj2 hM => ?_)
    refine g_iload_n hC dX7_carryOut_56 rfl 3 rfl ?_
    refine g_callVv0 (As := [.int a2]) (st' := []) (k := j2) (L' := 0) hC Y_X8_addMark I_X8_addMark k_585 ⟨by decide, by decide⟩ hj2 (ci := 7) (by decide) rfl dX7_carryOut_57 rfl rfl rfl (Nat.le_of_ble_eq_true rfl) ⟨Nat.zero_le _, Nat.zero_le _⟩ hM (fun c hc => c_X8_addMark (xE X) j2 hj2 a2 c hc) (fun c3 hM => ?_)
    refine g_iload_n hC dX7_carryOut_60 rfl 0 rfl ?_
    exact g_retz hM dX7_carryOut_61 rfl (fun h => by cases h; exact hR)
def BX7_carryOut_46 (ρ : Rho) (a0 : Nat) (a1 : Int32) (a2 : Int32) (σ : Sto) : Option (Int32 × Sto) :=
  BX7_carryOut_47 ρ a0 a1 a2 σ ((0 : Int32))
set_option maxHeartbeats 4000000 in
set_option maxRecDepth 100000 in
theorem bX7_carryOut_46 {X : CX} {n : Nat} {ρ : Rho} {res : Int32 × Sto} (hC : Cx X cX7_carryOut RX7 2) (hml : (xc X).maxLocals = 4) (hR : RtT (some .boolean) X cX7_carryOut n res.1 res.2 ρ) (a0 : Nat) (a1 : Int32) (a2 : Int32) (h0 : Sh n a0 6) : ∀ (σ : Sto), BX7_carryOut_46 ρ a0 a1 a2 σ = some res → G X 0 0 n σ ρ 46 [(0, vr X a0), (1, .int a1), (2, .int a2)] [] := by
  intro σ hM
  unfold BX7_carryOut_46 at hM
  refine g_iconst (v := 0) hC dX7_carryOut_46 rfl ic_0 ?_
  exact g_sub [0, 1, 2] ((bX7_carryOut_47 hC hml hR a0 a1 a2 h0 ) _ _ hM) rfl
def BX7_carryOut_99 (ρ : Rho) (a0 : Nat) (a1 : Int32) (a2 : Int32) (σ : Sto) (t0 : Int32) : Option (Int32 × Sto) :=
  bn t0 fun y1 =>
  if y1 = 0 then
    zr y1 (some (y1, σ))
  else
    Option.bind (ρ a0 0) fun j2 =>
    Option.bind (ρ a0 3) fun j3 =>
    Option.bind (MX8_write σ ρ j2 a2 j3) fun c4 =>
    zr y1 (some (y1, c4))
set_option maxHeartbeats 4000000 in
set_option maxRecDepth 100000 in
theorem bX7_carryOut_99 {X : CX} {n : Nat} {ρ : Rho} {res : Int32 × Sto} (hC : Cx X cX7_carryOut RX7 2) (hml : (xc X).maxLocals = 4) (hR : RtT (some .boolean) X cX7_carryOut n res.1 res.2 ρ) (a0 : Nat) (a1 : Int32) (a2 : Int32) (h0 : Sh n a0 6) : ∀ (σ : Sto) (t0 : Int32), BX7_carryOut_99 ρ a0 a1 a2 σ t0 = some res → G X 0 0 n σ ρ 99 [(0, vr X a0), (1, .int a1), (2, .int a2)] [.int t0] := by
  intro σ t0 hM
  unfold BX7_carryOut_99 at hM
  refine g_istore_n hC (fun y1 => [(3, .int y1), (0, vr X a0), (1, .int a1), (2, .int a2)]) dX7_carryOut_99 rfl hM hml (by decide) (fun _ => rfl) (fun y1 hM => ?_)
  refine g_iload_n hC dX7_carryOut_100 rfl 0 rfl ?_
  refine g_if_eq (tgt := 116) hC dX7_carryOut_101 rfl (by decide) hM (fun hM => ?_) (fun hM => ?_)
  · refine g_iload_n hC dX7_carryOut_116 rfl 0 rfl ?_
    exact g_retz hM dX7_carryOut_117 rfl (fun h => by cases h; exact hR)
  · refine g_aload_n hC dX7_carryOut_104 rfl 1 rfl ?_
    refine fg_6_0 hC h0 k_276 dX7_carryOut_105 rfl hM (fun j2 hj2 hM => ?_)
    refine g_iload_n hC dX7_carryOut_108 rfl 3 rfl ?_
    refine g_aload_n hC dX7_carryOut_109 rfl 1 rfl ?_
    refine fg_6_3 hC h0 k_282 dX7_carryOut_110 rfl hM (fun j3 hj3 hM => ?_)
    refine g_callVv0 (As := [.int a2, vr X j3]) (st' := []) (k := j2) (L' := 1) hC Y_X8_write I_X8_write k_608 ⟨by decide, by decide⟩ hj2 (ci := 7) (by decide) rfl dX7_carryOut_113 rfl rfl rfl (Nat.le_of_ble_eq_true rfl) ⟨Nat.zero_le _, Nat.zero_le _⟩ hM (fun c hc => c_X8_write (xE X) j2 hj2 a2 j3 hj3 c hc) (fun c4 hM => ?_)
    refine g_iload_n hC dX7_carryOut_116 rfl 0 rfl ?_
    exact g_retz hM dX7_carryOut_117 rfl (fun h => by cases h; exact hR)
def BX7_carryOut_98 (ρ : Rho) (a0 : Nat) (a1 : Int32) (a2 : Int32) (σ : Sto) : Option (Int32 × Sto) :=
  BX7_carryOut_99 ρ a0 a1 a2 σ ((0 : Int32))
set_option maxHeartbeats 4000000 in
set_option maxRecDepth 100000 in
theorem bX7_carryOut_98 {X : CX} {n : Nat} {ρ : Rho} {res : Int32 × Sto} (hC : Cx X cX7_carryOut RX7 2) (hml : (xc X).maxLocals = 4) (hR : RtT (some .boolean) X cX7_carryOut n res.1 res.2 ρ) (a0 : Nat) (a1 : Int32) (a2 : Int32) (h0 : Sh n a0 6) : ∀ (σ : Sto), BX7_carryOut_98 ρ a0 a1 a2 σ = some res → G X 0 0 n σ ρ 98 [(0, vr X a0), (1, .int a1), (2, .int a2)] [] := by
  intro σ hM
  unfold BX7_carryOut_98 at hM
  refine g_iconst (v := 0) hC dX7_carryOut_98 rfl ic_0 ?_
  exact g_sub [0, 1, 2] ((bX7_carryOut_99 hC hml hR a0 a1 a2 h0 ) _ _ hM) rfl
def BX7_carryOut_74 (ρ : Rho) (a0 : Nat) (a1 : Int32) (a2 : Int32) (σ : Sto) : Option (Int32 × Sto) :=
  Option.bind (ρ a0 3) fun j1 =>
  Option.bind (MX3_isZero σ j1) fun c2 =>
  if c2 = 0 then
    Option.bind (ρ a0 3) fun j3 =>
    Option.bind (MX3_isWithinLimit σ j3) fun c4 =>
    if c4 = 0 then
      BX7_carryOut_98 ρ a0 a1 a2 σ
    else
      BX7_carryOut_99 ρ a0 a1 a2 σ ((1 : Int32))
  else
    BX7_carryOut_98 ρ a0 a1 a2 σ
set_option maxHeartbeats 4000000 in
set_option maxRecDepth 100000 in
theorem bX7_carryOut_74 {X : CX} {n : Nat} {ρ : Rho} {res : Int32 × Sto} (hC : Cx X cX7_carryOut RX7 2) (hml : (xc X).maxLocals = 4) (hR : RtT (some .boolean) X cX7_carryOut n res.1 res.2 ρ) (a0 : Nat) (a1 : Int32) (a2 : Int32) (h0 : Sh n a0 6) : ∀ (σ : Sto), BX7_carryOut_74 ρ a0 a1 a2 σ = some res → G X 0 0 n σ ρ 74 [(0, vr X a0), (1, .int a1), (2, .int a2)] [] := by
  intro σ hM
  unfold BX7_carryOut_74 at hM
  refine g_aload_n hC dX7_carryOut_74 rfl 0 rfl ?_
  refine fg_6_3 hC h0 k_282 dX7_carryOut_75 rfl hM (fun j1 hj1 hM => ?_)
  refine g_callVi (As := []) (st' := []) (k := j1) (L' := 0) hC Y_X3_isZero I_X3_isZero k_597 ⟨by decide, by decide⟩ hj1 (ci := 2) (by decide) rfl dX7_carryOut_78 rfl rfl rfl (Nat.le_of_ble_eq_true rfl) ⟨Nat.zero_le _, Nat.zero_le _⟩ hM (fun c hc => c_X3_isZero (xE X) j1 hj1 c hc) (fun c2 hM => ?_)
  refine g_if_ne (tgt := 98) hC dX7_carryOut_81 rfl (by decide) hM (fun hM => ?_) (fun hM => ?_)
  · exact g_sub [0, 1, 2] ((bX7_carryOut_98 hC hml hR a0 a1 a2 h0 ) _ hM) rfl
  · refine g_aload_n hC dX7_carryOut_84 rfl 0 rfl ?_
    refine fg_6_3 hC h0 k_282 dX7_carryOut_85 rfl hM (fun j3 hj3 hM => ?_)
    refine g_callVi (As := []) (st' := []) (k := j3) (L' := 1) hC Y_X3_isWithinLimit I_X3_isWithinLimit k_601 ⟨by decide, by decide⟩ hj3 (ci := 2) (by decide) rfl dX7_carryOut_88 rfl rfl rfl (Nat.le_of_ble_eq_true rfl) ⟨Nat.zero_le _, Nat.zero_le _⟩ hM (fun c hc => c_X3_isWithinLimit (xE X) j3 hj3 c hc) (fun c4 hM => ?_)
    refine g_if_eq (tgt := 98) hC dX7_carryOut_91 rfl (by decide) hM (fun hM => ?_) (fun hM => ?_)
    · exact g_sub [0, 1, 2] ((bX7_carryOut_98 hC hml hR a0 a1 a2 h0 ) _ hM) rfl
    · refine g_iconst (v := 1) hC dX7_carryOut_94 rfl ic_1 ?_
      refine g_goto (tgt := 99) hC dX7_carryOut_95 rfl (by decide) ?_
      exact g_sub [0, 1, 2] ((bX7_carryOut_99 hC hml hR a0 a1 a2 h0 ) _ _ hM) rfl
def MX7_carryOut (σ : Sto) (ρ : Rho) (a0 : Nat) (a1 : Int32) (a2 : Int32) : Option (Int32 × Sto) :=
  if a1 = 0 then
    Option.bind (ρ a0 0) fun j6 =>
    Option.bind (MX8_changePrime σ j6 a2) fun c7 =>
    zr ((1 : Int32)) (some ((1 : Int32), c7))
  else
    if a1 = (1 : Int32) then
      Option.bind (ρ a0 0) fun j3 =>
      Option.bind (MX8_isMarked σ ρ j3 a2) fun c4 =>
      if c4 = 0 then
        Option.bind (ρ a0 0) fun j5 =>
        if (8 : Int32) ≤ (σ j5 1) then
          BX7_carryOut_46 ρ a0 a1 a2 σ
        else
          BX7_carryOut_47 ρ a0 a1 a2 σ ((1 : Int32))
      else
        BX7_carryOut_46 ρ a0 a1 a2 σ
    else
      if a1 = (3 : Int32) then
        Option.bind (ρ a0 3) fun j1 =>
        Option.bind (MX3_multiply σ j1) fun c2 =>
        BX7_carryOut_74 ρ a0 a1 a2 c2
      else
        BX7_carryOut_74 ρ a0 a1 a2 σ
set_option maxHeartbeats 4000000 in
set_option maxRecDepth 100000 in
theorem c_X7_carryOut (E : EX) {n : Nat} {σ : Sto} {ρ : Rho} (a0 : Nat) (h0 : Sh n a0 6) (a1 : Int32) (a2 : Int32) (res : Int32 × Sto) (hM : MX7_carryOut σ ρ a0 a1 a2 = some res) : CTi E yX7_carryOut cX7_carryOut 4 (some .boolean) 2 [.ref (eb E + a0), .int a1, .int a2] n σ ρ res.1 res.2 ρ := by
  refine ct_i (by decide +kernel) rfl (Nat.le_of_ble_eq_true rfl) (fun X hE hml hC hR => ?_)
  subst hE
  show G X 0 0 n σ ρ 0 [(0, vr X a0), (1, .int a1), (2, .int a2)] []
  replace hC : Cx X cX7_carryOut RX7 2 := hC
  unfold MX7_carryOut at hM
  refine g_iload_n hC dX7_carryOut_0 rfl 1 rfl ?_
  refine g_if_ne (tgt := 14) hC dX7_carryOut_1 rfl (by decide) hM (fun hM => ?_) (fun hM => ?_)
  · refine g_iload_n hC dX7_carryOut_14 rfl 1 rfl ?_
    refine g_iconst (v := 1) hC dX7_carryOut_15 rfl ic_1 ?_
    refine g_icmp_ne (tgt := 62) hC dX7_carryOut_16 rfl (by decide) hM (fun hM => ?_) (fun hM => ?_)
    · refine g_iload_n hC dX7_carryOut_62 rfl 1 rfl ?_
      refine g_iconst (v := 3) hC dX7_carryOut_63 rfl ic_3 ?_
      refine g_icmp_ne (tgt := 74) hC dX7_carryOut_64 rfl (by decide) hM (fun hM => ?_) (fun hM => ?_)
      · exact g_sub [0, 1, 2] ((bX7_carryOut_74 hC hml hR a0 a1 a2 h0 ) _ hM) rfl
      · refine g_aload_n hC dX7_carryOut_67 rfl 0 rfl ?_
        refine fg_6_3 hC h0 k_282 dX7_carryOut_68 rfl hM (fun j1 hj1 hM => ?_)
        refine g_callVv0 (As := []) (st' := []) (k := j1) (L' := 1) hC Y_X3_multiply I_X3_multiply k_589 ⟨by decide, by decide⟩ hj1 (ci := 2) (by decide) rfl dX7_carryOut_71 rfl rfl rfl (Nat.le_of_ble_eq_true rfl) ⟨Nat.zero_le _, Nat.zero_le _⟩ hM (fun c hc => c_X3_multiply (xE X) j1 hj1 c hc) (fun c2 hM => ?_)
        exact g_sub [0, 1, 2] ((bX7_carryOut_74 hC hml hR a0 a1 a2 h0 ) _ hM) rfl
    · refine g_aload_n hC dX7_carryOut_19 rfl 0 rfl ?_
      refine fg_6_0 hC h0 k_276 dX7_carryOut_20 rfl hM (fun j3 hj3 hM => ?_)
      refine g_iload_n hC dX7_carryOut_23 rfl 2 rfl ?_
      refine g_callVi (As := [.int a2]) (st' := []) (k := j3) (L' := 1) hC Y_X8_isMarked I_X8_isMarked k_577 ⟨by decide, by decide⟩ hj3 (ci := 7) (by decide) rfl dX7_carryOut_24 rfl rfl rfl (Nat.le_of_ble_eq_true rfl) ⟨Nat.zero_le _, Nat.zero_le _⟩ hM (fun c hc => c_X8_isMarked (xE X) j3 hj3 a2 c hc) (fun c4 hM => ?_)
      refine g_if_ne (tgt := 46) hC dX7_carryOut_27 rfl (by decide) hM (fun hM => ?_) (fun hM => ?_)
      · exact g_sub [0, 1, 2] ((bX7_carryOut_46 hC hml hR a0 a1 a2 h0 ) _ hM) rfl
      · refine g_aload_n hC dX7_carryOut_30 rfl 0 rfl ?_
        refine fg_6_0 hC h0 k_276 dX7_carryOut_31 rfl hM (fun j5 hj5 hM => ?_)
        refine fg_7_1 hC hj5 k_142 dX7_carryOut_34 rfl ?_
        refine g_bipush (v := 8) hC dX7_carryOut_37 rfl ib_8 ?_
        refine g_icmp_ge (tgt := 46) hC dX7_carryOut_39 rfl (by decide) hM (fun hM => ?_) (fun hM => ?_)
        · exact g_sub [0, 1, 2] ((bX7_carryOut_46 hC hml hR a0 a1 a2 h0 ) _ hM) rfl
        · refine g_iconst (v := 1) hC dX7_carryOut_42 rfl ic_1 ?_
          refine g_goto (tgt := 47) hC dX7_carryOut_43 rfl (by decide) ?_
          exact g_sub [0, 1, 2] ((bX7_carryOut_47 hC hml hR a0 a1 a2 h0 ) _ _ hM) rfl
  · refine g_aload_n hC dX7_carryOut_4 rfl 0 rfl ?_
    refine fg_6_0 hC h0 k_276 dX7_carryOut_5 rfl hM (fun j6 hj6 hM => ?_)
    refine g_iload_n hC dX7_carryOut_8 rfl 2 rfl ?_
    refine g_callVv0 (As := [.int a2]) (st' := []) (k := j6) (L' := 0) hC Y_X8_changePrime I_X8_changePrime k_573 ⟨by decide, by decide⟩ hj6 (ci := 7) (by decide) rfl dX7_carryOut_9 rfl rfl rfl (Nat.le_of_ble_eq_true rfl) ⟨Nat.zero_le _, Nat.zero_le _⟩ hM (fun c hc => c_X8_changePrime (xE X) j6 hj6 a2 c hc) (fun c7 hM => ?_)
    refine g_iconst (v := 1) hC dX7_carryOut_12 rfl ic_1 ?_
    exact g_retz hM dX7_carryOut_13 rfl (fun h => by cases h; exact hR)
def BX8_dropMark_43 (ρ : Rho) (a0 : Nat) (a1 : Int32) (rec : Sto → Int32 → Int32 → Option (Sto)) (k49 : Sto → Int32 → Option (Sto)) (σ : Sto) (v2 : Int32) (v3 : Int32) : Option (Sto) :=
  bn (v3 + (1 : Int32)) fun y1 =>
  rec σ v2 y1
set_option maxHeartbeats 4000000 in
set_option maxRecDepth 100000 in
theorem bX8_dropMark_43 {X : CX} {n : Nat} {ρ : Rho} {res : Sto} (hC : Cx X cX8_dropMark RX8 0) (hml : (xc X).maxLocals = 4) (hR : RtV X cX8_dropMark 0 0 n res ρ) (a0 : Nat) (a1 : Int32) (h0 : Sh n a0 7) (rec : Sto → Int32 → Int32 → Option (Sto)) (ih : ∀ (σ : Sto) (v2 : Int32) (v3 : Int32), rec σ v2 v3 = some res → G X 0 0 n σ ρ 4 [(0, vr X a0), (1, .int a1), (2, .int v2), (3, .int v3)] []) (k49 : Sto → Int32 → Option (Sto)) (hk49 : ∀ (σ : Sto) (v2 : Int32), k49 σ v2 = some res → G X 0 0 n σ ρ 49 [(0, vr X a0), (1, .int a1), (2, .int v2)] []) : ∀ (σ : Sto) (v2 : Int32) (v3 : Int32), BX8_dropMark_43 ρ a0 a1 rec k49 σ v2 v3 = some res → G X 0 0 n σ ρ 43 [(0, vr X a0), (1, .int a1), (2, .int v2), (3, .int v3)] [] := by
  intro σ v2 v3 hM
  unfold BX8_dropMark_43 at hM
  refine g_iinc (v := 1) hC (fun y1 => [(3, .int y1), (0, vr X a0), (1, .int a1), (2, .int v2)]) dX8_dropMark_43 rfl hM (j := 3) rfl ic_1 hml (by decide) (fun _ => rfl) (fun y1 hM => ?_)
  refine g_goto (tgt := 4) hC dX8_dropMark_46 rfl (by decide) ?_
  exact g_sub [1, 2, 3, 0] (ih _ _ _ hM) rfl
def BX8_dropMark_49 (ρ : Rho) (a0 : Nat) (a1 : Int32) (σ : Sto) (v2 : Int32) : Option (Sto) :=
  bn (su σ a0 1 v2) fun σ1 =>
  some σ1
set_option maxHeartbeats 4000000 in
set_option maxRecDepth 100000 in
theorem bX8_dropMark_49 {X : CX} {n : Nat} {ρ : Rho} {res : Sto} (hC : Cx X cX8_dropMark RX8 0) (hml : (xc X).maxLocals = 4) (hR : RtV X cX8_dropMark 0 0 n res ρ) (a0 : Nat) (a1 : Int32) (h0 : Sh n a0 7) : ∀ (σ : Sto) (v2 : Int32), BX8_dropMark_49 ρ a0 a1 σ v2 = some res → G X 0 0 n σ ρ 49 [(0, vr X a0), (1, .int a1), (2, .int v2)] [] := by
  intro σ v2 hM
  unfold BX8_dropMark_49 at hM
  refine g_aload_n hC dX8_dropMark_49 rfl 0 rfl ?_
  refine g_iload_n hC dX8_dropMark_50 rfl 2 rfl ?_
  refine fp_7_1 hC h0 k_140 dX8_dropMark_51 rfl hM (fun σ1 hM => ?_)
  cases hM
  exact g_retv hR dX8_dropMark_54 rfl
def FX8_dropMark_4 (ρ : Rho) (a0 : Nat) (a1 : Int32) (k49 : Sto → Int32 → Option (Sto)) (rec : Sto → Int32 → Int32 → Option (Sto)) (σ : Sto) (v2 : Int32) (v3 : Int32) : Option (Sto) :=
  if (σ a0 1) ≤ v3 then
    k49 σ v2
  else
    if (8 : Int32) ≤ v3 then
      k49 σ v2
    else
      Option.bind (ρ a0 2) fun j1 =>
      Option.bind (ag σ j1 v3) fun x2 =>
      if x2 = a1 then
        BX8_dropMark_43 ρ a0 a1 rec k49 σ v2 v3
      else
        Option.bind (ρ a0 2) fun j3 =>
        Option.bind (ρ a0 2) fun j4 =>
        Option.bind (ag σ j4 v3) fun x5 =>
        Option.bind (ap σ j3 v2 x5) fun σ6 =>
        bn (v2 + (1 : Int32)) fun y7 =>
        BX8_dropMark_43 ρ a0 a1 rec k49 σ6 y7 v3
set_option maxHeartbeats 4000000 in
set_option maxRecDepth 100000 in
theorem bX8_dropMark_4 {X : CX} {n : Nat} {ρ : Rho} {res : Sto} (hC : Cx X cX8_dropMark RX8 0) (hml : (xc X).maxLocals = 4) (hR : RtV X cX8_dropMark 0 0 n res ρ) (a0 : Nat) (a1 : Int32) (h0 : Sh n a0 7) (k49 : Sto → Int32 → Option (Sto)) (hk49 : ∀ (σ : Sto) (v2 : Int32), k49 σ v2 = some res → G X 0 0 n σ ρ 49 [(0, vr X a0), (1, .int a1), (2, .int v2)] []) (fu : Nat) : ∀ (σ : Sto) (v2 : Int32) (v3 : Int32), fixN (fun _ _ _ => none) (FX8_dropMark_4 ρ a0 a1 k49) fu σ v2 v3 = some res → G X 0 0 n σ ρ 4 [(0, vr X a0), (1, .int a1), (2, .int v2), (3, .int v3)] [] := by
  refine fixN_ind (P := fun (f : Sto → Int32 → Int32 → Option (Sto)) => ∀ (σ : Sto) (v2 : Int32) (v3 : Int32), f σ v2 v3 = some res → G X 0 0 n σ ρ 4 [(0, vr X a0), (1, .int a1), (2, .int v2), (3, .int v3)] []) ?_ ?_ fu
  · intro σ v2 v3 hM; cases hM
  · intro rec ih σ v2 v3 hM
    unfold FX8_dropMark_4 at hM
    refine g_iload_n hC dX8_dropMark_4 rfl 3 rfl ?_
    refine g_aload_n hC dX8_dropMark_5 rfl 0 rfl ?_
    refine fg_7_1 hC h0 k_140 dX8_dropMark_6 rfl ?_
    refine g_icmp_ge (tgt := 49) hC dX8_dropMark_9 rfl (by decide) hM (fun hM => ?_) (fun hM => ?_)
    · exact g_sub [0, 1, 2] (hk49 _ _ hM) rfl
    · refine g_iload_n hC dX8_dropMark_12 rfl 3 rfl ?_
      refine g_bipush (v := 8) hC dX8_dropMark_13 rfl ib_8 ?_
      refine g_icmp_ge (tgt := 49) hC dX8_dropMark_15 rfl (by decide) hM (fun hM => ?_) (fun hM => ?_)
      · exact g_sub [0, 1, 2] (hk49 _ _ hM) rfl
      · refine g_aload_n hC dX8_dropMark_18 rfl 0 rfl ?_
        refine fg_7_2 hC h0 k_144 dX8_dropMark_19 rfl hM (fun j1 hj1 hM => ?_)
        refine g_iload_n hC dX8_dropMark_22 rfl 3 rfl ?_
        refine g_iald hC hj1 dX8_dropMark_23 rfl hM (fun x2 hM => ?_)
        refine g_iload_n hC dX8_dropMark_24 rfl 1 rfl ?_
        refine g_icmp_eq (tgt := 43) hC dX8_dropMark_25 rfl (by decide) hM (fun hM => ?_) (fun hM => ?_)
        · exact g_sub [0, 1, 2, 3] ((bX8_dropMark_43 hC hml hR a0 a1 h0 rec ih k49 hk49) _ _ _ hM) rfl
        · refine g_aload_n hC dX8_dropMark_28 rfl 0 rfl ?_
          refine fg_7_2 hC h0 k_144 dX8_dropMark_29 rfl hM (fun j3 hj3 hM => ?_)
          refine g_iload_n hC dX8_dropMark_32 rfl 2 rfl ?_
          refine g_aload_n hC dX8_dropMark_33 rfl 0 rfl ?_
          refine fg_7_2 hC h0 k_144 dX8_dropMark_34 rfl hM (fun j4 hj4 hM => ?_)
          refine g_iload_n hC dX8_dropMark_37 rfl 3 rfl ?_
          refine g_iald hC hj4 dX8_dropMark_38 rfl hM (fun x5 hM => ?_)
          refine g_iast hC hj3 dX8_dropMark_39 rfl hM (fun σ6 hM => ?_)
          refine g_iinc (v := 1) hC (fun y7 => [(2, .int y7), (0, vr X a0), (1, .int a1), (3, .int v3)]) dX8_dropMark_40 rfl hM (j := 2) rfl ic_1 hml (by decide) (fun _ => rfl) (fun y7 hM => ?_)
          exact g_sub [1, 2, 0, 3] ((bX8_dropMark_43 hC hml hR a0 a1 h0 rec ih k49 hk49) _ _ _ hM) rfl
def MX8_dropMark (σ : Sto) (ρ : Rho) (a0 : Nat) (a1 : Int32) : Option (Sto) :=
  bn ((0 : Int32)) fun y1 =>
  bn ((0 : Int32)) fun y2 =>
  fixN (fun _ _ _ => none) (FX8_dropMark_4 ρ a0 a1 (BX8_dropMark_49 ρ a0 a1)) FU σ y1 y2
set_option maxHeartbeats 4000000 in
set_option maxRecDepth 100000 in
theorem c_X8_dropMark (E : EX) {n : Nat} {σ : Sto} {ρ : Rho} (a0 : Nat) (h0 : Sh n a0 7) (a1 : Int32) (res : Sto) (hM : MX8_dropMark σ ρ a0 a1 = some res) : CTv E yX8_dropMark cX8_dropMark 4 0 0 0 [.ref (eb E + a0), .int a1] n σ ρ res ρ := by
  refine ct_v (by decide +kernel) (Nat.le_of_ble_eq_true rfl) (fun X hE hml hin hRm hC hR => ?_)
  subst hE
  show G X 0 0 n σ ρ 0 [(0, vr X a0), (1, .int a1)] []
  replace hC : Cx X cX8_dropMark RX8 0 := hC
  unfold MX8_dropMark at hM
  refine g_iconst (v := 0) hC dX8_dropMark_0 rfl ic_0 ?_
  refine g_istore_n hC (fun y1 => [(2, .int y1), (0, vr X a0), (1, .int a1)]) dX8_dropMark_1 rfl hM hml (by decide) (fun _ => rfl) (fun y1 hM => ?_)
  refine g_iconst (v := 0) hC dX8_dropMark_2 rfl ic_0 ?_
  refine g_istore_n hC (fun y2 => [(3, .int y2), (2, .int y1), (0, vr X a0), (1, .int a1)]) dX8_dropMark_3 rfl hM hml (by decide) (fun _ => rfl) (fun y2 hM => ?_)
  exact g_sub [2, 3, 1, 0] ((bX8_dropMark_4 hC hml hR a0 a1 h0 (BX8_dropMark_49 ρ a0 a1) (bX8_dropMark_49 hC hml hR a0 a1 h0 ) FU) _ _ _ hM) rfl
def BX9_addFour_47 (ρ : Rho) (a0 : Nat) (a1 : Int32) (rec : Sto → Int32 → Option (Sto)) (σ : Sto) (v2 : Int32) : Option (Sto) :=
  bn (v2 + (-8 : Int32)) fun y1 =>
  rec σ y1
set_option maxHeartbeats 4000000 in
set_option maxRecDepth 100000 in
theorem bX9_addFour_47 {X : CX} {n : Nat} {ρ : Rho} {res : Sto} (hC : Cx X cX9_addFour RX9 0) (hml : (xc X).maxLocals = 3) (hR : RtV X cX9_addFour 0 0 n res ρ) (a0 : Nat) (a1 : Int32) (h0 : Sh n a0 8) (rec : Sto → Int32 → Option (Sto)) (ih : ∀ (σ : Sto) (v2 : Int32), rec σ v2 = some res → G X 0 0 n σ ρ 3 [(0, vr X a0), (1, .int a1), (2, .int v2)] []) : ∀ (σ : Sto) (v2 : Int32), BX9_addFour_47 ρ a0 a1 rec σ v2 = some res → G X 0 0 n σ ρ 47 [(0, vr X a0), (1, .int a1), (2, .int v2)] [] := by
  intro σ v2 hM
  unfold BX9_addFour_47 at hM
  refine g_iinc (v := -8) hC (fun y1 => [(2, .int y1), (0, vr X a0), (1, .int a1)]) dX9_addFour_47 rfl hM (j := 2) rfl ic_m8 hml (by decide) (fun _ => rfl) (fun y1 hM => ?_)
  refine g_goto (tgt := 3) hC dX9_addFour_50 rfl (by decide) ?_
  exact g_sub [1, 2, 0] (ih _ _ hM) rfl
def FX9_addFour_3 (ρ : Rho) (a0 : Nat) (a1 : Int32) (rec : Sto → Int32 → Option (Sto)) (σ : Sto) (v2 : Int32) : Option (Sto) :=
  if v2 < 0 then
    some σ
  else
    if (σ a0 1) < 0 then
      BX9_addFour_47 ρ a0 a1 rec σ v2
    else
      if (500 : Int32) ≤ (σ a0 1) then
        BX9_addFour_47 ρ a0 a1 rec σ v2
      else
        Option.bind (ρ a0 0) fun j1 =>
        Option.bind (ap σ j1 ((σ a0 1)) (((((a1.toUInt32 >>> (v2.toUInt32 &&& Int32.toUInt32 31)).toInt32)).toInt8.toInt32).toInt8.toInt32)) fun σ2 =>
        bn (su σ2 a0 1 (((σ2 a0 1) + (1 : Int32)))) fun σ3 =>
        BX9_addFour_47 ρ a0 a1 rec σ3 v2
set_option maxHeartbeats 4000000 in
set_option maxRecDepth 100000 in
theorem bX9_addFour_3 {X : CX} {n : Nat} {ρ : Rho} {res : Sto} (hC : Cx X cX9_addFour RX9 0) (hml : (xc X).maxLocals = 3) (hR : RtV X cX9_addFour 0 0 n res ρ) (a0 : Nat) (a1 : Int32) (h0 : Sh n a0 8) (fu : Nat) : ∀ (σ : Sto) (v2 : Int32), fixN (fun _ _ => none) (FX9_addFour_3 ρ a0 a1) fu σ v2 = some res → G X 0 0 n σ ρ 3 [(0, vr X a0), (1, .int a1), (2, .int v2)] [] := by
  refine fixN_ind (P := fun (f : Sto → Int32 → Option (Sto)) => ∀ (σ : Sto) (v2 : Int32), f σ v2 = some res → G X 0 0 n σ ρ 3 [(0, vr X a0), (1, .int a1), (2, .int v2)] []) ?_ ?_ fu
  · intro σ v2 hM; cases hM
  · intro rec ih σ v2 hM
    unfold FX9_addFour_3 at hM
    refine g_iload_n hC dX9_addFour_3 rfl 2 rfl ?_
    refine g_if_lt (tgt := 53) hC dX9_addFour_4 rfl (by decide) hM (fun hM => ?_) (fun hM => ?_)
    · cases hM
      exact g_retv hR dX9_addFour_53 rfl
    · refine g_aload_n hC dX9_addFour_7 rfl 0 rfl ?_
      refine fg_8_1 hC h0 k_163 dX9_addFour_8 rfl ?_
      refine g_if_lt (tgt := 47) hC dX9_addFour_11 rfl (by decide) hM (fun hM => ?_) (fun hM => ?_)
      · exact g_sub [0, 1, 2] ((bX9_addFour_47 hC hml hR a0 a1 h0 rec ih ) _ _ hM) rfl
      · refine g_aload_n hC dX9_addFour_14 rfl 0 rfl ?_
        refine fg_8_1 hC h0 k_163 dX9_addFour_15 rfl ?_
        refine g_sipush (v := 500) hC dX9_addFour_18 rfl is_500 ?_
        refine g_icmp_ge (tgt := 47) hC dX9_addFour_21 rfl (by decide) hM (fun hM => ?_) (fun hM => ?_)
        · exact g_sub [0, 1, 2] ((bX9_addFour_47 hC hml hR a0 a1 h0 rec ih ) _ _ hM) rfl
        · refine g_aload_n hC dX9_addFour_24 rfl 0 rfl ?_
          refine fg_8_0 hC h0 k_162 dX9_addFour_25 rfl hM (fun j1 hj1 hM => ?_)
          refine g_aload_n hC dX9_addFour_28 rfl 0 rfl ?_
          refine fg_8_1 hC h0 k_163 dX9_addFour_29 rfl ?_
          refine g_iload_n hC dX9_addFour_32 rfl 1 rfl ?_
          refine g_iload_n hC dX9_addFour_33 rfl 2 rfl ?_
          refine g_iushr hC dX9_addFour_34 rfl ?_
          refine g_i2b hC dX9_addFour_35 rfl ?_
          refine g_bast hC hj1 dX9_addFour_36 rfl hM (fun σ2 hM => ?_)
          refine g_aload_n hC dX9_addFour_37 rfl 0 rfl ?_
          refine g_dup hC dX9_addFour_38 rfl rfl ?_
          refine fg_8_1 hC h0 k_163 dX9_addFour_39 rfl ?_
          refine g_iconst (v := 1) hC dX9_addFour_42 rfl ic_1 ?_
          refine g_iadd hC dX9_addFour_43 rfl ?_
          refine fp_8_1 hC h0 k_163 dX9_addFour_44 rfl hM (fun σ3 hM => ?_)
          exact g_sub [0, 1, 2] ((bX9_addFour_47 hC hml hR a0 a1 h0 rec ih ) _ _ hM) rfl
def MX9_addFour (σ : Sto) (ρ : Rho) (a0 : Nat) (a1 : Int32) : Option (Sto) :=
  bn ((24 : Int32)) fun y1 =>
  fixN (fun _ _ => none) (FX9_addFour_3 ρ a0 a1) FU σ y1
set_option maxHeartbeats 4000000 in
set_option maxRecDepth 100000 in
theorem c_X9_addFour (E : EX) {n : Nat} {σ : Sto} {ρ : Rho} (a0 : Nat) (h0 : Sh n a0 8) (a1 : Int32) (res : Sto) (hM : MX9_addFour σ ρ a0 a1 = some res) : CTv E yX9_addFour cX9_addFour 3 0 0 0 [.ref (eb E + a0), .int a1] n σ ρ res ρ := by
  refine ct_v (by decide +kernel) (Nat.le_of_ble_eq_true rfl) (fun X hE hml hin hRm hC hR => ?_)
  subst hE
  show G X 0 0 n σ ρ 0 [(0, vr X a0), (1, .int a1)] []
  replace hC : Cx X cX9_addFour RX9 0 := hC
  unfold MX9_addFour at hM
  refine g_bipush (v := 24) hC dX9_addFour_0 rfl ib_24 ?_
  refine g_istore_n hC (fun y1 => [(2, .int y1), (0, vr X a0), (1, .int a1)]) dX9_addFour_2 rfl hM hml (by decide) (fun _ => rfl) (fun y1 hM => ?_)
  exact g_sub [1, 2, 0] ((bX9_addFour_3 hC hml hR a0 a1 h0  FU) _ _ hM) rfl
def MX10_nth (σ : Sto) (a0 : Nat) (a1 : Int32) : Option (Int32) :=
  if a1 = 0 then
    some (σ a0 0)
  else
    if a1 = (1 : Int32) then
      some (σ a0 1)
    else
      some (σ a0 2)
set_option maxHeartbeats 4000000 in
set_option maxRecDepth 100000 in
theorem c_X10_nth (E : EX) {n : Nat} {ρ : Rho} {σ : Sto} (a0 : Nat) (h0 : Sh n a0 9) (a1 : Int32) (res : Int32) (hM : MX10_nth σ a0 a1 = some res) : CTi E yX10_nth cX10_nth 2 (some .int) 0 [.ref (eb E + a0), .int a1] n σ ρ res σ ρ := by
  refine ct_i (by decide +kernel) rfl (Nat.le_of_ble_eq_true rfl) (fun X hE hml hC hR => ?_)
  subst hE
  show G X 0 0 n σ ρ 0 [(0, vr X a0), (1, .int a1)] []
  replace hC : Cx X cX10_nth RX10 0 := hC
  unfold MX10_nth at hM
  refine g_iload_n hC dX10_nth_0 rfl 1 rfl ?_
  refine g_if_ne (tgt := 9) hC dX10_nth_1 rfl (by decide) hM (fun hM => ?_) (fun hM => ?_)
  · refine g_iload_n hC dX10_nth_9 rfl 1 rfl ?_
    refine g_iconst (v := 1) hC dX10_nth_10 rfl ic_1 ?_
    refine g_icmp_ne (tgt := 21) hC dX10_nth_11 rfl (by decide) hM (fun hM => ?_) (fun hM => ?_)
    · refine g_aload_n hC dX10_nth_21 rfl 0 rfl ?_
      refine fg_9_2 hC h0 k_267 dX10_nth_22 rfl ?_
      cases hM
      exact g_reti hR dX10_nth_25 rfl
    · refine g_aload_n hC dX10_nth_14 rfl 0 rfl ?_
      refine fg_9_1 hC h0 k_265 dX10_nth_15 rfl ?_
      refine g_goto (tgt := 25) hC dX10_nth_18 rfl (by decide) ?_
      cases hM
      exact g_reti hR dX10_nth_25 rfl
  · refine g_aload_n hC dX10_nth_4 rfl 0 rfl ?_
    refine fg_9_0 hC h0 k_263 dX10_nth_5 rfl ?_
    cases hM
    exact g_reti hR dX10_nth_8 rfl
def MX10_cross (σ : Sto) (a0 : Nat) (a1 : Nat) (a2 : Nat) : Option (Sto) :=
  Option.bind (MX10_fill σ a0 ((((σ a1 1) * (σ a2 2)) - ((σ a1 2) * (σ a2 1)))) ((((σ a1 2) * (σ a2 0)) - ((σ a1 0) * (σ a2 2)))) ((((σ a1 0) * (σ a2 1)) - ((σ a1 1) * (σ a2 0))))) fun c1 =>
  some c1
set_option maxHeartbeats 4000000 in
set_option maxRecDepth 100000 in
theorem c_X10_cross (E : EX) {n : Nat} {ρ : Rho} {σ : Sto} (a0 : Nat) (h0 : Sh n a0 9) (a1 : Nat) (h1 : Sh n a1 9) (a2 : Nat) (h2 : Sh n a2 9) (res : Sto) (hM : MX10_cross σ a0 a1 a2 = some res) : CTv E yX10_cross cX10_cross 3 1 0 0 [.ref (eb E + a0), .ref (eb E + a1), .ref (eb E + a2)] n σ ρ res ρ := by
  refine ct_v (by decide +kernel) (Nat.le_of_ble_eq_true rfl) (fun X hE hml hin hRm hC hR => ?_)
  subst hE
  show G X 0 0 n σ ρ 0 [(0, vr X a0), (1, vr X a1), (2, vr X a2)] []
  replace hC : Cx X cX10_cross RX10 1 := hC
  unfold MX10_cross at hM
  refine g_aload_n hC dX10_cross_0 rfl 0 rfl ?_
  refine g_aload_n hC dX10_cross_1 rfl 1 rfl ?_
  refine fg_9_1 hC h1 k_265 dX10_cross_2 rfl ?_
  refine g_aload_n hC dX10_cross_5 rfl 2 rfl ?_
  refine fg_9_2 hC h2 k_267 dX10_cross_6 rfl ?_
  refine g_imul hC dX10_cross_9 rfl ?_
  refine g_aload_n hC dX10_cross_10 rfl 1 rfl ?_
  refine fg_9_2 hC h1 k_267 dX10_cross_11 rfl ?_
  refine g_aload_n hC dX10_cross_14 rfl 2 rfl ?_
  refine fg_9_1 hC h2 k_265 dX10_cross_15 rfl ?_
  refine g_imul hC dX10_cross_18 rfl ?_
  refine g_isub hC dX10_cross_19 rfl ?_
  refine g_aload_n hC dX10_cross_20 rfl 1 rfl ?_
  refine fg_9_2 hC h1 k_267 dX10_cross_21 rfl ?_
  refine g_aload_n hC dX10_cross_24 rfl 2 rfl ?_
  refine fg_9_0 hC h2 k_263 dX10_cross_25 rfl ?_
  refine g_imul hC dX10_cross_28 rfl ?_
  refine g_aload_n hC dX10_cross_29 rfl 1 rfl ?_
  refine fg_9_0 hC h1 k_263 dX10_cross_30 rfl ?_
  refine g_aload_n hC dX10_cross_33 rfl 2 rfl ?_
  refine fg_9_2 hC h2 k_267 dX10_cross_34 rfl ?_
  refine g_imul hC dX10_cross_37 rfl ?_
  refine g_isub hC dX10_cross_38 rfl ?_
  refine g_aload_n hC dX10_cross_39 rfl 1 rfl ?_
  refine fg_9_0 hC h1 k_263 dX10_cross_40 rfl ?_
  refine g_aload_n hC dX10_cross_43 rfl 2 rfl ?_
  refine fg_9_1 hC h2 k_265 dX10_cross_44 rfl ?_
  refine g_imul hC dX10_cross_47 rfl ?_
  refine g_aload_n hC dX10_cross_48 rfl 1 rfl ?_
  refine fg_9_1 hC h1 k_265 dX10_cross_49 rfl ?_
  refine g_aload_n hC dX10_cross_52 rfl 2 rfl ?_
  refine fg_9_0 hC h2 k_263 dX10_cross_53 rfl ?_
  refine g_imul hC dX10_cross_56 rfl ?_
  refine g_isub hC dX10_cross_57 rfl ?_
  refine g_callVv0 (As := [.int ((((σ a1 1) * (σ a2 2)) - ((σ a1 2) * (σ a2 1)))), .int ((((σ a1 2) * (σ a2 0)) - ((σ a1 0) * (σ a2 2)))), .int ((((σ a1 0) * (σ a2 1)) - ((σ a1 1) * (σ a2 0))))]) (st' := []) (k := a0) (L' := 0) hC Y_X10_fill I_X10_fill k_554 ⟨by decide, by decide⟩ h0 (ci := 9) (by decide) rfl dX10_cross_58 rfl rfl rfl (Nat.le_of_ble_eq_true rfl) ⟨Nat.zero_le _, Nat.zero_le _⟩ hM (fun c hc => c_X10_fill (xE X) a0 h0 ((((σ a1 1) * (σ a2 2)) - ((σ a1 2) * (σ a2 1)))) ((((σ a1 2) * (σ a2 0)) - ((σ a1 0) * (σ a2 2)))) ((((σ a1 0) * (σ a2 1)) - ((σ a1 1) * (σ a2 0)))) c hc) (fun c1 hM => ?_)
  cases hM
  exact g_retv hR dX10_cross_61 rfl
def MX10_isOn (σ : Sto) (a0 : Nat) (a1 : Nat) (a2 : Int32) : Option (Int32) :=
  Option.bind (MX2_rest (((((σ a0 0) * (σ a1 0)) + ((σ a0 1) * (σ a1 1))) + ((σ a0 2) * (σ a1 2)))) a2) fun c1 =>
  if c1 = 0 then
    zr ((1 : Int32)) (some (1 : Int32))
  else
    zr ((0 : Int32)) (some (0 : Int32))
set_option maxHeartbeats 4000000 in
set_option maxRecDepth 100000 in
theorem c_X10_isOn (E : EX) {n : Nat} {ρ : Rho} {σ : Sto} (a0 : Nat) (h0 : Sh n a0 9) (a1 : Nat) (h1 : Sh n a1 9) (a2 : Int32) (res : Int32) (hM : MX10_isOn σ a0 a1 a2 = some res) : CTi E yX10_isOn cX10_isOn 3 (some .boolean) 2 [.ref (eb E + a0), .ref (eb E + a1), .int a2] n σ ρ res σ ρ := by
  refine ct_i (by decide +kernel) rfl (Nat.le_of_ble_eq_true rfl) (fun X hE hml hC hR => ?_)
  subst hE
  show G X 0 0 n σ ρ 0 [(0, vr X a0), (1, vr X a1), (2, .int a2)] []
  replace hC : Cx X cX10_isOn RX10 2 := hC
  unfold MX10_isOn at hM
  refine g_aload_n hC dX10_isOn_0 rfl 0 rfl ?_
  refine fg_9_0 hC h0 k_263 dX10_isOn_1 rfl ?_
  refine g_aload_n hC dX10_isOn_4 rfl 1 rfl ?_
  refine fg_9_0 hC h1 k_263 dX10_isOn_5 rfl ?_
  refine g_imul hC dX10_isOn_8 rfl ?_
  refine g_aload_n hC dX10_isOn_9 rfl 0 rfl ?_
  refine fg_9_1 hC h0 k_265 dX10_isOn_10 rfl ?_
  refine g_aload_n hC dX10_isOn_13 rfl 1 rfl ?_
  refine fg_9_1 hC h1 k_265 dX10_isOn_14 rfl ?_
  refine g_imul hC dX10_isOn_17 rfl ?_
  refine g_iadd hC dX10_isOn_18 rfl ?_
  refine g_aload_n hC dX10_isOn_19 rfl 0 rfl ?_
  refine fg_9_2 hC h0 k_267 dX10_isOn_20 rfl ?_
  refine g_aload_n hC dX10_isOn_23 rfl 1 rfl ?_
  refine fg_9_2 hC h1 k_267 dX10_isOn_24 rfl ?_
  refine g_imul hC dX10_isOn_27 rfl ?_
  refine g_iadd hC dX10_isOn_28 rfl ?_
  refine g_iload_n hC dX10_isOn_29 rfl 2 rfl ?_
  refine g_callSi (As := [.int (((((σ a0 0) * (σ a1 0)) + ((σ a0 1) * (σ a1 1))) + ((σ a0 2) * (σ a1 2)))), .int a2]) (st' := []) (L' := 1) hC Y_X2_rest k_699 k_835 ⟨by decide, by decide⟩ dX10_isOn_30 rfl rfl rfl (Nat.le_of_ble_eq_true rfl) ⟨Nat.zero_le _, Nat.zero_le _⟩ hM (fun c hc => c_X2_rest (xE X) (((((σ a0 0) * (σ a1 0)) + ((σ a0 1) * (σ a1 1))) + ((σ a0 2) * (σ a1 2)))) a2 c hc) (fun c1 hM => ?_)
  refine g_if_ne (tgt := 40) hC dX10_isOn_33 rfl (by decide) hM (fun hM => ?_) (fun hM => ?_)
  · refine g_iconst (v := 0) hC dX10_isOn_40 rfl ic_0 ?_
    exact g_retz hM dX10_isOn_41 rfl (fun h => by cases h; exact hR)
  · refine g_iconst (v := 1) hC dX10_isOn_36 rfl ic_1 ?_
    refine g_goto (tgt := 41) hC dX10_isOn_37 rfl (by decide) ?_
    exact g_retz hM dX10_isOn_41 rfl (fun h => by cases h; exact hR)
def MX11_feed (σ : Sto) (ρ : Rho) (a0 : Nat) (a1 : Int32) (a2 : Int32) (a3 : Int32) (a4 : Int32) (a5 : Int32) : Option (Int32 × Sto) :=
  Option.bind (ρ a0 0) fun j1 =>
  Option.bind (ρ j1 1) fun j2 =>
  if (σ j2 1) ≤ (480 : Int32) then
    Option.bind (ρ a0 0) fun j3 =>
    Option.bind (ρ j3 1) fun j4 =>
    Option.bind (MX9_addFour σ ρ j4 a1) fun c5 =>
    Option.bind (ρ a0 0) fun j6 =>
    Option.bind (ρ j6 1) fun j7 =>
    Option.bind (MX9_addFour c5 ρ j7 a2) fun c8 =>
    Option.bind (ρ a0 0) fun j9 =>
    Option.bind (ρ j9 1) fun j10 =>
    Option.bind (MX9_addFour c8 ρ j10 a3) fun c11 =>
    Option.bind (ρ a0 0) fun j12 =>
    Option.bind (ρ j12 1) fun j13 =>
    Option.bind (MX9_addFour c11 ρ j13 a4) fun c14 =>
    Option.bind (ρ a0 0) fun j15 =>
    Option.bind (ρ j15 1) fun j16 =>
    Option.bind (MX9_addFour c14 ρ j16 a5) fun c17 =>
    Option.bind (ρ a0 0) fun j18 =>
    Option.bind (ρ j18 1) fun j19 =>
    some ((c17 j19 1), c17)
  else
    some ((-1 : Int32), σ)
set_option maxHeartbeats 4000000 in
set_option maxRecDepth 100000 in
theorem c_X11_feed (E : EX) {n : Nat} {σ : Sto} {ρ : Rho} (a0 : Nat) (h0 : Sh n a0 10) (a1 : Int32) (a2 : Int32) (a3 : Int32) (a4 : Int32) (a5 : Int32) (res : Int32 × Sto) (hM : MX11_feed σ ρ a0 a1 a2 a3 a4 a5 = some res) : CTi E yX11_feed cX11_feed 6 (some .int) 1 [.ref (eb E + a0), .int a1, .int a2, .int a3, .int a4, .int a5] n σ ρ res.1 res.2 ρ := by
  refine ct_i (by decide +kernel) rfl (Nat.le_of_ble_eq_true rfl) (fun X hE hml hC hR => ?_)
  subst hE
  show G X 0 0 n σ ρ 0 [(0, vr X a0), (1, .int a1), (2, .int a2), (3, .int a3), (4, .int a4), (5, .int a5)] []
  replace hC : Cx X cX11_feed RX11 1 := hC
  unfold MX11_feed at hM
  refine g_aload_n hC dX11_feed_0 rfl 0 rfl ?_
  refine fg_10_0 hC h0 k_380 dX11_feed_1 rfl hM (fun j1 hj1 hM => ?_)
  refine fg_3_1 hC hj1 k_174 dX11_feed_4 rfl hM (fun j2 hj2 hM => ?_)
  refine fg_8_1 hC hj2 k_164 dX11_feed_7 rfl ?_
  refine g_sipush (v := 480) hC dX11_feed_10 rfl is_480 ?_
  refine g_icmp_le (tgt := 18) hC dX11_feed_13 rfl (by decide) hM (fun hM => ?_) (fun hM => ?_)
  · refine g_aload_n hC dX11_feed_18 rfl 0 rfl ?_
    refine fg_10_0 hC h0 k_380 dX11_feed_19 rfl hM (fun j3 hj3 hM => ?_)
    refine fg_3_1 hC hj3 k_174 dX11_feed_22 rfl hM (fun j4 hj4 hM => ?_)
    refine g_iload_n hC dX11_feed_25 rfl 1 rfl ?_
    refine g_callVv0 (As := [.int a1]) (st' := []) (k := j4) (L' := 0) hC Y_X9_addFour I_X9_addFour k_427 ⟨by decide, by decide⟩ hj4 (ci := 8) (by decide) rfl dX11_feed_26 rfl rfl rfl (Nat.le_of_ble_eq_true rfl) ⟨Nat.zero_le _, Nat.zero_le _⟩ hM (fun c hc => c_X9_addFour (xE X) j4 hj4 a1 c hc) (fun c5 hM => ?_)
    refine g_aload_n hC dX11_feed_29 rfl 0 rfl ?_
    refine fg_10_0 hC h0 k_380 dX11_feed_30 rfl hM (fun j6 hj6 hM => ?_)
    refine fg_3_1 hC hj6 k_174 dX11_feed_33 rfl hM (fun j7 hj7 hM => ?_)
    refine g_iload_n hC dX11_feed_36 rfl 2 rfl ?_
    refine g_callVv0 (As := [.int a2]) (st' := []) (k := j7) (L' := 0) hC Y_X9_addFour I_X9_addFour k_427 ⟨by decide, by decide⟩ hj7 (ci := 8) (by decide) rfl dX11_feed_37 rfl rfl rfl (Nat.le_of_ble_eq_true rfl) ⟨Nat.zero_le _, Nat.zero_le _⟩ hM (fun c hc => c_X9_addFour (xE X) j7 hj7 a2 c hc) (fun c8 hM => ?_)
    refine g_aload_n hC dX11_feed_40 rfl 0 rfl ?_
    refine fg_10_0 hC h0 k_380 dX11_feed_41 rfl hM (fun j9 hj9 hM => ?_)
    refine fg_3_1 hC hj9 k_174 dX11_feed_44 rfl hM (fun j10 hj10 hM => ?_)
    refine g_iload_n hC dX11_feed_47 rfl 3 rfl ?_
    refine g_callVv0 (As := [.int a3]) (st' := []) (k := j10) (L' := 0) hC Y_X9_addFour I_X9_addFour k_427 ⟨by decide, by decide⟩ hj10 (ci := 8) (by decide) rfl dX11_feed_48 rfl rfl rfl (Nat.le_of_ble_eq_true rfl) ⟨Nat.zero_le _, Nat.zero_le _⟩ hM (fun c hc => c_X9_addFour (xE X) j10 hj10 a3 c hc) (fun c11 hM => ?_)
    refine g_aload_n hC dX11_feed_51 rfl 0 rfl ?_
    refine fg_10_0 hC h0 k_380 dX11_feed_52 rfl hM (fun j12 hj12 hM => ?_)
    refine fg_3_1 hC hj12 k_174 dX11_feed_55 rfl hM (fun j13 hj13 hM => ?_)
    refine g_iload hC dX11_feed_58 rfl 4 rfl ?_
    refine g_callVv0 (As := [.int a4]) (st' := []) (k := j13) (L' := 0) hC Y_X9_addFour I_X9_addFour k_427 ⟨by decide, by decide⟩ hj13 (ci := 8) (by decide) rfl dX11_feed_60 rfl rfl rfl (Nat.le_of_ble_eq_true rfl) ⟨Nat.zero_le _, Nat.zero_le _⟩ hM (fun c hc => c_X9_addFour (xE X) j13 hj13 a4 c hc) (fun c14 hM => ?_)
    refine g_aload_n hC dX11_feed_63 rfl 0 rfl ?_
    refine fg_10_0 hC h0 k_380 dX11_feed_64 rfl hM (fun j15 hj15 hM => ?_)
    refine fg_3_1 hC hj15 k_174 dX11_feed_67 rfl hM (fun j16 hj16 hM => ?_)
    refine g_iload hC dX11_feed_70 rfl 5 rfl ?_
    refine g_callVv0 (As := [.int a5]) (st' := []) (k := j16) (L' := 0) hC Y_X9_addFour I_X9_addFour k_427 ⟨by decide, by decide⟩ hj16 (ci := 8) (by decide) rfl dX11_feed_72 rfl rfl rfl (Nat.le_of_ble_eq_true rfl) ⟨Nat.zero_le _, Nat.zero_le _⟩ hM (fun c hc => c_X9_addFour (xE X) j16 hj16 a5 c hc) (fun c17 hM => ?_)
    refine g_aload_n hC dX11_feed_75 rfl 0 rfl ?_
    refine fg_10_0 hC h0 k_380 dX11_feed_76 rfl hM (fun j18 hj18 hM => ?_)
    refine fg_3_1 hC hj18 k_174 dX11_feed_79 rfl hM (fun j19 hj19 hM => ?_)
    refine fg_8_1 hC hj19 k_164 dX11_feed_82 rfl ?_
    cases hM
    exact g_reti hR dX11_feed_85 rfl
  · refine g_iconst (v := -1) hC dX11_feed_16 rfl ic_m1 ?_
    obtain rfl := Option.some.inj hM
    exact g_reti hR dX11_feed_17 rfl
def MX11_end (σ : Sto) (ρ : Rho) (a0 : Nat) (a1 : Int32) : Option (Int32 × Sto) :=
  if a1 < 0 then
    some ((-1 : Int32), σ)
  else
    Option.bind (ρ a0 0) fun j1 =>
    Option.bind (ρ j1 1) fun j2 =>
    if a1 ≤ (σ j2 1) then
      Option.bind (ρ a0 0) fun j3 =>
      Option.bind (ρ j3 1) fun j4 =>
      bn (su σ j4 1 a1) fun σ5 =>
      some (a1, σ5)
    else
      some ((-1 : Int32), σ)
set_option maxHeartbeats 4000000 in
set_option maxRecDepth 100000 in
theorem c_X11_end (E : EX) {n : Nat} {σ : Sto} {ρ : Rho} (a0 : Nat) (h0 : Sh n a0 10) (a1 : Int32) (res : Int32 × Sto) (hM : MX11_end σ ρ a0 a1 = some res) : CTi E yX11_end cX11_end 2 (some .int) 0 [.ref (eb E + a0), .int a1] n σ ρ res.1 res.2 ρ := by
  refine ct_i (by decide +kernel) rfl (Nat.le_of_ble_eq_true rfl) (fun X hE hml hC hR => ?_)
  subst hE
  show G X 0 0 n σ ρ 0 [(0, vr X a0), (1, .int a1)] []
  replace hC : Cx X cX11_end RX11 0 := hC
  unfold MX11_end at hM
  refine g_iload_n hC dX11_end_0 rfl 1 rfl ?_
  refine g_if_lt (tgt := 18) hC dX11_end_1 rfl (by decide) hM (fun hM => ?_) (fun hM => ?_)
  · refine g_iconst (v := -1) hC dX11_end_18 rfl ic_m1 ?_
    obtain rfl := Option.some.inj hM
    exact g_reti hR dX11_end_19 rfl
  · refine g_iload_n hC dX11_end_4 rfl 1 rfl ?_
    refine g_aload_n hC dX11_end_5 rfl 0 rfl ?_
    refine fg_10_0 hC h0 k_380 dX11_end_6 rfl hM (fun j1 hj1 hM => ?_)
    refine fg_3_1 hC hj1 k_174 dX11_end_9 rfl hM (fun j2 hj2 hM => ?_)
    refine fg_8_1 hC hj2 k_164 dX11_end_12 rfl ?_
    refine g_icmp_le (tgt := 20) hC dX11_end_15 rfl (by decide) hM (fun hM => ?_) (fun hM => ?_)
    · refine g_aload_n hC dX11_end_20 rfl 0 rfl ?_
      refine fg_10_0 hC h0 k_380 dX11_end_21 rfl hM (fun j3 hj3 hM => ?_)
      refine fg_3_1 hC hj3 k_174 dX11_end_24 rfl hM (fun j4 hj4 hM => ?_)
      refine g_iload_n hC dX11_end_27 rfl 1 rfl ?_
      refine fp_8_1 hC hj4 k_164 dX11_end_28 rfl hM (fun σ5 hM => ?_)
      refine g_iload_n hC dX11_end_31 rfl 1 rfl ?_
      cases hM
      exact g_reti hR dX11_end_32 rfl
    · refine g_iconst (v := -1) hC dX11_end_18 rfl ic_m1 ?_
      obtain rfl := Option.some.inj hM
      exact g_reti hR dX11_end_19 rfl
def MX11_fault (σ : Sto) (ρ : Rho) (a0 : Nat) (a1 : Int32) : Option (Int32) :=
  if a1 = 0 then
    Option.bind (ρ a0 0) fun j2 =>
    some (σ j2 2)
  else
    if a1 = (1 : Int32) then
      Option.bind (ρ a0 0) fun j1 =>
      some (σ j1 3)
    else
      some (-1 : Int32)
set_option maxHeartbeats 4000000 in
set_option maxRecDepth 100000 in
theorem c_X11_fault (E : EX) {n : Nat} {σ : Sto} {ρ : Rho} (a0 : Nat) (h0 : Sh n a0 10) (a1 : Int32) (res : Int32) (hM : MX11_fault σ ρ a0 a1 = some res) : CTi E yX11_fault cX11_fault 2 (some .int) 0 [.ref (eb E + a0), .int a1] n σ ρ res σ ρ := by
  refine ct_i (by decide +kernel) rfl (Nat.le_of_ble_eq_true rfl) (fun X hE hml hC hR => ?_)
  subst hE
  show G X 0 0 n σ ρ 0 [(0, vr X a0), (1, .int a1)] []
  replace hC : Cx X cX11_fault RX11 0 := hC
  unfold MX11_fault at hM
  refine g_iload_n hC dX11_fault_0 rfl 1 rfl ?_
  refine g_if_ne (tgt := 12) hC dX11_fault_1 rfl (by decide) hM (fun hM => ?_) (fun hM => ?_)
  · refine g_iload_n hC dX11_fault_12 rfl 1 rfl ?_
    refine g_iconst (v := 1) hC dX11_fault_13 rfl ic_1 ?_
    refine g_icmp_ne (tgt := 27) hC dX11_fault_14 rfl (by decide) hM (fun hM => ?_) (fun hM => ?_)
    · refine g_iconst (v := -1) hC dX11_fault_27 rfl ic_m1 ?_
      obtain rfl := Option.some.inj hM
      exact g_reti hR dX11_fault_28 rfl
    · refine g_aload_n hC dX11_fault_17 rfl 0 rfl ?_
      refine fg_10_0 hC h0 k_380 dX11_fault_18 rfl hM (fun j1 hj1 hM => ?_)
      refine fg_3_3 hC hj1 k_178 dX11_fault_21 rfl ?_
      refine g_goto (tgt := 28) hC dX11_fault_24 rfl (by decide) ?_
      cases hM
      exact g_reti hR dX11_fault_28 rfl
  · refine g_aload_n hC dX11_fault_4 rfl 0 rfl ?_
    refine fg_10_0 hC h0 k_380 dX11_fault_5 rfl hM (fun j2 hj2 hM => ?_)
    refine fg_3_2 hC hj2 k_176 dX11_fault_8 rfl ?_
    cases hM
    exact g_reti hR dX11_fault_11 rfl
def MX11_refuse (σ : Sto) (ρ : Rho) (a0 : Nat) (a1 : Int32) (a2 : Int32) : Option (Int32 × Sto) :=
  Option.bind (ρ a0 0) fun j1 =>
  bn (su σ j1 4 a1) fun σ2 =>
  Option.bind (ρ a0 0) fun j3 =>
  bn (su σ2 j3 5 a2) fun σ4 =>
  some (a1, σ4)
set_option maxHeartbeats 4000000 in
set_option maxRecDepth 100000 in
theorem c_X11_refuse (E : EX) {n : Nat} {σ : Sto} {ρ : Rho} (a0 : Nat) (h0 : Sh n a0 10) (a1 : Int32) (a2 : Int32) (res : Int32 × Sto) (hM : MX11_refuse σ ρ a0 a1 a2 = some res) : CTi E yX11_refuse cX11_refuse 3 (some .int) 0 [.ref (eb E + a0), .int a1, .int a2] n σ ρ res.1 res.2 ρ := by
  refine ct_i (by decide +kernel) rfl (Nat.le_of_ble_eq_true rfl) (fun X hE hml hC hR => ?_)
  subst hE
  show G X 0 0 n σ ρ 0 [(0, vr X a0), (1, .int a1), (2, .int a2)] []
  replace hC : Cx X cX11_refuse RX11 0 := hC
  unfold MX11_refuse at hM
  refine g_aload_n hC dX11_refuse_0 rfl 0 rfl ?_
  refine fg_10_0 hC h0 k_380 dX11_refuse_1 rfl hM (fun j1 hj1 hM => ?_)
  refine g_iload_n hC dX11_refuse_4 rfl 1 rfl ?_
  refine fp_3_4 hC hj1 k_180 dX11_refuse_5 rfl hM (fun σ2 hM => ?_)
  refine g_aload_n hC dX11_refuse_8 rfl 0 rfl ?_
  refine fg_10_0 hC h0 k_380 dX11_refuse_9 rfl hM (fun j3 hj3 hM => ?_)
  refine g_iload_n hC dX11_refuse_12 rfl 2 rfl ?_
  refine fp_3_5 hC hj3 k_182 dX11_refuse_13 rfl hM (fun σ4 hM => ?_)
  refine g_iload_n hC dX11_refuse_16 rfl 1 rfl ?_
  cases hM
  exact g_reti hR dX11_refuse_17 rfl
def MX11_accept (σ : Sto) (ρ : Rho) (a0 : Nat) : Option (Int32 × Sto) :=
  Option.bind (ρ a0 0) fun j1 =>
  bn (su σ j1 4 ((0 : Int32))) fun σ2 =>
  Option.bind (ρ a0 0) fun j3 =>
  bn (su σ2 j3 5 ((0 : Int32))) fun σ4 =>
  some ((0 : Int32), σ4)
set_option maxHeartbeats 4000000 in
set_option maxRecDepth 100000 in
theorem c_X11_accept (E : EX) {n : Nat} {σ : Sto} {ρ : Rho} (a0 : Nat) (h0 : Sh n a0 10) (res : Int32 × Sto) (hM : MX11_accept σ ρ a0 = some res) : CTi E yX11_accept cX11_accept 1 (some .int) 0 [.ref (eb E + a0)] n σ ρ res.1 res.2 ρ := by
  refine ct_i (by decide +kernel) rfl (Nat.le_of_ble_eq_true rfl) (fun X hE hml hC hR => ?_)
  subst hE
  show G X 0 0 n σ ρ 0 [(0, vr X a0)] []
  replace hC : Cx X cX11_accept RX11 0 := hC
  unfold MX11_accept at hM
  refine g_aload_n hC dX11_accept_0 rfl 0 rfl ?_
  refine fg_10_0 hC h0 k_380 dX11_accept_1 rfl hM (fun j1 hj1 hM => ?_)
  refine g_iconst (v := 0) hC dX11_accept_4 rfl ic_0 ?_
  refine fp_3_4 hC hj1 k_180 dX11_accept_5 rfl hM (fun σ2 hM => ?_)
  refine g_aload_n hC dX11_accept_8 rfl 0 rfl ?_
  refine fg_10_0 hC h0 k_380 dX11_accept_9 rfl hM (fun j3 hj3 hM => ?_)
  refine g_iconst (v := 0) hC dX11_accept_12 rfl ic_0 ?_
  refine fp_3_5 hC hj3 k_182 dX11_accept_13 rfl hM (fun σ4 hM => ?_)
  refine g_iconst (v := 0) hC dX11_accept_16 rfl ic_0 ?_
  cases hM
  exact g_reti hR dX11_accept_17 rfl
def MX11_prime (σ : Sto) (ρ : Rho) (a0 : Nat) (a1 : Int32) : Option (Int32 × Sto) :=
  Option.bind (MX11_isPrime a1) fun c1 =>
  if c1 = 0 then
    Option.bind (MX11_refuse σ ρ a0 ((1 : Int32)) ((0 : Int32))) fun c13 =>
    some (c13.1, c13.2)
  else
    Option.bind (ρ a0 0) fun j2 =>
    Option.bind (ρ j2 0) fun j3 =>
    if (σ j3 0) = a1 then
      Option.bind (MX11_refuse σ ρ a0 ((2 : Int32)) ((0 : Int32))) fun c12 =>
      some (c12.1, c12.2)
    else
      Option.bind (ρ a0 1) fun j4 =>
      Option.bind (ρ a0 0) fun j5 =>
      Option.bind (ρ j5 0) fun j6 =>
      Option.bind (MX5_keep σ ρ j4 j6) fun c7 =>
      Option.bind (ρ a0 0) fun j8 =>
      Option.bind (ρ j8 0) fun j9 =>
      Option.bind (MX8_changePrime c7 j9 a1) fun c10 =>
      Option.bind (MX11_accept c10 ρ a0) fun c11 =>
      some (c11.1, c11.2)
set_option maxHeartbeats 4000000 in
set_option maxRecDepth 100000 in
theorem c_X11_prime (E : EX) {n : Nat} {σ : Sto} {ρ : Rho} (a0 : Nat) (h0 : Sh n a0 10) (a1 : Int32) (res : Int32 × Sto) (hM : MX11_prime σ ρ a0 a1 = some res) : CTi E yX11_prime cX11_prime 2 (some .int) 3 [.ref (eb E + a0), .int a1] n σ ρ res.1 res.2 ρ := by
  refine ct_i (by decide +kernel) rfl (Nat.le_of_ble_eq_true rfl) (fun X hE hml hC hR => ?_)
  subst hE
  show G X 0 0 n σ ρ 0 [(0, vr X a0), (1, .int a1)] []
  replace hC : Cx X cX11_prime RX11 3 := hC
  unfold MX11_prime at hM
  refine g_iload_n hC dX11_prime_0 rfl 1 rfl ?_
  refine g_callSi (As := [.int a1]) (st' := []) (L' := 0) hC Y_X11_isPrime k_543 k_636 ⟨by decide, by decide⟩ dX11_prime_1 rfl rfl rfl (Nat.le_of_ble_eq_true rfl) ⟨Nat.zero_le _, Nat.zero_le _⟩ hM (fun c hc => c_X11_isPrime (xE X) a1 c hc) (fun c1 hM => ?_)
  refine g_if_ne (tgt := 14) hC dX11_prime_4 rfl (by decide) hM (fun hM => ?_) (fun hM => ?_)
  · refine g_aload_n hC dX11_prime_14 rfl 0 rfl ?_
    refine fg_10_0 hC h0 k_380 dX11_prime_15 rfl hM (fun j2 hj2 hM => ?_)
    refine fg_3_0 hC hj2 k_172 dX11_prime_18 rfl hM (fun j3 hj3 hM => ?_)
    refine fg_7_0 hC hj3 k_138 dX11_prime_21 rfl ?_
    refine g_iload_n hC dX11_prime_24 rfl 1 rfl ?_
    refine g_icmp_ne (tgt := 35) hC dX11_prime_25 rfl (by decide) hM (fun hM => ?_) (fun hM => ?_)
    · refine g_aload_n hC dX11_prime_35 rfl 0 rfl ?_
      refine fg_10_1 hC h0 k_381 dX11_prime_36 rfl hM (fun j4 hj4 hM => ?_)
      refine g_aload_n hC dX11_prime_39 rfl 0 rfl ?_
      refine fg_10_0 hC h0 k_380 dX11_prime_40 rfl hM (fun j5 hj5 hM => ?_)
      refine fg_3_0 hC hj5 k_172 dX11_prime_43 rfl hM (fun j6 hj6 hM => ?_)
      refine g_callVv0 (As := [vr X j6]) (st' := []) (k := j4) (L' := 2) hC Y_X5_keep I_X5_keep k_641 ⟨by decide, by decide⟩ hj4 (ci := 4) (by decide) rfl dX11_prime_46 rfl rfl rfl (Nat.le_of_ble_eq_true rfl) ⟨Nat.zero_le _, Nat.zero_le _⟩ hM (fun c hc => c_X5_keep (xE X) j4 hj4 j6 hj6 c hc) (fun c7 hM => ?_)
      refine g_aload_n hC dX11_prime_49 rfl 0 rfl ?_
      refine fg_10_0 hC h0 k_380 dX11_prime_50 rfl hM (fun j8 hj8 hM => ?_)
      refine fg_3_0 hC hj8 k_172 dX11_prime_53 rfl hM (fun j9 hj9 hM => ?_)
      refine g_iload_n hC dX11_prime_56 rfl 1 rfl ?_
      refine g_callVv0 (As := [.int a1]) (st' := []) (k := j9) (L' := 0) hC Y_X8_changePrime I_X8_changePrime k_649 ⟨by decide, by decide⟩ hj9 (ci := 7) (by decide) rfl dX11_prime_57 rfl rfl rfl (Nat.le_of_ble_eq_true rfl) ⟨Nat.zero_le _, Nat.zero_le _⟩ hM (fun c hc => c_X8_changePrime (xE X) j9 hj9 a1 c hc) (fun c10 hM => ?_)
      refine g_aload_n hC dX11_prime_60 rfl 0 rfl ?_
      refine g_callVi (As := []) (st' := []) (k := a0) (L' := 0) hC Y_X11_accept I_X11_accept k_650 ⟨by decide, by decide⟩ h0 (ci := 10) (by decide) rfl dX11_prime_61 rfl rfl rfl (Nat.le_of_ble_eq_true rfl) ⟨Nat.zero_le _, Nat.zero_le _⟩ hM (fun c hc => c_X11_accept (xE X) a0 h0 c hc) (fun c11 hM => ?_)
      cases hM
      exact g_reti hR dX11_prime_64 rfl
    · refine g_aload_n hC dX11_prime_28 rfl 0 rfl ?_
      refine g_iconst (v := 2) hC dX11_prime_29 rfl ic_2 ?_
      refine g_iconst (v := 0) hC dX11_prime_30 rfl ic_0 ?_
      refine g_callVi (As := [.int ((2 : Int32)), .int ((0 : Int32))]) (st' := []) (k := a0) (L' := 0) hC Y_X11_refuse I_X11_refuse k_637 ⟨by decide, by decide⟩ h0 (ci := 10) (by decide) rfl dX11_prime_31 rfl rfl rfl (Nat.le_of_ble_eq_true rfl) ⟨Nat.zero_le _, Nat.zero_le _⟩ hM (fun c hc => c_X11_refuse (xE X) a0 h0 ((2 : Int32)) ((0 : Int32)) c hc) (fun c12 hM => ?_)
      cases hM
      exact g_reti hR dX11_prime_34 rfl
  · refine g_aload_n hC dX11_prime_7 rfl 0 rfl ?_
    refine g_iconst (v := 1) hC dX11_prime_8 rfl ic_1 ?_
    refine g_iconst (v := 0) hC dX11_prime_9 rfl ic_0 ?_
    refine g_callVi (As := [.int ((1 : Int32)), .int ((0 : Int32))]) (st' := []) (k := a0) (L' := 0) hC Y_X11_refuse I_X11_refuse k_637 ⟨by decide, by decide⟩ h0 (ci := 10) (by decide) rfl dX11_prime_10 rfl rfl rfl (Nat.le_of_ble_eq_true rfl) ⟨Nat.zero_le _, Nat.zero_le _⟩ hM (fun c hc => c_X11_refuse (xE X) a0 h0 ((1 : Int32)) ((0 : Int32)) c hc) (fun c13 hM => ?_)
    cases hM
    exact g_reti hR dX11_prime_13 rfl
def MX11_isNumber (a0 : Int32) : Option (Int32) :=
  if a0 < 0 then
    zr ((0 : Int32)) (some (0 : Int32))
  else
    if (6 : Int32) ≤ a0 then
      zr ((0 : Int32)) (some (0 : Int32))
    else
      zr ((1 : Int32)) (some (1 : Int32))
set_option maxHeartbeats 4000000 in
set_option maxRecDepth 100000 in
theorem c_X11_isNumber (E : EX) {n : Nat} {σ : Sto} {ρ : Rho} (a0 : Int32) (res : Int32) (hM : MX11_isNumber a0 = some res) : CTi E yX11_isNumber cX11_isNumber 1 (some .boolean) 0 [.int a0] n σ ρ res σ ρ := by
  refine ct_i (by decide +kernel) rfl (Nat.le_of_ble_eq_true rfl) (fun X hE hml hC hR => ?_)
  subst hE
  show G X 0 0 n σ ρ 0 [(0, .int a0)] []
  replace hC : Cx X cX11_isNumber RX11 0 := hC
  unfold MX11_isNumber at hM
  refine g_iload_n hC dX11_isNumber_0 rfl 0 rfl ?_
  refine g_if_lt (tgt := 14) hC dX11_isNumber_1 rfl (by decide) hM (fun hM => ?_) (fun hM => ?_)
  · refine g_iconst (v := 0) hC dX11_isNumber_14 rfl ic_0 ?_
    exact g_retz hM dX11_isNumber_15 rfl (fun h => by cases h; exact hR)
  · refine g_iload_n hC dX11_isNumber_4 rfl 0 rfl ?_
    refine g_bipush (v := 6) hC dX11_isNumber_5 rfl ib_6 ?_
    refine g_icmp_ge (tgt := 14) hC dX11_isNumber_7 rfl (by decide) hM (fun hM => ?_) (fun hM => ?_)
    · refine g_iconst (v := 0) hC dX11_isNumber_14 rfl ic_0 ?_
      exact g_retz hM dX11_isNumber_15 rfl (fun h => by cases h; exact hR)
    · refine g_iconst (v := 1) hC dX11_isNumber_10 rfl ic_1 ?_
      refine g_goto (tgt := 15) hC dX11_isNumber_11 rfl (by decide) ?_
      exact g_retz hM dX11_isNumber_15 rfl (fun h => by cases h; exact hR)
def MX11_become (σ : Sto) (ρ : Rho) (a0 : Nat) (a1 : Int32) (a2 : Nat) : Option (Int32 × Sto) :=
  Option.bind (MX3_isZero σ a2) fun c1 =>
  if c1 = 0 then
    Option.bind (MX3_isWithinLimit σ a2) fun c2 =>
    if c2 = 0 then
      Option.bind (MX11_refuse σ ρ a0 ((4 : Int32)) ((0 : Int32))) fun c11 =>
      some (c11.1, c11.2)
    else
      Option.bind (ρ a0 1) fun j3 =>
      Option.bind (ρ a0 0) fun j4 =>
      Option.bind (ρ j4 0) fun j5 =>
      Option.bind (MX5_keep σ ρ j3 j5) fun c6 =>
      Option.bind (ρ a0 0) fun j7 =>
      Option.bind (ρ j7 0) fun j8 =>
      Option.bind (MX8_write c6 ρ j8 a1 a2) fun c9 =>
      Option.bind (MX11_accept c9 ρ a0) fun c10 =>
      some (c10.1, c10.2)
  else
    Option.bind (MX11_refuse σ ρ a0 ((3 : Int32)) ((0 : Int32))) fun c12 =>
    some (c12.1, c12.2)
set_option maxHeartbeats 4000000 in
set_option maxRecDepth 100000 in
theorem c_X11_become (E : EX) {n : Nat} {σ : Sto} {ρ : Rho} (a0 : Nat) (h0 : Sh n a0 10) (a1 : Int32) (a2 : Nat) (h2 : Sh n a2 2) (res : Int32 × Sto) (hM : MX11_become σ ρ a0 a1 a2 = some res) : CTi E yX11_become cX11_become 3 (some .int) 3 [.ref (eb E + a0), .int a1, .ref (eb E + a2)] n σ ρ res.1 res.2 ρ := by
  refine ct_i (by decide +kernel) rfl (Nat.le_of_ble_eq_true rfl) (fun X hE hml hC hR => ?_)
  subst hE
  show G X 0 0 n σ ρ 0 [(0, vr X a0), (1, .int a1), (2, vr X a2)] []
  replace hC : Cx X cX11_become RX11 3 := hC
  unfold MX11_become at hM
  refine g_aload_n hC dX11_become_0 rfl 2 rfl ?_
  refine g_callVi (As := []) (st' := []) (k := a2) (L' := 0) hC Y_X3_isZero I_X3_isZero k_674 ⟨by decide, by decide⟩ h2 (ci := 2) (by decide) rfl dX11_become_1 rfl rfl rfl (Nat.le_of_ble_eq_true rfl) ⟨Nat.zero_le _, Nat.zero_le _⟩ hM (fun c hc => c_X3_isZero (xE X) a2 h2 c hc) (fun c1 hM => ?_)
  refine g_if_eq (tgt := 14) hC dX11_become_4 rfl (by decide) hM (fun hM => ?_) (fun hM => ?_)
  · refine g_aload_n hC dX11_become_14 rfl 2 rfl ?_
    refine g_callVi (As := []) (st' := []) (k := a2) (L' := 1) hC Y_X3_isWithinLimit I_X3_isWithinLimit k_675 ⟨by decide, by decide⟩ h2 (ci := 2) (by decide) rfl dX11_become_15 rfl rfl rfl (Nat.le_of_ble_eq_true rfl) ⟨Nat.zero_le _, Nat.zero_le _⟩ hM (fun c hc => c_X3_isWithinLimit (xE X) a2 h2 c hc) (fun c2 hM => ?_)
    refine g_if_ne (tgt := 28) hC dX11_become_18 rfl (by decide) hM (fun hM => ?_) (fun hM => ?_)
    · refine g_aload_n hC dX11_become_28 rfl 0 rfl ?_
      refine fg_10_1 hC h0 k_381 dX11_become_29 rfl hM (fun j3 hj3 hM => ?_)
      refine g_aload_n hC dX11_become_32 rfl 0 rfl ?_
      refine fg_10_0 hC h0 k_380 dX11_become_33 rfl hM (fun j4 hj4 hM => ?_)
      refine fg_3_0 hC hj4 k_172 dX11_become_36 rfl hM (fun j5 hj5 hM => ?_)
      refine g_callVv0 (As := [vr X j5]) (st' := []) (k := j3) (L' := 2) hC Y_X5_keep I_X5_keep k_641 ⟨by decide, by decide⟩ hj3 (ci := 4) (by decide) rfl dX11_become_39 rfl rfl rfl (Nat.le_of_ble_eq_true rfl) ⟨Nat.zero_le _, Nat.zero_le _⟩ hM (fun c hc => c_X5_keep (xE X) j3 hj3 j5 hj5 c hc) (fun c6 hM => ?_)
      refine g_aload_n hC dX11_become_42 rfl 0 rfl ?_
      refine fg_10_0 hC h0 k_380 dX11_become_43 rfl hM (fun j7 hj7 hM => ?_)
      refine fg_3_0 hC hj7 k_172 dX11_become_46 rfl hM (fun j8 hj8 hM => ?_)
      refine g_iload_n hC dX11_become_49 rfl 1 rfl ?_
      refine g_aload_n hC dX11_become_50 rfl 2 rfl ?_
      refine g_callVv0 (As := [.int a1, vr X a2]) (st' := []) (k := j8) (L' := 1) hC Y_X8_write I_X8_write k_676 ⟨by decide, by decide⟩ hj8 (ci := 7) (by decide) rfl dX11_become_51 rfl rfl rfl (Nat.le_of_ble_eq_true rfl) ⟨Nat.zero_le _, Nat.zero_le _⟩ hM (fun c hc => c_X8_write (xE X) j8 hj8 a1 a2 h2 c hc) (fun c9 hM => ?_)
      refine g_aload_n hC dX11_become_54 rfl 0 rfl ?_
      refine g_callVi (As := []) (st' := []) (k := a0) (L' := 0) hC Y_X11_accept I_X11_accept k_650 ⟨by decide, by decide⟩ h0 (ci := 10) (by decide) rfl dX11_become_55 rfl rfl rfl (Nat.le_of_ble_eq_true rfl) ⟨Nat.zero_le _, Nat.zero_le _⟩ hM (fun c hc => c_X11_accept (xE X) a0 h0 c hc) (fun c10 hM => ?_)
      cases hM
      exact g_reti hR dX11_become_58 rfl
    · refine g_aload_n hC dX11_become_21 rfl 0 rfl ?_
      refine g_iconst (v := 4) hC dX11_become_22 rfl ic_4 ?_
      refine g_iconst (v := 0) hC dX11_become_23 rfl ic_0 ?_
      refine g_callVi (As := [.int ((4 : Int32)), .int ((0 : Int32))]) (st' := []) (k := a0) (L' := 0) hC Y_X11_refuse I_X11_refuse k_637 ⟨by decide, by decide⟩ h0 (ci := 10) (by decide) rfl dX11_become_24 rfl rfl rfl (Nat.le_of_ble_eq_true rfl) ⟨Nat.zero_le _, Nat.zero_le _⟩ hM (fun c hc => c_X11_refuse (xE X) a0 h0 ((4 : Int32)) ((0 : Int32)) c hc) (fun c11 hM => ?_)
      cases hM
      exact g_reti hR dX11_become_27 rfl
  · refine g_aload_n hC dX11_become_7 rfl 0 rfl ?_
    refine g_iconst (v := 3) hC dX11_become_8 rfl ic_3 ?_
    refine g_iconst (v := 0) hC dX11_become_9 rfl ic_0 ?_
    refine g_callVi (As := [.int ((3 : Int32)), .int ((0 : Int32))]) (st' := []) (k := a0) (L' := 0) hC Y_X11_refuse I_X11_refuse k_637 ⟨by decide, by decide⟩ h0 (ci := 10) (by decide) rfl dX11_become_10 rfl rfl rfl (Nat.le_of_ble_eq_true rfl) ⟨Nat.zero_le _, Nat.zero_le _⟩ hM (fun c hc => c_X11_refuse (xE X) a0 h0 ((3 : Int32)) ((0 : Int32)) c hc) (fun c12 hM => ?_)
    cases hM
    exact g_reti hR dX11_become_13 rfl
