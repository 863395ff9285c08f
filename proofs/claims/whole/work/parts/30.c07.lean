def FX8_write_9 (ρ : Rho) (a0 : Nat) (a1 : Int32) (a2 : Nat) (rec : Sto → Int32 → Option (Sto)) (σ : Sto) (v3 : Int32) : Option (Sto) :=
  if (6 : Int32) ≤ v3 then
    some σ
  else
    Option.bind (ρ a0 3) fun j1 =>
    Option.bind (MX3_nth σ a2 v3) fun c2 =>
    Option.bind (ap σ j1 (((a1 * (6 : Int32)) + v3)) c2) fun σ3 =>
    bn (v3 + (1 : Int32)) fun y4 =>
    rec σ3 y4
set_option maxHeartbeats 4000000 in
set_option maxRecDepth 100000 in
theorem bX8_write_9 {X : CX} {n : Nat} {ρ : Rho} {res : Sto} (hC : Cx X cX8_write RX8 1) (hml : (xc X).maxLocals = 4) (hR : RtV X cX8_write 0 0 n res ρ) (a0 : Nat) (a1 : Int32) (a2 : Nat) (h0 : Sh n a0 7) (h2 : Sh n a2 2) (fu : Nat) : ∀ (σ : Sto) (v3 : Int32), fixN (fun _ _ => none) (FX8_write_9 ρ a0 a1 a2) fu σ v3 = some res → G X 0 0 n σ ρ 9 [(0, vr X a0), (1, .int a1), (2, vr X a2), (3, .int v3)] [] := by
  refine fixN_ind (P := fun (f : Sto → Int32 → Option (Sto)) => ∀ (σ : Sto) (v3 : Int32), f σ v3 = some res → G X 0 0 n σ ρ 9 [(0, vr X a0), (1, .int a1), (2, vr X a2), (3, .int v3)] []) ?_ ?_ fu
  · intro σ v3 hM; cases hM
  · intro rec ih σ v3 hM
    unfold FX8_write_9 at hM
    refine g_iload_n hC dX8_write_9 rfl 3 rfl ?_
    refine g_bipush (v := 6) hC dX8_write_10 rfl ib_6 ?_
    refine g_icmp_ge (tgt := 37) hC dX8_write_12 rfl (by decide) hM (fun hM => ?_) (fun hM => ?_)
    · cases hM
      exact g_retv hR dX8_write_37 rfl
    · refine g_aload_n hC dX8_write_15 rfl 0 rfl ?_
      refine fg_7_3 hC h0 k_145 dX8_write_16 rfl hM (fun j1 hj1 hM => ?_)
      refine g_iload_n hC dX8_write_19 rfl 1 rfl ?_
      refine g_bipush (v := 6) hC dX8_write_20 rfl ib_6 ?_
      refine g_imul hC dX8_write_22 rfl ?_
      refine g_iload_n hC dX8_write_23 rfl 3 rfl ?_
      refine g_iadd hC dX8_write_24 rfl ?_
      refine g_aload_n hC dX8_write_25 rfl 2 rfl ?_
      refine g_iload_n hC dX8_write_26 rfl 3 rfl ?_
      refine g_callVi (As := [.int v3]) (st' := [.int (((a1 * (6 : Int32)) + v3)), vr X j1]) (k := a2) (L' := 0) hC Y_X3_nth I_X3_nth k_613 ⟨by decide, by decide⟩ h2 (ci := 2) (by decide) rfl dX8_write_27 rfl rfl rfl (Nat.le_of_ble_eq_true rfl) ⟨Nat.zero_le _, Nat.zero_le _⟩ hM (fun c hc => c_X3_nth (xE X) a2 h2 v3 c hc) (fun c2 hM => ?_)
      refine g_iast hC hj1 dX8_write_30 rfl hM (fun σ3 hM => ?_)
      refine g_iinc (v := 1) hC (fun y4 => [(3, .int y4), (0, vr X a0), (1, .int a1), (2, vr X a2)]) dX8_write_31 rfl hM (j := 3) rfl ic_1 hml (by decide) (fun _ => rfl) (fun y4 hM => ?_)
      refine g_goto (tgt := 9) hC dX8_write_34 rfl (by decide) ?_
      exact g_sub [1, 2, 3, 0] (ih _ _ hM) rfl
def MX8_write (σ : Sto) (ρ : Rho) (a0 : Nat) (a1 : Int32) (a2 : Nat) : Option (Sto) :=
  Option.bind (MX11_isConic a1) fun c1 =>
  if c1 = 0 then
    some σ
  else
    bn ((0 : Int32)) fun y2 =>
    fixN (fun _ _ => none) (FX8_write_9 ρ a0 a1 a2) FU σ y2
set_option maxHeartbeats 4000000 in
set_option maxRecDepth 100000 in
theorem c_X8_write (E : EX) {n : Nat} {σ : Sto} {ρ : Rho} (a0 : Nat) (h0 : Sh n a0 7) (a1 : Int32) (a2 : Nat) (h2 : Sh n a2 2) (res : Sto) (hM : MX8_write σ ρ a0 a1 a2 = some res) : CTv E yX8_write cX8_write 4 1 0 0 [.ref (eb E + a0), .int a1, .ref (eb E + a2)] n σ ρ res ρ := by
  refine ct_v (by decide +kernel) (Nat.le_of_ble_eq_true rfl) (fun X hE hml hin hRm hC hR => ?_)
  subst hE
  show G X 0 0 n σ ρ 0 [(0, vr X a0), (1, .int a1), (2, vr X a2)] []
  replace hC : Cx X cX8_write RX8 1 := hC
  unfold MX8_write at hM
  refine g_iload_n hC dX8_write_0 rfl 1 rfl ?_
  refine g_callSNi (As := [.int a1]) (st' := []) (L' := 0) hC Y_X11_isConic k_559 k_612 ⟨by decide, by decide⟩ dX8_write_1 rfl rfl rfl (Nat.le_of_ble_eq_true rfl) ⟨Nat.zero_le _, Nat.zero_le _⟩ hM (fun c hc => c_X11_isConic (xE X) a1 c hc) (fun c1 hM => ?_)
  refine g_if_eq (tgt := 37) hC dX8_write_4 rfl (by decide) hM (fun hM => ?_) (fun hM => ?_)
  · cases hM
    exact g_retv hR dX8_write_37 rfl
  · refine g_iconst (v := 0) hC dX8_write_7 rfl ic_0 ?_
    refine g_istore_n hC (fun y2 => [(3, .int y2), (0, vr X a0), (1, .int a1), (2, vr X a2)]) dX8_write_8 rfl hM hml (by decide) (fun _ => rfl) (fun y2 hM => ?_)
    exact g_sub [1, 2, 3, 0] ((bX8_write_9 hC hml hR a0 a1 a2 h0 h2  FU) _ _ hM) rfl
def BX7_carryOut_47 (ρ : Rho) (a0 : Nat) (a1 : Int32) (a2 : Int32) (σ : Sto) (t0 : Int32) : Option (Int32 × Sto) :=
  bn t0 fun y1 =>
  if y1 = 0 then
    zr y1 (some (y1, σ))
  else
    Option.bind (ρ a0 0) fun j2 =>
    Option.bind (MX8_addMark σ ρ j2 a2) fun c3 =>
    zr y1 (some (y1, c3))
set_option maxHeartbeats 4000000 in
set_option maxRecDepth 100000 in
theorem bX7_carryOut_47 {X : CX} {n : Nat} {ρ : Rho} {res : Int32 × Sto} (hC : Cx X cX7_carryOut RX7 2) (hml : (xc X).maxLocals = 4) (hR : RtT (some .boolean) X cX7_carryOut n res.1 res.2 ρ) (a0 : Nat) (a1 : Int32) (a2 : Int32) (h0 : Sh n a0 6) : ∀ (σ : Sto) (t0 : Int32), BX7_carryOut_47 ρ a0 a1 a2 σ t0 = some res → G X 0 0 n σ ρ 47 [(0, vr X a0), (1, .int a1), (2, .int a2)] [.int t0] := by
  intro σ t0 hM
  unfold BX7_carryOut_47 at hM
  refine g_istore_n hC (fun y1 => [(3, .int y1), (0, vr X a0), (1, .int a1), (2, .int a2)]) dX7_carryOut_47 rfl hM hml (by decide) (fun _ => rfl) (fun y1 hM => ?_)
  refine g_iload_n hC dX7_carryOut_48 rfl 0 rfl ?_
  refine g_if_eq (tgt := 60) hC dX7_carryOut_49 rfl (by decide) hM (fun hM => ?_) (fun hM => ?_)
  · refine g_iload_n hC dX7_carryOut_60 rfl 0 rfl ?_
    exact g_retz hM dX7_carryOut_61 rfl (fun h => by cases h; exact hR)
  · refine g_aload_n hC dX7_carryOut_52 rfl 1 rfl ?_
    refine fg_6_0 hC h0 k_276 dX7_carryOut_53 rfl hM (fun j2 hj2 hM => ?_)
    refine g_iload_n hC dX7_carryOut_56 rfl 3 rfl ?_
    refine g_callVv0 (As := [.int a2]) (st' := []) (k := j2) (L' := 0) hC Y_X8_addMark I_X8_addMark k_585 ⟨by decide, by decide⟩ hj2 (ci := 7) (by decide) rfl dX7_carryOut_57 rfl rfl rfl (Nat.le_of_ble_eq_true rfl) ⟨Nat.zero_le _, Nat.zero_le _⟩ hM (fun c hc => c_X8_addMark (xE X) j2 hj2 a2 c hc) (fun c3 hM => ?_)
    refine g_iload_n hC dX7_carryOut_60 rfl 0 rfl ?_
    exact g_retz hM dX7_carryOut_61 rfl (fun h => by cases h; exact hR)
def BX7_carryOut_46 (ρ : Rho) (a0 : Nat) (a1 : Int32) (a2 : Int32) (σ : Sto) : Option (Int32 × Sto) :=
  BX7_carryOut_47 ρ a0 a1 a2 σ ((0 : Int32))
set_option maxHeartbeats 4000000 in
set_option maxRecDepth 100000 in
theorem bX7_carryOut_46 {X : CX} {n : Nat} {ρ : Rho} {res : Int32 × Sto} (hC : Cx X cX7_carryOut RX7 2) (hml : (xc X).maxLocals = 4) (hR : RtT (some .boolean) X cX7_carryOut n res.1 res.2 ρ) (a0 : Nat) (a1 : Int32) (a2 : Int32) (h0 : Sh n a0 6) : ∀ (σ : Sto), BX7_carryOut_46 ρ a0 a1 a2 σ = some res → G X 0 0 n σ ρ 46 [(0, vr X a0), (1, .int a1), (2, .int a2)] [] := by
  intro σ hM
  unfold BX7_carryOut_46 at hM
  refine g_iconst (v := 0) hC dX7_carryOut_46 rfl ic_0 ?_
  exact g_sub [0, 1, 2] ((bX7_carryOut_47 hC hml hR a0 a1 a2 h0 ) _ _ hM) rfl
def BX7_carryOut_99 (ρ : Rho) (a0 : Nat) (a1 : Int32) (a2 : Int32) (σ : Sto) (t0 : Int32) : Option (Int32 × Sto) :=
  bn t0 fun y1 =>
  if y1 = 0 then
    zr y1 (some (y1, σ))
  else
    Option.bind (ρ a0 0) fun j2 =>
    Option.bind (ρ a0 3) fun j3 =>
    Option.bind (MX8_write σ ρ j2 a2 j3) fun c4 =>
    zr y1 (some (y1, c4))
set_option maxHeartbeats 4000000 in
set_option maxRecDepth 100000 in
theorem bX7_carryOut_99 {X : CX} {n : Nat} {ρ : Rho} {res : Int32 × Sto} (hC : Cx X cX7_carryOut RX7 2) (hml : (xc X).maxLocals = 4) (hR : RtT (some .boolean) X cX7_carryOut n res.1 res.2 ρ) (a0 : Nat) (a1 : Int32) (a2 : Int32) (h0 : Sh n a0 6) : ∀ (σ : Sto) (t0 : Int32), BX7_carryOut_99 ρ a0 a1 a2 σ t0 = some res → G X 0 0 n σ ρ 99 [(0, vr X a0), (1, .int a1), (2, .int a2)] [.int t0] := by
  intro σ t0 hM
  unfold BX7_carryOut_99 at hM
  refine g_istore_n hC (fun y1 => [(3, .int y1), (0, vr X a0), (1, .int a1), (2, .int a2)]) dX7_carryOut_99 rfl hM hml (by decide) (fun _ => rfl) (fun y1 hM => ?_)
  refine g_iload_n hC dX7_carryOut_100 rfl 0 rfl ?_
  refine g_if_eq (tgt := 116) hC dX7_carryOut_101 rfl (by decide) hM (fun hM => ?_) (fun hM => ?_)
  · refine g_iload_n hC dX7_carryOut_116 rfl 0 rfl ?_
    exact g_retz hM dX7_carryOut_117 rfl (fun h => by cases h; exact hR)
  · refine g_aload_n hC dX7_carryOut_104 rfl 1 rfl ?_
    refine fg_6_0 hC h0 k_276 dX7_carryOut_105 rfl hM (fun j2 hj2 hM => ?_)
    refine g_iload_n hC dX7_carryOut_108 rfl 3 rfl ?_
    refine g_aload_n hC dX7_carryOut_109 rfl 1 rfl ?_
    refine fg_6_3 hC h0 k_282 dX7_carryOut_110 rfl hM (fun j3 hj3 hM => ?_)
    refine g_callVv0 (As := [.int a2, vr X j3]) (st' := []) (k := j2) (L' := 1) hC Y_X8_write I_X8_write k_608 ⟨by decide, by decide⟩ hj2 (ci := 7) (by decide) rfl dX7_carryOut_113 rfl rfl rfl (Nat.le_of_ble_eq_true rfl) ⟨Nat.zero_le _, Nat.zero_le _⟩ hM (fun c hc => c_X8_write (xE X) j2 hj2 a2 j3 hj3 c hc) (fun c4 hM => ?_)
    refine g_iload_n hC dX7_carryOut_116 rfl 0 rfl ?_
    exact g_retz hM dX7_carryOut_117 rfl (fun h => by cases h; exact hR)
def BX7_carryOut_98 (ρ : Rho) (a0 : Nat) (a1 : Int32) (a2 : Int32) (σ : Sto) : Option (Int32 × Sto) :=
  BX7_carryOut_99 ρ a0 a1 a2 σ ((0 : Int32))
set_option maxHeartbeats 4000000 in
set_option maxRecDepth 100000 in
theorem bX7_carryOut_98 {X : CX} {n : Nat} {ρ : Rho} {res : Int32 × Sto} (hC : Cx X cX7_carryOut RX7 2) (hml : (xc X).maxLocals = 4) (hR : RtT (some .boolean) X cX7_carryOut n res.1 res.2 ρ) (a0 : Nat) (a1 : Int32) (a2 : Int32) (h0 : Sh n a0 6) : ∀ (σ : Sto), BX7_carryOut_98 ρ a0 a1 a2 σ = some res → G X 0 0 n σ ρ 98 [(0, vr X a0), (1, .int a1), (2, .int a2)] [] := by
  intro σ hM
  unfold BX7_carryOut_98 at hM
  refine g_iconst (v := 0) hC dX7_carryOut_98 rfl ic_0 ?_
  exact g_sub [0, 1, 2] ((bX7_carryOut_99 hC hml hR a0 a1 a2 h0 ) _ _ hM) rfl
def BX7_carryOut_74 (ρ : Rho) (a0 : Nat) (a1 : Int32) (a2 : Int32) (σ : Sto) : Option (Int32 × Sto) :=
  Option.bind (ρ a0 3) fun j1 =>
  Option.bind (MX3_isZero σ j1) fun c2 =>
  if c2 = 0 then
    Option.bind (ρ a0 3) fun j3 =>
    Option.bind (MX3_isWithinLimit σ j3) fun c4 =>
    if c4 = 0 then
      BX7_carryOut_98 ρ a0 a1 a2 σ
    else
      BX7_carryOut_99 ρ a0 a1 a2 σ ((1 : Int32))
  else
    BX7_carryOut_98 ρ a0 a1 a2 σ
set_option maxHeartbeats 4000000 in
set_option maxRecDepth 100000 in
theorem bX7_carryOut_74 {X : CX} {n : Nat} {ρ : Rho} {res : Int32 × Sto} (hC : Cx X cX7_carryOut RX7 2) (hml : (xc X).maxLocals = 4) (hR : RtT (some .boolean) X cX7_carryOut n res.1 res.2 ρ) (a0 : Nat) (a1 : Int32) (a2 : Int32) (h0 : Sh n a0 6) : ∀ (σ : Sto), BX7_carryOut_74 ρ a0 a1 a2 σ = some res → G X 0 0 n σ ρ 74 [(0, vr X a0), (1, .int a1), (2, .int a2)] [] := by
  intro σ hM
  unfold BX7_carryOut_74 at hM
  refine g_aload_n hC dX7_carryOut_74 rfl 0 rfl ?_
  refine fg_6_3 hC h0 k_282 dX7_carryOut_75 rfl hM (fun j1 hj1 hM => ?_)
  refine g_callVi (As := []) (st' := []) (k := j1) (L' := 0) hC Y_X3_isZero I_X3_isZero k_597 ⟨by decide, by decide⟩ hj1 (ci := 2) (by decide) rfl dX7_carryOut_78 rfl rfl rfl (Nat.le_of_ble_eq_true rfl) ⟨Nat.zero_le _, Nat.zero_le _⟩ hM (fun c hc => c_X3_isZero (xE X) j1 hj1 c hc) (fun c2 hM => ?_)
  refine g_if_ne (tgt := 98) hC dX7_carryOut_81 rfl (by decide) hM (fun hM => ?_) (fun hM => ?_)
  · exact g_sub [0, 1, 2] ((bX7_carryOut_98 hC hml hR a0 a1 a2 h0 ) _ hM) rfl
  · refine g_aload_n hC dX7_carryOut_84 rfl 0 rfl ?_
    refine fg_6_3 hC h0 k_282 dX7_carryOut_85 rfl hM (fun j3 hj3 hM => ?_)
    refine g_callVi (As := []) (st' := []) (k := j3) (L' := 1) hC Y_X3_isWithinLimit I_X3_isWithinLimit k_601 ⟨by decide, by decide⟩ hj3 (ci := 2) (by decide) rfl dX7_carryOut_88 rfl rfl rfl (Nat.le_of_ble_eq_true rfl) ⟨Nat.zero_le _, Nat.zero_le _⟩ hM (fun c hc => c_X3_isWithinLimit (xE X) j3 hj3 c hc) (fun c4 hM => ?_)
    refine g_if_eq (tgt := 98) hC dX7_carryOut_91 rfl (by decide) hM (fun hM => ?_) (fun hM => ?_)
    · exact g_sub [0, 1, 2] ((bX7_carryOut_98 hC hml hR a0 a1 a2 h0 ) _ hM) rfl
    · refine g_iconst (v := 1) hC dX7_carryOut_94 rfl ic_1 ?_
      refine g_goto (tgt := 99) hC dX7_carryOut_95 rfl (by decide) ?_
      exact g_sub [0, 1, 2] ((bX7_carryOut_99 hC hml hR a0 a1 a2 h0 ) _ _ hM) rfl
def MX7_carryOut (σ : Sto) (ρ : Rho) (a0 : Nat) (a1 : Int32) (a2 : Int32) : Option (Int32 × Sto) :=
  if a1 = 0 then
    Option.bind (ρ a0 0) fun j6 =>
    Option.bind (MX8_changePrime σ j6 a2) fun c7 =>
    zr ((1 : Int32)) (some ((1 : Int32), c7))
  else
    if a1 = (1 : Int32) then
      Option.bind (ρ a0 0) fun j3 =>
      Option.bind (MX8_isMarked σ ρ j3 a2) fun c4 =>
      if c4 = 0 then
        Option.bind (ρ a0 0) fun j5 =>
        if (8 : Int32) ≤ (σ j5 1) then
          BX7_carryOut_46 ρ a0 a1 a2 σ
        else
          BX7_carryOut_47 ρ a0 a1 a2 σ ((1 : Int32))
      else
        BX7_carryOut_46 ρ a0 a1 a2 σ
    else
      if a1 = (3 : Int32) then
        Option.bind (ρ a0 3) fun j1 =>
        Option.bind (MX3_multiply σ j1) fun c2 =>
        BX7_carryOut_74 ρ a0 a1 a2 c2
      else
        BX7_carryOut_74 ρ a0 a1 a2 σ
set_option maxHeartbeats 4000000 in
set_option maxRecDepth 100000 in
theorem c_X7_carryOut (E : EX) {n : Nat} {σ : Sto} {ρ : Rho} (a0 : Nat) (h0 : Sh n a0 6) (a1 : Int32) (a2 : Int32) (res : Int32 × Sto) (hM : MX7_carryOut σ ρ a0 a1 a2 = some res) : CTi E yX7_carryOut cX7_carryOut 4 (some .boolean) 2 [.ref (eb E + a0), .int a1, .int a2] n σ ρ res.1 res.2 ρ := by
  refine ct_i (by decide +kernel) rfl (Nat.le_of_ble_eq_true rfl) (fun X hE hml hC hR => ?_)
  subst hE
  show G X 0 0 n σ ρ 0 [(0, vr X a0), (1, .int a1), (2, .int a2)] []
  replace hC : Cx X cX7_carryOut RX7 2 := hC
  unfold MX7_carryOut at hM
  refine g_iload_n hC dX7_carryOut_0 rfl 1 rfl ?_
  refine g_if_ne (tgt := 14) hC dX7_carryOut_1 rfl (by decide) hM (fun hM => ?_) (fun hM => ?_)
  · refine g_iload_n hC dX7_carryOut_14 rfl 1 rfl ?_
    refine g_iconst (v := 1) hC dX7_carryOut_15 rfl ic_1 ?_
    refine g_icmp_ne (tgt := 62) hC dX7_carryOut_16 rfl (by decide) hM (fun hM => ?_) (fun hM => ?_)
    · refine g_iload_n hC dX7_carryOut_62 rfl 1 rfl ?_
      refine g_iconst (v := 3) hC dX7_carryOut_63 rfl ic_3 ?_
      refine g_icmp_ne (tgt := 74) hC dX7_carryOut_64 rfl (by decide) hM (fun hM => ?_) (fun hM => ?_)
      · exact g_sub [0, 1, 2] ((bX7_carryOut_74 hC hml hR a0 a1 a2 h0 ) _ hM) rfl
      · refine g_aload_n hC dX7_carryOut_67 rfl 0 rfl ?_
        refine fg_6_3 hC h0 k_282 dX7_carryOut_68 rfl hM (fun j1 hj1 hM => ?_)
        refine g_callVv0 (As := []) (st' := []) (k := j1) (L' := 1) hC Y_X3_multiply I_X3_multiply k_589 ⟨by decide, by decide⟩ hj1 (ci := 2) (by decide) rfl dX7_carryOut_71 rfl rfl rfl (Nat.le_of_ble_eq_true rfl) ⟨Nat.zero_le _, Nat.zero_le _⟩ hM (fun c hc => c_X3_multiply (xE X) j1 hj1 c hc) (fun c2 hM => ?_)
        exact g_sub [0, 1, 2] ((bX7_carryOut_74 hC hml hR a0 a1 a2 h0 ) _ hM) rfl
    · refine g_aload_n hC dX7_carryOut_19 rfl 0 rfl ?_
      refine fg_6_0 hC h0 k_276 dX7_carryOut_20 rfl hM (fun j3 hj3 hM => ?_)
      refine g_iload_n hC dX7_carryOut_23 rfl 2 rfl ?_
      refine g_callVi (As := [.int a2]) (st' := []) (k := j3) (L' := 1) hC Y_X8_isMarked I_X8_isMarked k_577 ⟨by decide, by decide⟩ hj3 (ci := 7) (by decide) rfl dX7_carryOut_24 rfl rfl rfl (Nat.le_of_ble_eq_true rfl) ⟨Nat.zero_le _, Nat.zero_le _⟩ hM (fun c hc => c_X8_isMarked (xE X) j3 hj3 a2 c hc) (fun c4 hM => ?_)
      refine g_if_ne (tgt := 46) hC dX7_carryOut_27 rfl (by decide) hM (fun hM => ?_) (fun hM => ?_)
      · exact g_sub [0, 1, 2] ((bX7_carryOut_46 hC hml hR a0 a1 a2 h0 ) _ hM) rfl
      · refine g_aload_n hC dX7_carryOut_30 rfl 0 rfl ?_
        refine fg_6_0 hC h0 k_276 dX7_carryOut_31 rfl hM (fun j5 hj5 hM => ?_)
        refine fg_7_1 hC hj5 k_142 dX7_carryOut_34 rfl ?_
        refine g_bipush (v := 8) hC dX7_carryOut_37 rfl ib_8 ?_
        refine g_icmp_ge (tgt := 46) hC dX7_carryOut_39 rfl (by decide) hM (fun hM => ?_) (fun hM => ?_)
        · exact g_sub [0, 1, 2] ((bX7_carryOut_46 hC hml hR a0 a1 a2 h0 ) _ hM) rfl
        · refine g_iconst (v := 1) hC dX7_carryOut_42 rfl ic_1 ?_
          refine g_goto (tgt := 47) hC dX7_carryOut_43 rfl (by decide) ?_
          exact g_sub [0, 1, 2] ((bX7_carryOut_47 hC hml hR a0 a1 a2 h0 ) _ _ hM) rfl
  · refine g_aload_n hC dX7_carryOut_4 rfl 0 rfl ?_
    refine fg_6_0 hC h0 k_276 dX7_carryOut_5 rfl hM (fun j6 hj6 hM => ?_)
    refine g_iload_n hC dX7_carryOut_8 rfl 2 rfl ?_
    refine g_callVv0 (As := [.int a2]) (st' := []) (k := j6) (L' := 0) hC Y_X8_changePrime I_X8_changePrime k_573 ⟨by decide, by decide⟩ hj6 (ci := 7) (by decide) rfl dX7_carryOut_9 rfl rfl rfl (Nat.le_of_ble_eq_true rfl) ⟨Nat.zero_le _, Nat.zero_le _⟩ hM (fun c hc => c_X8_changePrime (xE X) j6 hj6 a2 c hc) (fun c7 hM => ?_)
    refine g_iconst (v := 1) hC dX7_carryOut_12 rfl ic_1 ?_
    exact g_retz hM dX7_carryOut_13 rfl (fun h => by cases h; exact hR)
def BX7_readLine_95 (ρ : Rho) (a0 : Nat) (a1 : Nat) (σ : Sto) (v2 : Int32) (v3 : Int32) (v4 : Int32) : Option (Int32 × Sto) :=
  Option.bind (MX7_advance σ ρ a0 a1) fun c1 =>
  if (c1 a0 6) = (4 : Int32) then
    Option.bind (MX7_carryOut c1 ρ a0 v3 v4) fun c2 =>
    if c2.1 = 0 then
      Option.bind (MX7_fail c2.2 a0 ((3 : Int32)) v2) fun c3 =>
      if c3.1 = 0 then
        zr ((0 : Int32)) (some ((0 : Int32), c3.2))
      else
        zr ((1 : Int32)) (some ((1 : Int32), c3.2))
    else
      zr ((1 : Int32)) (some ((1 : Int32), c2.2))
  else
    Option.bind (MX7_fail c1 a0 ((1 : Int32)) ((c1 a0 7))) fun c4 =>
    zr c4.1 (some (c4.1, c4.2))
set_option maxHeartbeats 4000000 in
set_option maxRecDepth 100000 in
theorem bX7_readLine_95 {X : CX} {n : Nat} {ρ : Rho} {res : Int32 × Sto} (hC : Cx X cX7_readLine RX7 6) (hml : (xc X).maxLocals = 5) (hR : RtT (some .boolean) X cX7_readLine n res.1 res.2 ρ) (a0 : Nat) (a1 : Nat) (h0 : Sh n a0 6) (h1 : Sh n a1 8) : ∀ (σ : Sto) (v2 : Int32) (v3 : Int32) (v4 : Int32), BX7_readLine_95 ρ a0 a1 σ v2 v3 v4 = some res → G X 0 0 n σ ρ 95 [(0, vr X a0), (1, vr X a1), (2, .int v2), (3, .int v3), (4, .int v4)] [] := by
  intro σ v2 v3 v4 hM
  unfold BX7_readLine_95 at hM
  refine g_aload_n hC dX7_readLine_95 rfl 0 rfl ?_
  refine g_aload_n hC dX7_readLine_96 rfl 1 rfl ?_
  refine g_callVv0 (As := [vr X a1]) (st' := []) (k := a0) (L' := 2) hC Y_X7_advance I_X7_advance k_444 ⟨by decide, by decide⟩ h0 (ci := 6) (by decide) rfl dX7_readLine_97 rfl rfl rfl (Nat.le_of_ble_eq_true rfl) ⟨Nat.zero_le _, Nat.zero_le _⟩ hM (fun c hc => c_X7_advance (xE X) a0 h0 a1 h1 c hc) (fun c1 hM => ?_)
  refine g_aload_n hC dX7_readLine_100 rfl 0 rfl ?_
  refine fg_6_6 hC h0 k_285 dX7_readLine_101 rfl ?_
  refine g_iconst (v := 4) hC dX7_readLine_104 rfl ic_4 ?_
  refine g_icmp_eq (tgt := 118) hC dX7_readLine_105 rfl (by decide) hM (fun hM => ?_) (fun hM => ?_)
  · refine g_aload_n hC dX7_readLine_118 rfl 0 rfl ?_
    refine g_iload_n hC dX7_readLine_119 rfl 3 rfl ?_
    refine g_iload hC dX7_readLine_120 rfl 4 rfl ?_
    refine g_callVi (As := [.int v3, .int v4]) (st' := []) (k := a0) (L' := 2) hC Y_X7_carryOut I_X7_carryOut k_569 ⟨by decide, by decide⟩ h0 (ci := 6) (by decide) rfl dX7_readLine_122 rfl rfl rfl (Nat.le_of_ble_eq_true rfl) ⟨Nat.zero_le _, Nat.zero_le _⟩ hM (fun c hc => c_X7_carryOut (xE X) a0 h0 v3 v4 c hc) (fun c2 hM => ?_)
    refine g_if_ne (tgt := 137) hC dX7_readLine_125 rfl (by decide) hM (fun hM => ?_) (fun hM => ?_)
    · refine g_iconst (v := 1) hC dX7_readLine_137 rfl ic_1 ?_
      refine g_goto (tgt := 142) hC dX7_readLine_138 rfl (by decide) ?_
      exact g_retz hM dX7_readLine_142 rfl (fun h => by cases h; exact hR)
    · refine g_aload_n hC dX7_readLine_128 rfl 0 rfl ?_
      refine g_iconst (v := 3) hC dX7_readLine_129 rfl ic_3 ?_
      refine g_iload_n hC dX7_readLine_130 rfl 2 rfl ?_
      refine g_callVi (As := [.int ((3 : Int32)), .int v2]) (st' := []) (k := a0) (L' := 0) hC Y_X7_fail I_X7_fail k_534 ⟨by decide, by decide⟩ h0 (ci := 6) (by decide) rfl dX7_readLine_131 rfl rfl rfl (Nat.le_of_ble_eq_true rfl) ⟨Nat.zero_le _, Nat.zero_le _⟩ hM (fun c hc => c_X7_fail (xE X) a0 h0 ((3 : Int32)) v2 c hc) (fun c3 hM => ?_)
      refine g_if_eq (tgt := 141) hC dX7_readLine_134 rfl (by decide) hM (fun hM => ?_) (fun hM => ?_)
      · refine g_iconst (v := 0) hC dX7_readLine_141 rfl ic_0 ?_
        exact g_retz hM dX7_readLine_142 rfl (fun h => by cases h; exact hR)
      · refine g_iconst (v := 1) hC dX7_readLine_137 rfl ic_1 ?_
        refine g_goto (tgt := 142) hC dX7_readLine_138 rfl (by decide) ?_
        exact g_retz hM dX7_readLine_142 rfl (fun h => by cases h; exact hR)
  · refine g_aload_n hC dX7_readLine_108 rfl 0 rfl ?_
    refine g_iconst (v := 1) hC dX7_readLine_109 rfl ic_1 ?_
    refine g_aload_n hC dX7_readLine_110 rfl 0 rfl ?_
    refine fg_6_7 hC h0 k_286 dX7_readLine_111 rfl ?_
    refine g_callVi (As := [.int ((1 : Int32)), .int ((c1 a0 7))]) (st' := []) (k := a0) (L' := 0) hC Y_X7_fail I_X7_fail k_534 ⟨by decide, by decide⟩ h0 (ci := 6) (by decide) rfl dX7_readLine_114 rfl rfl rfl (Nat.le_of_ble_eq_true rfl) ⟨Nat.zero_le _, Nat.zero_le _⟩ hM (fun c hc => c_X7_fail (xE X) a0 h0 ((1 : Int32)) ((c1 a0 7)) c hc) (fun c4 hM => ?_)
    exact g_retz hM dX7_readLine_117 rfl (fun h => by cases h; exact hR)
def BX7_readLine_85 (ρ : Rho) (a0 : Nat) (a1 : Nat) (σ : Sto) (v2 : Int32) (v3 : Int32) (v4 : Int32) : Option (Int32 × Sto) :=
  Option.bind (MX7_readSix σ ρ a0 a1) fun c1 =>
  if c1.1 = 0 then
    zr ((0 : Int32)) (some ((0 : Int32), c1.2))
  else
    BX7_readLine_95 ρ a0 a1 c1.2 v2 v3 v4
set_option maxHeartbeats 4000000 in
set_option maxRecDepth 100000 in
theorem bX7_readLine_85 {X : CX} {n : Nat} {ρ : Rho} {res : Int32 × Sto} (hC : Cx X cX7_readLine RX7 6) (hml : (xc X).maxLocals = 5) (hR : RtT (some .boolean) X cX7_readLine n res.1 res.2 ρ) (a0 : Nat) (a1 : Nat) (h0 : Sh n a0 6) (h1 : Sh n a1 8) : ∀ (σ : Sto) (v2 : Int32) (v3 : Int32) (v4 : Int32), BX7_readLine_85 ρ a0 a1 σ v2 v3 v4 = some res → G X 0 0 n σ ρ 85 [(0, vr X a0), (1, vr X a1), (2, .int v2), (3, .int v3), (4, .int v4)] [] := by
  intro σ v2 v3 v4 hM
  unfold BX7_readLine_85 at hM
  refine g_aload_n hC dX7_readLine_85 rfl 0 rfl ?_
  refine g_aload_n hC dX7_readLine_86 rfl 1 rfl ?_
  refine g_callVi (As := [vr X a1]) (st' := []) (k := a0) (L' := 3) hC Y_X7_readSix I_X7_readSix k_561 ⟨by decide, by decide⟩ h0 (ci := 6) (by decide) rfl dX7_readLine_87 rfl rfl rfl (Nat.le_of_ble_eq_true rfl) ⟨Nat.zero_le _, Nat.zero_le _⟩ hM (fun c hc => c_X7_readSix (xE X) a0 h0 a1 h1 c hc) (fun c1 hM => ?_)
  refine g_if_ne (tgt := 95) hC dX7_readLine_90 rfl (by decide) hM (fun hM => ?_) (fun hM => ?_)
  · exact g_sub [0, 1, 2, 3, 4] ((bX7_readLine_95 hC hml hR a0 a1 h0 h1 ) _ _ _ _ hM) rfl
  · refine g_iconst (v := 0) hC dX7_readLine_93 rfl ic_0 ?_
    exact g_retz hM dX7_readLine_94 rfl (fun h => by cases h; exact hR)
def MX7_readLine (σ : Sto) (ρ : Rho) (a0 : Nat) (a1 : Nat) : Option (Int32 × Sto) :=
  bn ((σ a0 7)) fun y1 =>
  Option.bind (MX7_lineKind σ ρ a0 a1) fun c2 =>
  bn c2 fun y3 =>
  if y3 = (-1 : Int32) then
    Option.bind (MX7_fail σ a0 ((1 : Int32)) ((σ a0 7))) fun c9 =>
    zr c9.1 (some (c9.1, c9.2))
  else
    Option.bind (MX7_advance σ ρ a0 a1) fun c4 =>
    if (c4 a0 6) = (2 : Int32) then
      bn ((c4 a0 8)) fun y5 =>
      Option.bind (MX7_canBe c4 ρ a0 y3 y5) fun c6 =>
      if c6.1 = 0 then
        Option.bind (MX7_fail c6.2 a0 ((2 : Int32)) ((c6.2 a0 7))) fun c7 =>
        zr c7.1 (some (c7.1, c7.2))
      else
        if y3 = (2 : Int32) then
          BX7_readLine_85 ρ a0 a1 c6.2 y1 y3 y5
        else
          if y3 = (3 : Int32) then
            BX7_readLine_85 ρ a0 a1 c6.2 y1 y3 y5
          else
            BX7_readLine_95 ρ a0 a1 c6.2 y1 y3 y5
    else
      Option.bind (MX7_fail c4 a0 ((1 : Int32)) ((c4 a0 7))) fun c8 =>
      zr c8.1 (some (c8.1, c8.2))
set_option maxHeartbeats 4000000 in
set_option maxRecDepth 100000 in
theorem c_X7_readLine (E : EX) {n : Nat} {σ : Sto} {ρ : Rho} (a0 : Nat) (h0 : Sh n a0 6) (a1 : Nat) (h1 : Sh n a1 8) (res : Int32 × Sto) (hM : MX7_readLine σ ρ a0 a1 = some res) : CTi E yX7_readLine cX7_readLine 5 (some .boolean) 6 [.ref (eb E + a0), .ref (eb E + a1)] n σ ρ res.1 res.2 ρ := by
  refine ct_i (by decide +kernel) rfl (Nat.le_of_ble_eq_true rfl) (fun X hE hml hC hR => ?_)
  subst hE
  show G X 0 0 n σ ρ 0 [(0, vr X a0), (1, vr X a1)] []
  replace hC : Cx X cX7_readLine RX7 6 := hC
  unfold MX7_readLine at hM
  refine g_aload_n hC dX7_readLine_0 rfl 0 rfl ?_
  refine fg_6_7 hC h0 k_286 dX7_readLine_1 rfl ?_
  refine g_istore_n hC (fun y1 => [(2, .int y1), (0, vr X a0), (1, vr X a1)]) dX7_readLine_4 rfl hM hml (by decide) (fun _ => rfl) (fun y1 hM => ?_)
  refine g_aload_n hC dX7_readLine_5 rfl 1 rfl ?_
  refine g_aload_n hC dX7_readLine_6 rfl 2 rfl ?_
  refine g_callVi (As := [vr X a1]) (st' := []) (k := a0) (L' := 5) hC Y_X7_lineKind I_X7_lineKind k_474 ⟨by decide, by decide⟩ h0 (ci := 6) (by decide) rfl dX7_readLine_7 rfl rfl rfl (Nat.le_of_ble_eq_true rfl) ⟨Nat.zero_le _, Nat.zero_le _⟩ hM (fun c hc => c_X7_lineKind (xE X) a0 h0 a1 h1 c hc) (fun c2 hM => ?_)
  refine g_istore_n hC (fun y3 => [(3, .int y3), (2, .int y1), (0, vr X a0), (1, vr X a1)]) dX7_readLine_10 rfl hM hml (by decide) (fun _ => rfl) (fun y3 hM => ?_)
  refine g_iload_n hC dX7_readLine_11 rfl 0 rfl ?_
  refine g_iconst (v := -1) hC dX7_readLine_12 rfl ic_m1 ?_
  refine g_icmp_ne (tgt := 26) hC dX7_readLine_13 rfl (by decide) hM (fun hM => ?_) (fun hM => ?_)
  · refine g_aload_n hC dX7_readLine_26 rfl 2 rfl ?_
    refine g_aload_n hC dX7_readLine_27 rfl 3 rfl ?_
    refine g_callVv0 (As := [vr X a1]) (st' := []) (k := a0) (L' := 2) hC Y_X7_advance I_X7_advance k_444 ⟨by decide, by decide⟩ h0 (ci := 6) (by decide) rfl dX7_readLine_28 rfl rfl rfl (Nat.le_of_ble_eq_true rfl) ⟨Nat.zero_le _, Nat.zero_le _⟩ hM (fun c hc => c_X7_advance (xE X) a0 h0 a1 h1 c hc) (fun c4 hM => ?_)
    refine g_aload_n hC dX7_readLine_31 rfl 2 rfl ?_
    refine fg_6_6 hC h0 k_285 dX7_readLine_32 rfl ?_
    refine g_iconst (v := 2) hC dX7_readLine_35 rfl ic_2 ?_
    refine g_icmp_eq (tgt := 49) hC dX7_readLine_36 rfl (by decide) hM (fun hM => ?_) (fun hM => ?_)
    · refine g_aload_n hC dX7_readLine_49 rfl 2 rfl ?_
      refine fg_6_8 hC h0 k_287 dX7_readLine_50 rfl ?_
      refine g_istore hC (fun y5 => [(4, .int y5), (3, .int y3), (2, .int y1), (0, vr X a0), (1, vr X a1)]) dX7_readLine_53 rfl hM hml (by decide) (fun _ => rfl) (fun y5 hM => ?_)
      refine g_aload_n hC dX7_readLine_55 rfl 3 rfl ?_
      refine g_iload_n hC dX7_readLine_56 rfl 1 rfl ?_
      refine g_iload hC dX7_readLine_57 rfl 0 rfl ?_
      refine g_callVi (As := [.int y3, .int y5]) (st' := []) (k := a0) (L' := 2) hC Y_X7_canBe I_X7_canBe k_538 ⟨by decide, by decide⟩ h0 (ci := 6) (by decide) rfl dX7_readLine_59 rfl rfl rfl (Nat.le_of_ble_eq_true rfl) ⟨Nat.zero_le _, Nat.zero_le _⟩ hM (fun c hc => c_X7_canBe (xE X) a0 h0 y3 y5 c hc) (fun c6 hM => ?_)
      refine g_if_ne (tgt := 75) hC dX7_readLine_62 rfl (by decide) hM (fun hM => ?_) (fun hM => ?_)
      · refine g_iload_n hC dX7_readLine_75 rfl 1 rfl ?_
        refine g_iconst (v := 2) hC dX7_readLine_76 rfl ic_2 ?_
        refine g_icmp_eq (tgt := 85) hC dX7_readLine_77 rfl (by decide) hM (fun hM => ?_) (fun hM => ?_)
        · exact g_sub [3, 4, 2, 1, 0] ((bX7_readLine_85 hC hml hR a0 a1 h0 h1 ) _ _ _ _ hM) rfl
        · refine g_iload_n hC dX7_readLine_80 rfl 1 rfl ?_
          refine g_iconst (v := 3) hC dX7_readLine_81 rfl ic_3 ?_
          refine g_icmp_ne (tgt := 95) hC dX7_readLine_82 rfl (by decide) hM (fun hM => ?_) (fun hM => ?_)
          · exact g_sub [3, 4, 2, 1, 0] ((bX7_readLine_95 hC hml hR a0 a1 h0 h1 ) _ _ _ _ hM) rfl
          · exact g_sub [3, 4, 2, 1, 0] ((bX7_readLine_85 hC hml hR a0 a1 h0 h1 ) _ _ _ _ hM) rfl
      · refine g_aload_n hC dX7_readLine_65 rfl 3 rfl ?_
        refine g_iconst (v := 2) hC dX7_readLine_66 rfl ic_2 ?_
        refine g_aload_n hC dX7_readLine_67 rfl 3 rfl ?_
        refine fg_6_7 hC h0 k_286 dX7_readLine_68 rfl ?_
        refine g_callVi (As := [.int ((2 : Int32)), .int ((c6.2 a0 7))]) (st' := []) (k := a0) (L' := 0) hC Y_X7_fail I_X7_fail k_534 ⟨by decide, by decide⟩ h0 (ci := 6) (by decide) rfl dX7_readLine_71 rfl rfl rfl (Nat.le_of_ble_eq_true rfl) ⟨Nat.zero_le _, Nat.zero_le _⟩ hM (fun c hc => c_X7_fail (xE X) a0 h0 ((2 : Int32)) ((c6.2 a0 7)) c hc) (fun c7 hM => ?_)
        exact g_retz hM dX7_readLine_74 rfl (fun h => by cases h; exact hR)
    · refine g_aload_n hC dX7_readLine_39 rfl 2 rfl ?_
      refine g_iconst (v := 1) hC dX7_readLine_40 rfl ic_1 ?_
      refine g_aload_n hC dX7_readLine_41 rfl 2 rfl ?_
      refine fg_6_7 hC h0 k_286 dX7_readLine_42 rfl ?_
      refine g_callVi (As := [.int ((1 : Int32)), .int ((c4 a0 7))]) (st' := []) (k := a0) (L' := 0) hC Y_X7_fail I_X7_fail k_534 ⟨by decide, by decide⟩ h0 (ci := 6) (by decide) rfl dX7_readLine_45 rfl rfl rfl (Nat.le_of_ble_eq_true rfl) ⟨Nat.zero_le _, Nat.zero_le _⟩ hM (fun c hc => c_X7_fail (xE X) a0 h0 ((1 : Int32)) ((c4 a0 7)) c hc) (fun c8 hM => ?_)
      exact g_retz hM dX7_readLine_48 rfl (fun h => by cases h; exact hR)
  · refine g_aload_n hC dX7_readLine_16 rfl 2 rfl ?_
    refine g_iconst (v := 1) hC dX7_readLine_17 rfl ic_1 ?_
    refine g_aload_n hC dX7_readLine_18 rfl 2 rfl ?_
    refine fg_6_7 hC h0 k_286 dX7_readLine_19 rfl ?_
    refine g_callVi (As := [.int ((1 : Int32)), .int ((σ a0 7))]) (st' := []) (k := a0) (L' := 0) hC Y_X7_fail I_X7_fail k_534 ⟨by decide, by decide⟩ h0 (ci := 6) (by decide) rfl dX7_readLine_22 rfl rfl rfl (Nat.le_of_ble_eq_true rfl) ⟨Nat.zero_le _, Nat.zero_le _⟩ hM (fun c hc => c_X7_fail (xE X) a0 h0 ((1 : Int32)) ((σ a0 7)) c hc) (fun c9 hM => ?_)
    exact g_retz hM dX7_readLine_25 rfl (fun h => by cases h; exact hR)
def FX7_read_26 (ρ : Rho) (a0 : Nat) (a1 : Nat) (rec : Sto → Int32 → Int32 → Option (Int32 × Sto)) (σ : Sto) (v2 : Int32) (v3 : Int32) : Option (Int32 × Sto) :=
  if (500 : Int32) ≤ v3 then
    some (v2, σ)
  else
    Option.bind (MX7_advance σ ρ a0 a1) fun c1 =>
    if (c1 a0 6) = 0 then
      some (v2, c1)
    else
      Option.bind (MX7_readLine c1 ρ a0 a1) fun c2 =>
      if c2.1 = 0 then
        some ((-1 : Int32), c2.2)
      else
        bn (v2 + (1 : Int32)) fun y3 =>
        bn (v3 + (1 : Int32)) fun y4 =>
        rec c2.2 y3 y4
set_option maxHeartbeats 4000000 in
set_option maxRecDepth 100000 in
theorem bX7_read_26 {X : CX} {n : Nat} {ρ : Rho} {res : Int32 × Sto} (hC : Cx X cX7_read RX7 7) (hml : (xc X).maxLocals = 4) (hR : RtT (some .int) X cX7_read n res.1 res.2 ρ) (a0 : Nat) (a1 : Nat) (h0 : Sh n a0 6) (h1 : Sh n a1 8) (fu : Nat) : ∀ (σ : Sto) (v2 : Int32) (v3 : Int32), fixN (fun _ _ _ => none) (FX7_read_26 ρ a0 a1) fu σ v2 v3 = some res → G X 0 0 n σ ρ 26 [(0, vr X a0), (1, vr X a1), (2, .int v2), (3, .int v3)] [] := by
  refine fixN_ind (P := fun (f : Sto → Int32 → Int32 → Option (Int32 × Sto)) => ∀ (σ : Sto) (v2 : Int32) (v3 : Int32), f σ v2 v3 = some res → G X 0 0 n σ ρ 26 [(0, vr X a0), (1, vr X a1), (2, .int v2), (3, .int v3)] []) ?_ ?_ fu
  · intro σ v2 v3 hM; cases hM
  · intro rec ih σ v2 v3 hM
    unfold FX7_read_26 at hM
    refine g_iload_n hC dX7_read_26 rfl 3 rfl ?_
    refine g_sipush (v := 500) hC dX7_read_27 rfl is_500 ?_
    refine g_icmp_ge (tgt := 66) hC dX7_read_30 rfl (by decide) hM (fun hM => ?_) (fun hM => ?_)
    · refine g_iload_n hC dX7_read_66 rfl 2 rfl ?_
      cases hM
      exact g_reti hR dX7_read_67 rfl
    · refine g_aload_n hC dX7_read_33 rfl 0 rfl ?_
      refine g_aload_n hC dX7_read_34 rfl 1 rfl ?_
      refine g_callVv0 (As := [vr X a1]) (st' := []) (k := a0) (L' := 2) hC Y_X7_advance I_X7_advance k_444 ⟨by decide, by decide⟩ h0 (ci := 6) (by decide) rfl dX7_read_35 rfl rfl rfl (Nat.le_of_ble_eq_true rfl) ⟨Nat.zero_le _, Nat.zero_le _⟩ hM (fun c hc => c_X7_advance (xE X) a0 h0 a1 h1 c hc) (fun c1 hM => ?_)
      refine g_aload_n hC dX7_read_38 rfl 0 rfl ?_
      refine fg_6_6 hC h0 k_285 dX7_read_39 rfl ?_
      refine g_if_ne (tgt := 47) hC dX7_read_42 rfl (by decide) hM (fun hM => ?_) (fun hM => ?_)
      · refine g_aload_n hC dX7_read_47 rfl 0 rfl ?_
        refine g_aload_n hC dX7_read_48 rfl 1 rfl ?_
        refine g_callVi (As := [vr X a1]) (st' := []) (k := a0) (L' := 6) hC Y_X7_readLine I_X7_readLine k_470 ⟨by decide, by decide⟩ h0 (ci := 6) (by decide) rfl dX7_read_49 rfl rfl rfl (Nat.le_of_ble_eq_true rfl) ⟨Nat.zero_le _, Nat.zero_le _⟩ hM (fun c hc => c_X7_readLine (xE X) a0 h0 a1 h1 c hc) (fun c2 hM => ?_)
        refine g_if_ne (tgt := 57) hC dX7_read_52 rfl (by decide) hM (fun hM => ?_) (fun hM => ?_)
        · refine g_iinc (v := 1) hC (fun y3 => [(2, .int y3), (0, vr X a0), (1, vr X a1), (3, .int v3)]) dX7_read_57 rfl hM (j := 2) rfl ic_1 hml (by decide) (fun _ => rfl) (fun y3 hM => ?_)
          refine g_iinc (v := 1) hC (fun y4 => [(3, .int y4), (2, .int y3), (0, vr X a0), (1, vr X a1)]) dX7_read_60 rfl hM (j := 3) rfl ic_1 hml (by decide) (fun _ => rfl) (fun y4 hM => ?_)
          refine g_goto (tgt := 26) hC dX7_read_63 rfl (by decide) ?_
          exact g_sub [2, 3, 1, 0] (ih _ _ _ hM) rfl
        · refine g_iconst (v := -1) hC dX7_read_55 rfl ic_m1 ?_
          obtain rfl := Option.some.inj hM
          exact g_reti hR dX7_read_56 rfl
      · refine g_iload_n hC dX7_read_45 rfl 2 rfl ?_
        cases hM
        exact g_reti hR dX7_read_46 rfl
def MX7_read (σ : Sto) (ρ : Rho) (a0 : Nat) (a1 : Nat) : Option (Int32 × Sto) :=
  Option.bind (ρ a0 0) fun j1 =>
  Option.bind (MX8_clear σ ρ j1) fun c2 =>
  bn (su c2 a0 1 ((0 : Int32))) fun σ3 =>
  bn (su σ3 a0 2 ((-1 : Int32))) fun σ4 =>
  bn (su σ4 a0 5 ((0 : Int32))) fun σ5 =>
  bn ((0 : Int32)) fun y6 =>
  bn ((0 : Int32)) fun y7 =>
  fixN (fun _ _ _ => none) (FX7_read_26 ρ a0 a1) FU σ5 y6 y7
set_option maxHeartbeats 4000000 in
set_option maxRecDepth 100000 in
theorem c_X7_read (E : EX) {n : Nat} {σ : Sto} {ρ : Rho} (a0 : Nat) (h0 : Sh n a0 6) (a1 : Nat) (h1 : Sh n a1 8) (res : Int32 × Sto) (hM : MX7_read σ ρ a0 a1 = some res) : CTi E yX7_read cX7_read 4 (some .int) 7 [.ref (eb E + a0), .ref (eb E + a1)] n σ ρ res.1 res.2 ρ := by
  refine ct_i (by decide +kernel) rfl (Nat.le_of_ble_eq_true rfl) (fun X hE hml hC hR => ?_)
  subst hE
  show G X 0 0 n σ ρ 0 [(0, vr X a0), (1, vr X a1)] []
  replace hC : Cx X cX7_read RX7 7 := hC
  unfold MX7_read at hM
  refine g_aload_n hC dX7_read_0 rfl 0 rfl ?_
  refine fg_6_0 hC h0 k_276 dX7_read_1 rfl hM (fun j1 hj1 hM => ?_)
  refine g_callVv0 (As := []) (st' := []) (k := j1) (L' := 0) hC Y_X8_clear I_X8_clear k_443 ⟨by decide, by decide⟩ hj1 (ci := 7) (by decide) rfl dX7_read_4 rfl rfl rfl (Nat.le_of_ble_eq_true rfl) ⟨Nat.zero_le _, Nat.zero_le _⟩ hM (fun c hc => c_X8_clear (xE X) j1 hj1 c hc) (fun c2 hM => ?_)
  refine g_aload_n hC dX7_read_7 rfl 0 rfl ?_
  refine g_iconst (v := 0) hC dX7_read_8 rfl ic_0 ?_
  refine fp_6_1 hC h0 k_278 dX7_read_9 rfl hM (fun σ3 hM => ?_)
  refine g_aload_n hC dX7_read_12 rfl 0 rfl ?_
  refine g_iconst (v := -1) hC dX7_read_13 rfl ic_m1 ?_
  refine fp_6_2 hC h0 k_280 dX7_read_14 rfl hM (fun σ4 hM => ?_)
  refine g_aload_n hC dX7_read_17 rfl 0 rfl ?_
  refine g_iconst (v := 0) hC dX7_read_18 rfl ic_0 ?_
  refine fp_6_5 hC h0 k_284 dX7_read_19 rfl hM (fun σ5 hM => ?_)
  refine g_iconst (v := 0) hC dX7_read_22 rfl ic_0 ?_
  refine g_istore_n hC (fun y6 => [(2, .int y6), (0, vr X a0), (1, vr X a1)]) dX7_read_23 rfl hM hml (by decide) (fun _ => rfl) (fun y6 hM => ?_)
  refine g_iconst (v := 0) hC dX7_read_24 rfl ic_0 ?_
  refine g_istore_n hC (fun y7 => [(3, .int y7), (2, .int y6), (0, vr X a0), (1, vr X a1)]) dX7_read_25 rfl hM hml (by decide) (fun _ => rfl) (fun y7 hM => ?_)
  exact g_sub [2, 3, 1, 0] ((bX7_read_26 hC hml hR a0 a1 h0 h1  FU) _ _ _ hM) rfl
def BX8_dropMark_43 (ρ : Rho) (a0 : Nat) (a1 : Int32) (rec : Sto → Int32 → Int32 → Option (Sto)) (k49 : Sto → Int32 → Option (Sto)) (σ : Sto) (v2 : Int32) (v3 : Int32) : Option (Sto) :=
  bn (v3 + (1 : Int32)) fun y1 =>
  rec σ v2 y1
set_option maxHeartbeats 4000000 in
set_option maxRecDepth 100000 in
theorem bX8_dropMark_43 {X : CX} {n : Nat} {ρ : Rho} {res : Sto} (hC : Cx X cX8_dropMark RX8 0) (hml : (xc X).maxLocals = 4) (hR : RtV X cX8_dropMark 0 0 n res ρ) (a0 : Nat) (a1 : Int32) (h0 : Sh n a0 7) (rec : Sto → Int32 → Int32 → Option (Sto)) (ih : ∀ (σ : Sto) (v2 : Int32) (v3 : Int32), rec σ v2 v3 = some res → G X 0 0 n σ ρ 4 [(0, vr X a0), (1, .int a1), (2, .int v2), (3, .int v3)] []) (k49 : Sto → Int32 → Option (Sto)) (hk49 : ∀ (σ : Sto) (v2 : Int32), k49 σ v2 = some res → G X 0 0 n σ ρ 49 [(0, vr X a0), (1, .int a1), (2, .int v2)] []) : ∀ (σ : Sto) (v2 : Int32) (v3 : Int32), BX8_dropMark_43 ρ a0 a1 rec k49 σ v2 v3 = some res → G X 0 0 n σ ρ 43 [(0, vr X a0), (1, .int a1), (2, .int v2), (3, .int v3)] [] := by
  intro σ v2 v3 hM
  unfold BX8_dropMark_43 at hM
  refine g_iinc (v := 1) hC (fun y1 => [(3, .int y1), (0, vr X a0), (1, .int a1), (2, .int v2)]) dX8_dropMark_43 rfl hM (j := 3) rfl ic_1 hml (by decide) (fun _ => rfl) (fun y1 hM => ?_)
  refine g_goto (tgt := 4) hC dX8_dropMark_46 rfl (by decide) ?_
  exact g_sub [1, 2, 3, 0] (ih _ _ _ hM) rfl
def BX8_dropMark_49 (ρ : Rho) (a0 : Nat) (a1 : Int32) (σ : Sto) (v2 : Int32) : Option (Sto) :=
  bn (su σ a0 1 v2) fun σ1 =>
  some σ1
set_option maxHeartbeats 4000000 in
set_option maxRecDepth 100000 in
theorem bX8_dropMark_49 {X : CX} {n : Nat} {ρ : Rho} {res : Sto} (hC : Cx X cX8_dropMark RX8 0) (hml : (xc X).maxLocals = 4) (hR : RtV X cX8_dropMark 0 0 n res ρ) (a0 : Nat) (a1 : Int32) (h0 : Sh n a0 7) : ∀ (σ : Sto) (v2 : Int32), BX8_dropMark_49 ρ a0 a1 σ v2 = some res → G X 0 0 n σ ρ 49 [(0, vr X a0), (1, .int a1), (2, .int v2)] [] := by
  intro σ v2 hM
  unfold BX8_dropMark_49 at hM
  refine g_aload_n hC dX8_dropMark_49 rfl 0 rfl ?_
  refine g_iload_n hC dX8_dropMark_50 rfl 2 rfl ?_
  refine fp_7_1 hC h0 k_140 dX8_dropMark_51 rfl hM (fun σ1 hM => ?_)
  cases hM
  exact g_retv hR dX8_dropMark_54 rfl
def FX8_dropMark_4 (ρ : Rho) (a0 : Nat) (a1 : Int32) (k49 : Sto → Int32 → Option (Sto)) (rec : Sto → Int32 → Int32 → Option (Sto)) (σ : Sto) (v2 : Int32) (v3 : Int32) : Option (Sto) :=
  if (σ a0 1) ≤ v3 then
    k49 σ v2
  else
    if (8 : Int32) ≤ v3 then
      k49 σ v2
    else
      Option.bind (ρ a0 2) fun j1 =>
      Option.bind (ag σ j1 v3) fun x2 =>
      if x2 = a1 then
        BX8_dropMark_43 ρ a0 a1 rec k49 σ v2 v3
      else
        Option.bind (ρ a0 2) fun j3 =>
        Option.bind (ρ a0 2) fun j4 =>
        Option.bind (ag σ j4 v3) fun x5 =>
        Option.bind (ap σ j3 v2 x5) fun σ6 =>
        bn (v2 + (1 : Int32)) fun y7 =>
        BX8_dropMark_43 ρ a0 a1 rec k49 σ6 y7 v3
set_option maxHeartbeats 4000000 in
set_option maxRecDepth 100000 in
theorem bX8_dropMark_4 {X : CX} {n : Nat} {ρ : Rho} {res : Sto} (hC : Cx X cX8_dropMark RX8 0) (hml : (xc X).maxLocals = 4) (hR : RtV X cX8_dropMark 0 0 n res ρ) (a0 : Nat) (a1 : Int32) (h0 : Sh n a0 7) (k49 : Sto → Int32 → Option (Sto)) (hk49 : ∀ (σ : Sto) (v2 : Int32), k49 σ v2 = some res → G X 0 0 n σ ρ 49 [(0, vr X a0), (1, .int a1), (2, .int v2)] []) (fu : Nat) : ∀ (σ : Sto) (v2 : Int32) (v3 : Int32), fixN (fun _ _ _ => none) (FX8_dropMark_4 ρ a0 a1 k49) fu σ v2 v3 = some res → G X 0 0 n σ ρ 4 [(0, vr X a0), (1, .int a1), (2, .int v2), (3, .int v3)] [] := by
  refine fixN_ind (P := fun (f : Sto → Int32 → Int32 → Option (Sto)) => ∀ (σ : Sto) (v2 : Int32) (v3 : Int32), f σ v2 v3 = some res → G X 0 0 n σ ρ 4 [(0, vr X a0), (1, .int a1), (2, .int v2), (3, .int v3)] []) ?_ ?_ fu
  · intro σ v2 v3 hM; cases hM
  · intro rec ih σ v2 v3 hM
    unfold FX8_dropMark_4 at hM
    refine g_iload_n hC dX8_dropMark_4 rfl 3 rfl ?_
    refine g_aload_n hC dX8_dropMark_5 rfl 0 rfl ?_
    refine fg_7_1 hC h0 k_140 dX8_dropMark_6 rfl ?_
    refine g_icmp_ge (tgt := 49) hC dX8_dropMark_9 rfl (by decide) hM (fun hM => ?_) (fun hM => ?_)
    · exact g_sub [0, 1, 2] (hk49 _ _ hM) rfl
    · refine g_iload_n hC dX8_dropMark_12 rfl 3 rfl ?_
      refine g_bipush (v := 8) hC dX8_dropMark_13 rfl ib_8 ?_
      refine g_icmp_ge (tgt := 49) hC dX8_dropMark_15 rfl (by decide) hM (fun hM => ?_) (fun hM => ?_)
      · exact g_sub [0, 1, 2] (hk49 _ _ hM) rfl
      · refine g_aload_n hC dX8_dropMark_18 rfl 0 rfl ?_
        refine fg_7_2 hC h0 k_144 dX8_dropMark_19 rfl hM (fun j1 hj1 hM => ?_)
        refine g_iload_n hC dX8_dropMark_22 rfl 3 rfl ?_
        refine g_iald hC hj1 dX8_dropMark_23 rfl hM (fun x2 hM => ?_)
        refine g_iload_n hC dX8_dropMark_24 rfl 1 rfl ?_
        refine g_icmp_eq (tgt := 43) hC dX8_dropMark_25 rfl (by decide) hM (fun hM => ?_) (fun hM => ?_)
        · exact g_sub [0, 1, 2, 3] ((bX8_dropMark_43 hC hml hR a0 a1 h0 rec ih k49 hk49) _ _ _ hM) rfl
        · refine g_aload_n hC dX8_dropMark_28 rfl 0 rfl ?_
          refine fg_7_2 hC h0 k_144 dX8_dropMark_29 rfl hM (fun j3 hj3 hM => ?_)
          refine g_iload_n hC dX8_dropMark_32 rfl 2 rfl ?_
          refine g_aload_n hC dX8_dropMark_33 rfl 0 rfl ?_
          refine fg_7_2 hC h0 k_144 dX8_dropMark_34 rfl hM (fun j4 hj4 hM => ?_)
          refine g_iload_n hC dX8_dropMark_37 rfl 3 rfl ?_
          refine g_iald hC hj4 dX8_dropMark_38 rfl hM (fun x5 hM => ?_)
          refine g_iast hC hj3 dX8_dropMark_39 rfl hM (fun σ6 hM => ?_)
          refine g_iinc (v := 1) hC (fun y7 => [(2, .int y7), (0, vr X a0), (1, .int a1), (3, .int v3)]) dX8_dropMark_40 rfl hM (j := 2) rfl ic_1 hml (by decide) (fun _ => rfl) (fun y7 hM => ?_)
          exact g_sub [1, 2, 0, 3] ((bX8_dropMark_43 hC hml hR a0 a1 h0 rec ih k49 hk49) _ _ _ hM) rfl
def MX8_dropMark (σ : Sto) (ρ : Rho) (a0 : Nat) (a1 : Int32) : Option (Sto) :=
  bn ((0 : Int32)) fun y1 =>
  bn ((0 : Int32)) fun y2 =>
  fixN (fun _ _ _ => none) (FX8_dropMark_4 ρ a0 a1 (BX8_dropMark_49 ρ a0 a1)) FU σ y1 y2
set_option maxHeartbeats 4000000 in
set_option maxRecDepth 100000 in
theorem c_X8_dropMark (E : EX) {n : Nat} {σ : Sto} {ρ : Rho} (a0 : Nat) (h0 : Sh n a0 7) (a1 : Int32) (res : Sto) (hM : MX8_dropMark σ ρ a0 a1 = some res) : CTv E yX8_dropMark cX8_dropMark 4 0 0 0 [.ref (eb E + a0), .int a1] n σ ρ res ρ := by
  refine ct_v (by decide +kernel) (Nat.le_of_ble_eq_true rfl) (fun X hE hml hin hRm hC hR => ?_)
  subst hE
  show G X 0 0 n σ ρ 0 [(0, vr X a0), (1, .int a1)] []
  replace hC : Cx X cX8_dropMark RX8 0 := hC
  unfold MX8_dropMark at hM
  refine g_iconst (v := 0) hC dX8_dropMark_0 rfl ic_0 ?_
  refine g_istore_n hC (fun y1 => [(2, .int y1), (0, vr X a0), (1, .int a1)]) dX8_dropMark_1 rfl hM hml (by decide) (fun _ => rfl) (fun y1 hM => ?_)
  refine g_iconst (v := 0) hC dX8_dropMark_2 rfl ic_0 ?_
  refine g_istore_n hC (fun y2 => [(3, .int y2), (2, .int y1), (0, vr X a0), (1, .int a1)]) dX8_dropMark_3 rfl hM hml (by decide) (fun _ => rfl) (fun y2 hM => ?_)
  exact g_sub [2, 3, 1, 0] ((bX8_dropMark_4 hC hml hR a0 a1 h0 (BX8_dropMark_49 ρ a0 a1) (bX8_dropMark_49 hC hml hR a0 a1 h0 ) FU) _ _ _ hM) rfl
def BX9_addFour_47 (ρ : Rho) (a0 : Nat) (a1 : Int32) (rec : Sto → Int32 → Option (Sto)) (σ : Sto) (v2 : Int32) : Option (Sto) :=
  bn (v2 + (-8 : Int32)) fun y1 =>
  rec σ y1
set_option maxHeartbeats 4000000 in
set_option maxRecDepth 100000 in
theorem bX9_addFour_47 {X : CX} {n : Nat} {ρ : Rho} {res : Sto} (hC : Cx X cX9_addFour RX9 0) (hml : (xc X).maxLocals = 3) (hR : RtV X cX9_addFour 0 0 n res ρ) (a0 : Nat) (a1 : Int32) (h0 : Sh n a0 8) (rec : Sto → Int32 → Option (Sto)) (ih : ∀ (σ : Sto) (v2 : Int32), rec σ v2 = some res → G X 0 0 n σ ρ 3 [(0, vr X a0), (1, .int a1), (2, .int v2)] []) : ∀ (σ : Sto) (v2 : Int32), BX9_addFour_47 ρ a0 a1 rec σ v2 = some res → G X 0 0 n σ ρ 47 [(0, vr X a0), (1, .int a1), (2, .int v2)] [] := by
  intro σ v2 hM
  unfold BX9_addFour_47 at hM
  refine g_iinc (v := -8) hC (fun y1 => [(2, .int y1), (0, vr X a0), (1, .int a1)]) dX9_addFour_47 rfl hM (j := 2) rfl ic_m8 hml (by decide) (fun _ => rfl) (fun y1 hM => ?_)
  refine g_goto (tgt := 3) hC dX9_addFour_50 rfl (by decide) ?_
  exact g_sub [1, 2, 0] (ih _ _ hM) rfl
def FX9_addFour_3 (ρ : Rho) (a0 : Nat) (a1 : Int32) (rec : Sto → Int32 → Option (Sto)) (σ : Sto) (v2 : Int32) : Option (Sto) :=
  if v2 < 0 then
    some σ
  else
    if (σ a0 1) < 0 then
      BX9_addFour_47 ρ a0 a1 rec σ v2
    else
      if (500 : Int32) ≤ (σ a0 1) then
        BX9_addFour_47 ρ a0 a1 rec σ v2
      else
        Option.bind (ρ a0 0) fun j1 =>
        Option.bind (ap σ j1 ((σ a0 1)) (((((a1.toUInt32 >>> (v2.toUInt32 &&& Int32.toUInt32 31)).toInt32)).toInt8.toInt32).toInt8.toInt32)) fun σ2 =>
        bn (su σ2 a0 1 (((σ2 a0 1) + (1 : Int32)))) fun σ3 =>
        BX9_addFour_47 ρ a0 a1 rec σ3 v2
set_option maxHeartbeats 4000000 in
set_option maxRecDepth 100000 in
theorem bX9_addFour_3 {X : CX} {n : Nat} {ρ : Rho} {res : Sto} (hC : Cx X cX9_addFour RX9 0) (hml : (xc X).maxLocals = 3) (hR : RtV X cX9_addFour 0 0 n res ρ) (a0 : Nat) (a1 : Int32) (h0 : Sh n a0 8) (fu : Nat) : ∀ (σ : Sto) (v2 : Int32), fixN (fun _ _ => none) (FX9_addFour_3 ρ a0 a1) fu σ v2 = some res → G X 0 0 n σ ρ 3 [(0, vr X a0), (1, .int a1), (2, .int v2)] [] := by
  refine fixN_ind (P := fun (f : Sto → Int32 → Option (Sto)) => ∀ (σ : Sto) (v2 : Int32), f σ v2 = some res → G X 0 0 n σ ρ 3 [(0, vr X a0), (1, .int a1), (2, .int v2)] []) ?_ ?_ fu
  · intro σ v2 hM; cases hM
  · intro rec ih σ v2 hM
    unfold FX9_addFour_3 at hM
    refine g_iload_n hC dX9_addFour_3 rfl 2 rfl ?_
    refine g_if_lt (tgt := 53) hC dX9_addFour_4 rfl (by decide) hM (fun hM => ?_) (fun hM => ?_)
    · cases hM
      exact g_retv hR dX9_addFour_53 rfl
    · refine g_aload_n hC dX9_addFour_7 rfl 0 rfl ?_
      refine fg_8_1 hC h0 k_163 dX9_addFour_8 rfl ?_
      refine g_if_lt (tgt := 47) hC dX9_addFour_11 rfl (by decide) hM (fun hM => ?_) (fun hM => ?_)
      · exact g_sub [0, 1, 2] ((bX9_addFour_47 hC hml hR a0 a1 h0 rec ih ) _ _ hM) rfl
      · refine g_aload_n hC dX9_addFour_14 rfl 0 rfl ?_
        refine fg_8_1 hC h0 k_163 dX9_addFour_15 rfl ?_
        refine g_sipush (v := 500) hC dX9_addFour_18 rfl is_500 ?_
        refine g_icmp_ge (tgt := 47) hC dX9_addFour_21 rfl (by decide) hM (fun hM => ?_) (fun hM => ?_)
        · exact g_sub [0, 1, 2] ((bX9_addFour_47 hC hml hR a0 a1 h0 rec ih ) _ _ hM) rfl
        · refine g_aload_n hC dX9_addFour_24 rfl 0 rfl ?_
          refine fg_8_0 hC h0 k_162 dX9_addFour_25 rfl hM (fun j1 hj1 hM => ?_)
          refine g_aload_n hC dX9_addFour_28 rfl 0 rfl ?_
          refine fg_8_1 hC h0 k_163 dX9_addFour_29 rfl ?_
          refine g_iload_n hC dX9_addFour_32 rfl 1 rfl ?_
          refine g_iload_n hC dX9_addFour_33 rfl 2 rfl ?_
          refine g_iushr hC dX9_addFour_34 rfl ?_
          refine g_i2b hC dX9_addFour_35 rfl ?_
          refine g_bast hC hj1 dX9_addFour_36 rfl hM (fun σ2 hM => ?_)
          refine g_aload_n hC dX9_addFour_37 rfl 0 rfl ?_
          refine g_dup hC dX9_addFour_38 rfl rfl ?_
          refine fg_8_1 hC h0 k_163 dX9_addFour_39 rfl ?_
          refine g_iconst (v := 1) hC dX9_addFour_42 rfl ic_1 ?_
          refine g_iadd hC dX9_addFour_43 rfl ?_
          refine fp_8_1 hC h0 k_163 dX9_addFour_44 rfl hM (fun σ3 hM => ?_)
          exact g_sub [0, 1, 2] ((bX9_addFour_47 hC hml hR a0 a1 h0 rec ih ) _ _ hM) rfl
def MX9_addFour (σ : Sto) (ρ : Rho) (a0 : Nat) (a1 : Int32) : Option (Sto) :=
  bn ((24 : Int32)) fun y1 =>
  fixN (fun _ _ => none) (FX9_addFour_3 ρ a0 a1) FU σ y1
set_option maxHeartbeats 4000000 in
set_option maxRecDepth 100000 in
theorem c_X9_addFour (E : EX) {n : Nat} {σ : Sto} {ρ : Rho} (a0 : Nat) (h0 : Sh n a0 8) (a1 : Int32) (res : Sto) (hM : MX9_addFour σ ρ a0 a1 = some res) : CTv E yX9_addFour cX9_addFour 3 0 0 0 [.ref (eb E + a0), .int a1] n σ ρ res ρ := by
  refine ct_v (by decide +kernel) (Nat.le_of_ble_eq_true rfl) (fun X hE hml hin hRm hC hR => ?_)
  subst hE
  show G X 0 0 n σ ρ 0 [(0, vr X a0), (1, .int a1)] []
  replace hC : Cx X cX9_addFour RX9 0 := hC
  unfold MX9_addFour at hM
  refine g_bipush (v := 24) hC dX9_addFour_0 rfl ib_24 ?_
  refine g_istore_n hC (fun y1 => [(2, .int y1), (0, vr X a0), (1, .int a1)]) dX9_addFour_2 rfl hM hml (by decide) (fun _ => rfl) (fun y1 hM => ?_)
  exact g_sub [1, 2, 0] ((bX9_addFour_3 hC hml hR a0 a1 h0  FU) _ _ hM) rfl
def MX10_nth (σ : Sto) (a0 : Nat) (a1 : Int32) : Option (Int32) :=
  if a1 = 0 then
    some (σ a0 0)
  else
    if a1 = (1 : Int32) then
      some (σ a0 1)
    else
      some (σ a0 2)
set_option maxHeartbeats 4000000 in
set_option maxRecDepth 100000 in
theorem c_X10_nth (E : EX) {n : Nat} {ρ : Rho} {σ : Sto} (a0 : Nat) (h0 : Sh n a0 9) (a1 : Int32) (res : Int32) (hM : MX10_nth σ a0 a1 = some res) : CTi E yX10_nth cX10_nth 2 (some .int) 0 [.ref (eb E + a0), .int a1] n σ ρ res σ ρ := by
  refine ct_i (by decide +kernel) rfl (Nat.le_of_ble_eq_true rfl) (fun X hE hml hC hR => ?_)
  subst hE
  show G X 0 0 n σ ρ 0 [(0, vr X a0), (1, .int a1)] []
  replace hC : Cx X cX10_nth RX10 0 := hC
  unfold MX10_nth at hM
  refine g_iload_n hC dX10_nth_0 rfl 1 rfl ?_
  refine g_if_ne (tgt := 9) hC dX10_nth_1 rfl (by decide) hM (fun hM => ?_) (fun hM => ?_)
  · refine g_iload_n hC dX10_nth_9 rfl 1 rfl ?_
    refine g_iconst (v := 1) hC dX10_nth_10 rfl ic_1 ?_
    refine g_icmp_ne (tgt := 21) hC dX10_nth_11 rfl (by decide) hM (fun hM => ?_) (fun hM => ?_)
    · refine g_aload_n hC dX10_nth_21 rfl 0 rfl ?_
      refine fg_9_2 hC h0 k_267 dX10_nth_22 rfl ?_
      cases hM
      exact g_reti hR dX10_nth_25 rfl
    · refine g_aload_n hC dX10_nth_14 rfl 0 rfl ?_
      refine fg_9_1 hC h0 k_265 dX10_nth_15 rfl ?_
      refine g_goto (tgt := 25) hC dX10_nth_18 rfl (by decide) ?_
      cases hM
      exact g_reti hR dX10_nth_25 rfl
  · refine g_aload_n hC dX10_nth_4 rfl 0 rfl ?_
    refine fg_9_0 hC h0 k_263 dX10_nth_5 rfl ?_
    cases hM
    exact g_reti hR dX10_nth_8 rfl
def MX10_cross (σ : Sto) (a0 : Nat) (a1 : Nat) (a2 : Nat) : Option (Sto) :=
  Option.bind (MX10_fill σ a0 ((((σ a1 1) * (σ a2 2)) - ((σ a1 2) * (σ a2 1)))) ((((σ a1 2) * (σ a2 0)) - ((σ a1 0) * (σ a2 2)))) ((((σ a1 0) * (σ a2 1)) - ((σ a1 1) * (σ a2 0))))) fun c1 =>
  some c1
set_option maxHeartbeats 4000000 in
set_option maxRecDepth 100000 in
theorem c_X10_cross (E : EX) {n : Nat} {ρ : Rho} {σ : Sto} (a0 : Nat) (h0 : Sh n a0 9) (a1 : Nat) (h1 : Sh n a1 9) (a2 : Nat) (h2 : Sh n a2 9) (res : Sto) (hM : MX10_cross σ a0 a1 a2 = some res) : CTv E yX10_cross cX10_cross 3 1 0 0 [.ref (eb E + a0), .ref (eb E + a1), .ref (eb E + a2)] n σ ρ res ρ := by
  refine ct_v (by decide +kernel) (Nat.le_of_ble_eq_true rfl) (fun X hE hml hin hRm hC hR => ?_)
  subst hE
  show G X 0 0 n σ ρ 0 [(0, vr X a0), (1, vr X a1), (2, vr X a2)] []
  replace hC : Cx X cX10_cross RX10 1 := hC
  unfold MX10_cross at hM
  refine g_aload_n hC dX10_cross_0 rfl 0 rfl ?_
  refine g_aload_n hC dX10_cross_1 rfl 1 rfl ?_
  refine fg_9_1 hC h1 k_265 dX10_cross_2 rfl ?_
  refine g_aload_n hC dX10_cross_5 rfl 2 rfl ?_
  refine fg_9_2 hC h2 k_267 dX10_cross_6 rfl ?_
  refine g_imul hC dX10_cross_9 rfl ?_
  refine g_aload_n hC dX10_cross_10 rfl 1 rfl ?_
  refine fg_9_2 hC h1 k_267 dX10_cross_11 rfl ?_
  refine g_aload_n hC dX10_cross_14 rfl 2 rfl ?_
  refine fg_9_1 hC h2 k_265 dX10_cross_15 rfl ?_
  refine g_imul hC dX10_cross_18 rfl ?_
  refine g_isub hC dX10_cross_19 rfl ?_
  refine g_aload_n hC dX10_cross_20 rfl 1 rfl ?_
  refine fg_9_2 hC h1 k_267 dX10_cross_21 rfl ?_
  refine g_aload_n hC dX10_cross_24 rfl 2 rfl ?_
  refine fg_9_0 hC h2 k_263 dX10_cross_25 rfl ?_
  refine g_imul hC dX10_cross_28 rfl ?_
  refine g_aload_n hC dX10_cross_29 rfl 1 rfl ?_
  refine fg_9_0 hC h1 k_263 dX10_cross_30 rfl ?_
  refine g_aload_n hC dX10_cross_33 rfl 2 rfl ?_
  refine fg_9_2 hC h2 k_267 dX10_cross_34 rfl ?_
  refine g_imul hC dX10_cross_37 rfl ?_
  refine g_isub hC dX10_cross_38 rfl ?_
  refine g_aload_n hC dX10_cross_39 rfl 1 rfl ?_
  refine fg_9_0 hC h1 k_263 dX10_cross_40 rfl ?_
  refine g_aload_n hC dX10_cross_43 rfl 2 rfl ?_
  refine fg_9_1 hC h2 k_265 dX10_cross_44 rfl ?_
  refine g_imul hC dX10_cross_47 rfl ?_
  refine g_aload_n hC dX10_cross_48 rfl 1 rfl ?_
  refine fg_9_1 hC h1 k_265 dX10_cross_49 rfl ?_
  refine g_aload_n hC dX10_cross_52 rfl 2 rfl ?_
  refine fg_9_0 hC h2 k_263 dX10_cross_53 rfl ?_
  refine g_imul hC dX10_cross_56 rfl ?_
  refine g_isub hC dX10_cross_57 rfl ?_
  refine g_callVv0 (As := [.int ((((σ a1 1) * (σ a2 2)) - ((σ a1 2) * (σ a2 1)))), .int ((((σ a1 2) * (σ a2 0)) - ((σ a1 0) * (σ a2 2)))), .int ((((σ a1 0) * (σ a2 1)) - ((σ a1 1) * (σ a2 0))))]) (st' := []) (k := a0) (L' := 0) hC Y_X10_fill I_X10_fill k_554 ⟨by decide, by decide⟩ h0 (ci := 9) (by decide) rfl dX10_cross_58 rfl rfl rfl (Nat.le_of_ble_eq_true rfl) ⟨Nat.zero_le _, Nat.zero_le _⟩ hM (fun c hc => c_X10_fill (xE X) a0 h0 ((((σ a1 1) * (σ a2 2)) - ((σ a1 2) * (σ a2 1)))) ((((σ a1 2) * (σ a2 0)) - ((σ a1 0) * (σ a2 2)))) ((((σ a1 0) * (σ a2 1)) - ((σ a1 1) * (σ a2 0)))) c hc) (fun c1 hM => ?_)
  cases hM
  exact g_retv hR dX10_cross_61 rfl
def MX10_isOn (σ : Sto) (a0 : Nat) (a1 : Nat) (a2 : Int32) : Option (Int32) :=
  Option.bind (MX2_rest (((((σ a0 0) * (σ a1 0)) + ((σ a0 1) * (σ a1 1))) + ((σ a0 2) * (σ a1 2)))) a2) fun c1 =>
  if c1 = 0 then
    zr ((1 : Int32)) (some (1 : Int32))
  else
    zr ((0 : Int32)) (some (0 : Int32))
set_option maxHeartbeats 4000000 in
set_option maxRecDepth 100000 in
theorem c_X10_isOn (E : EX) {n : Nat} {ρ : Rho} {σ : Sto} (a0 : Nat) (h0 : Sh n a0 9) (a1 : Nat) (h1 : Sh n a1 9) (a2 : Int32) (res : Int32) (hM : MX10_isOn σ a0 a1 a2 = some res) : CTi E yX10_isOn cX10_isOn 3 (some .boolean) 2 [.ref (eb E + a0), .ref (eb E + a1), .int a2] n σ ρ res σ ρ := by
  refine ct_i (by decide +kernel) rfl (Nat.le_of_ble_eq_true rfl) (fun X hE hml hC hR => ?_)
  subst hE
  show G X 0 0 n σ ρ 0 [(0, vr X a0), (1, vr X a1), (2, .int a2)] []
  replace hC : Cx X cX10_isOn RX10 2 := hC
  unfold MX10_isOn at hM
  refine g_aload_n hC dX10_isOn_0 rfl 0 rfl ?_
  refine fg_9_0 hC h0 k_263 dX10_isOn_1 rfl ?_
  refine g_aload_n hC dX10_isOn_4 rfl 1 rfl ?_
  refine fg_9_0 hC h1 k_263 dX10_isOn_5 rfl ?_
  refine g_imul hC dX10_isOn_8 rfl ?_
  refine g_aload_n hC dX10_isOn_9 rfl 0 rfl ?_
  refine fg_9_1 hC h0 k_265 dX10_isOn_10 rfl ?_
  refine g_aload_n hC dX10_isOn_13 rfl 1 rfl ?_
  refine fg_9_1 hC h1 k_265 dX10_isOn_14 rfl ?_
  refine g_imul hC dX10_isOn_17 rfl ?_
  refine g_iadd hC dX10_isOn_18 rfl ?_
  refine g_aload_n hC dX10_isOn_19 rfl 0 rfl ?_
  refine fg_9_2 hC h0 k_267 dX10_isOn_20 rfl ?_
  refine g_aload_n hC dX10_isOn_23 rfl 1 rfl ?_
  refine fg_9_2 hC h1 k_267 dX10_isOn_24 rfl ?_
  refine g_imul hC dX10_isOn_27 rfl ?_
  refine g_iadd hC dX10_isOn_28 rfl ?_
  refine g_iload_n hC dX10_isOn_29 rfl 2 rfl ?_
  refine g_callSi (As := [.int (((((σ a0 0) * (σ a1 0)) + ((σ a0 1) * (σ a1 1))) + ((σ a0 2) * (σ a1 2)))), .int a2]) (st' := []) (L' := 1) hC Y_X2_rest k_699 k_835 ⟨by decide, by decide⟩ dX10_isOn_30 rfl rfl rfl (Nat.le_of_ble_eq_true rfl) ⟨Nat.zero_le _, Nat.zero_le _⟩ hM (fun c hc => c_X2_rest (xE X) (((((σ a0 0) * (σ a1 0)) + ((σ a0 1) * (σ a1 1))) + ((σ a0 2) * (σ a1 2)))) a2 c hc) (fun c1 hM => ?_)
  refine g_if_ne (tgt := 40) hC dX10_isOn_33 rfl (by decide) hM (fun hM => ?_) (fun hM => ?_)
  · refine g_iconst (v := 0) hC dX10_isOn_40 rfl ic_0 ?_
    exact g_retz hM dX10_isOn_41 rfl (fun h => by cases h; exact hR)
  · refine g_iconst (v := 1) hC dX10_isOn_36 rfl ic_1 ?_
    refine g_goto (tgt := 41) hC dX10_isOn_37 rfl (by decide) ?_
    exact g_retz hM dX10_isOn_41 rfl (fun h => by cases h; exact hR)
