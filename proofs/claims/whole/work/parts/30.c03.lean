def MX8_markAt (σ : Sto) (ρ : Rho) (a0 : Nat) (a1 : Int32) : Option (Int32) :=
  if a1 < 0 then
    some (-1 : Int32)
  else
    if (σ a0 1) ≤ a1 then
      some (-1 : Int32)
    else
      if (8 : Int32) ≤ a1 then
        some (-1 : Int32)
      else
        Option.bind (ρ a0 2) fun j1 =>
        Option.bind (ag σ j1 a1) fun x2 =>
        some x2
set_option maxHeartbeats 4000000 in
set_option maxRecDepth 100000 in
theorem c_X8_markAt (E : EX) {n : Nat} {σ : Sto} {ρ : Rho} (a0 : Nat) (h0 : Sh n a0 7) (a1 : Int32) (res : Int32) (hM : MX8_markAt σ ρ a0 a1 = some res) : CTi E yX8_markAt cX8_markAt 2 (some .int) 0 [.ref (eb E + a0), .int a1] n σ ρ res σ ρ := by
  refine ct_i (by decide +kernel) rfl (Nat.le_of_ble_eq_true rfl) (fun X hE hml hC hR => ?_)
  subst hE
  show G X 0 0 n σ ρ 0 [(0, vr X a0), (1, .int a1)] []
  replace hC : Cx X cX8_markAt RX8 0 := hC
  unfold MX8_markAt at hM
  refine g_iload_n hC dX8_markAt_0 rfl 1 rfl ?_
  refine g_if_lt (tgt := 27) hC dX8_markAt_1 rfl (by decide) hM (fun hM => ?_) (fun hM => ?_)
  · refine g_iconst (v := -1) hC dX8_markAt_27 rfl ic_m1 ?_
    obtain rfl := Option.some.inj hM
    exact g_reti hR dX8_markAt_28 rfl
  · refine g_iload_n hC dX8_markAt_4 rfl 1 rfl ?_
    refine g_aload_n hC dX8_markAt_5 rfl 0 rfl ?_
    refine fg_7_1 hC h0 k_140 dX8_markAt_6 rfl ?_
    refine g_icmp_ge (tgt := 27) hC dX8_markAt_9 rfl (by decide) hM (fun hM => ?_) (fun hM => ?_)
    · refine g_iconst (v := -1) hC dX8_markAt_27 rfl ic_m1 ?_
      obtain rfl := Option.some.inj hM
      exact g_reti hR dX8_markAt_28 rfl
    · refine g_iload_n hC dX8_markAt_12 rfl 1 rfl ?_
      refine g_bipush (v := 8) hC dX8_markAt_13 rfl ib_8 ?_
      refine g_icmp_ge (tgt := 27) hC dX8_markAt_15 rfl (by decide) hM (fun hM => ?_) (fun hM => ?_)
      · refine g_iconst (v := -1) hC dX8_markAt_27 rfl ic_m1 ?_
        obtain rfl := Option.some.inj hM
        exact g_reti hR dX8_markAt_28 rfl
      · refine g_aload_n hC dX8_markAt_18 rfl 0 rfl ?_
        refine fg_7_2 hC h0 k_144 dX8_markAt_19 rfl hM (fun j1 hj1 hM => ?_)
        refine g_iload_n hC dX8_markAt_22 rfl 1 rfl ?_
        refine g_iald hC hj1 dX8_markAt_23 rfl hM (fun x2 hM => ?_)
        refine g_goto (tgt := 28) hC dX8_markAt_24 rfl (by decide) ?_
        cases hM
        exact g_reti hR dX8_markAt_28 rfl
def MX10_take (σ : Sto) (a0 : Nat) (a1 : Int32) (a2 : Int32) : Option (Int32 × Sto) :=
  if a2 < (1 : Int32) then
    zr ((0 : Int32)) (some ((0 : Int32), σ))
  else
    if a1 < 0 then
      zr ((0 : Int32)) (some ((0 : Int32), σ))
    else
      Option.bind (MX2_points a2) fun c1 =>
      if a1 < c1 then
        if (a2 * a2) ≤ a1 then
          if ((a2 * a2) + a2) ≤ a1 then
            Option.bind (MX10_fill σ a0 ((0 : Int32)) ((0 : Int32)) ((1 : Int32))) fun c2 =>
            zr ((1 : Int32)) (some ((1 : Int32), c2))
          else
            Option.bind (MX10_fill σ a0 ((0 : Int32)) ((1 : Int32)) ((a1 - (a2 * a2)))) fun c3 =>
            zr ((1 : Int32)) (some ((1 : Int32), c3))
        else
          Option.bind (dvi a1 a2) fun z4 =>
          Option.bind (rmi a1 a2) fun z5 =>
          Option.bind (MX10_fill σ a0 ((1 : Int32)) z4 z5) fun c6 =>
          zr ((1 : Int32)) (some ((1 : Int32), c6))
      else
        zr ((0 : Int32)) (some ((0 : Int32), σ))
set_option maxHeartbeats 4000000 in
set_option maxRecDepth 100000 in
theorem c_X10_take (E : EX) {n : Nat} {ρ : Rho} {σ : Sto} (a0 : Nat) (h0 : Sh n a0 9) (a1 : Int32) (a2 : Int32) (res : Int32 × Sto) (hM : MX10_take σ a0 a1 a2 = some res) : CTi E yX10_take cX10_take 3 (some .boolean) 1 [.ref (eb E + a0), .int a1, .int a2] n σ ρ res.1 res.2 ρ := by
  refine ct_i (by decide +kernel) rfl (Nat.le_of_ble_eq_true rfl) (fun X hE hml hC hR => ?_)
  subst hE
  show G X 0 0 n σ ρ 0 [(0, vr X a0), (1, .int a1), (2, .int a2)] []
  replace hC : Cx X cX10_take RX10 1 := hC
  unfold MX10_take at hM
  refine g_iload_n hC dX10_take_0 rfl 2 rfl ?_
  refine g_iconst (v := 1) hC dX10_take_1 rfl ic_1 ?_
  refine g_icmp_lt (tgt := 17) hC dX10_take_2 rfl (by decide) hM (fun hM => ?_) (fun hM => ?_)
  · refine g_iconst (v := 0) hC dX10_take_17 rfl ic_0 ?_
    exact g_retz hM dX10_take_18 rfl (fun h => by cases h; exact hR)
  · refine g_iload_n hC dX10_take_5 rfl 1 rfl ?_
    refine g_if_lt (tgt := 17) hC dX10_take_6 rfl (by decide) hM (fun hM => ?_) (fun hM => ?_)
    · refine g_iconst (v := 0) hC dX10_take_17 rfl ic_0 ?_
      exact g_retz hM dX10_take_18 rfl (fun h => by cases h; exact hR)
    · refine g_iload_n hC dX10_take_9 rfl 1 rfl ?_
      refine g_iload_n hC dX10_take_10 rfl 2 rfl ?_
      refine g_callSi (As := [.int a2]) (st' := [.int a1]) (L' := 0) hC Y_X2_points k_552 k_551 ⟨by decide, by decide⟩ dX10_take_11 rfl rfl rfl (Nat.le_of_ble_eq_true rfl) ⟨Nat.zero_le _, Nat.zero_le _⟩ hM (fun c hc => c_X2_points (xE X) a2 c hc) (fun c1 hM => ?_)
      refine g_icmp_lt (tgt := 19) hC dX10_take_14 rfl (by decide) hM (fun hM => ?_) (fun hM => ?_)
      · refine g_iload_n hC dX10_take_19 rfl 1 rfl ?_
        refine g_iload_n hC dX10_take_20 rfl 2 rfl ?_
        refine g_iload_n hC dX10_take_21 rfl 2 rfl ?_
        refine g_imul hC dX10_take_22 rfl ?_
        refine g_icmp_ge (tgt := 40) hC dX10_take_23 rfl (by decide) hM (fun hM => ?_) (fun hM => ?_)
        · refine g_iload_n hC dX10_take_40 rfl 1 rfl ?_
          refine g_iload_n hC dX10_take_41 rfl 2 rfl ?_
          refine g_iload_n hC dX10_take_42 rfl 2 rfl ?_
          refine g_imul hC dX10_take_43 rfl ?_
          refine g_iload_n hC dX10_take_44 rfl 2 rfl ?_
          refine g_iadd hC dX10_take_45 rfl ?_
          refine g_icmp_ge (tgt := 63) hC dX10_take_46 rfl (by decide) hM (fun hM => ?_) (fun hM => ?_)
          · refine g_aload_n hC dX10_take_63 rfl 0 rfl ?_
            refine g_iconst (v := 0) hC dX10_take_64 rfl ic_0 ?_
            refine g_iconst (v := 0) hC dX10_take_65 rfl ic_0 ?_
            refine g_iconst (v := 1) hC dX10_take_66 rfl ic_1 ?_
            refine g_callVv0 (As := [.int ((0 : Int32)), .int ((0 : Int32)), .int ((1 : Int32))]) (st' := []) (k := a0) (L' := 0) hC Y_X10_fill I_X10_fill k_554 ⟨by decide, by decide⟩ h0 (ci := 9) (by decide) rfl dX10_take_67 rfl rfl rfl (Nat.le_of_ble_eq_true rfl) ⟨Nat.zero_le _, Nat.zero_le _⟩ hM (fun c hc => c_X10_fill (xE X) a0 h0 ((0 : Int32)) ((0 : Int32)) ((1 : Int32)) c hc) (fun c2 hM => ?_)
            refine g_iconst (v := 1) hC dX10_take_70 rfl ic_1 ?_
            exact g_retz hM dX10_take_71 rfl (fun h => by cases h; exact hR)
          · refine g_aload_n hC dX10_take_49 rfl 0 rfl ?_
            refine g_iconst (v := 0) hC dX10_take_50 rfl ic_0 ?_
            refine g_iconst (v := 1) hC dX10_take_51 rfl ic_1 ?_
            refine g_iload_n hC dX10_take_52 rfl 1 rfl ?_
            refine g_iload_n hC dX10_take_53 rfl 2 rfl ?_
            refine g_iload_n hC dX10_take_54 rfl 2 rfl ?_
            refine g_imul hC dX10_take_55 rfl ?_
            refine g_isub hC dX10_take_56 rfl ?_
            refine g_callVv0 (As := [.int ((0 : Int32)), .int ((1 : Int32)), .int ((a1 - (a2 * a2)))]) (st' := []) (k := a0) (L' := 0) hC Y_X10_fill I_X10_fill k_554 ⟨by decide, by decide⟩ h0 (ci := 9) (by decide) rfl dX10_take_57 rfl rfl rfl (Nat.le_of_ble_eq_true rfl) ⟨Nat.zero_le _, Nat.zero_le _⟩ hM (fun c hc => c_X10_fill (xE X) a0 h0 ((0 : Int32)) ((1 : Int32)) ((a1 - (a2 * a2))) c hc) (fun c3 hM => ?_)
            refine g_goto (tgt := 70) hC dX10_take_60 rfl (by decide) ?_
            refine g_iconst (v := 1) hC dX10_take_70 rfl ic_1 ?_
            exact g_retz hM dX10_take_71 rfl (fun h => by cases h; exact hR)
        · refine g_aload_n hC dX10_take_26 rfl 0 rfl ?_
          refine g_iconst (v := 1) hC dX10_take_27 rfl ic_1 ?_
          refine g_iload_n hC dX10_take_28 rfl 1 rfl ?_
          refine g_iload_n hC dX10_take_29 rfl 2 rfl ?_
          refine g_idiv hC dX10_take_30 rfl hM (fun z4 hM => ?_)
          refine g_iload_n hC dX10_take_31 rfl 1 rfl ?_
          refine g_iload_n hC dX10_take_32 rfl 2 rfl ?_
          refine g_irem hC dX10_take_33 rfl hM (fun z5 hM => ?_)
          refine g_callVv0 (As := [.int ((1 : Int32)), .int z4, .int z5]) (st' := []) (k := a0) (L' := 0) hC Y_X10_fill I_X10_fill k_554 ⟨by decide, by decide⟩ h0 (ci := 9) (by decide) rfl dX10_take_34 rfl rfl rfl (Nat.le_of_ble_eq_true rfl) ⟨Nat.zero_le _, Nat.zero_le _⟩ hM (fun c hc => c_X10_fill (xE X) a0 h0 ((1 : Int32)) z4 z5 c hc) (fun c6 hM => ?_)
          refine g_goto (tgt := 70) hC dX10_take_37 rfl (by decide) ?_
          refine g_iconst (v := 1) hC dX10_take_70 rfl ic_1 ?_
          exact g_retz hM dX10_take_71 rfl (fun h => by cases h; exact hR)
      · refine g_iconst (v := 0) hC dX10_take_17 rfl ic_0 ?_
        exact g_retz hM dX10_take_18 rfl (fun h => by cases h; exact hR)
def FX1_firstOff_2 (σ : Sto) (ρ : Rho) (a0 : Nat) (a1 : Nat) (rec : Int32 → Option (Int32)) (v2 : Int32) : Option (Int32) :=
  if (σ a0 2) ≤ v2 then
    some (-1 : Int32)
  else
    if (6 : Int32) ≤ v2 then
      some (-1 : Int32)
    else
      Option.bind (ρ a0 0) fun j1 =>
      Option.bind (rg ρ j1 v2) fun j2 =>
      Option.bind (MX0_valueAt σ ρ j2 a1) fun c3 =>
      if c3 = 0 then
        bn (v2 + (1 : Int32)) fun y4 =>
        rec y4
      else
        some v2
set_option maxHeartbeats 4000000 in
set_option maxRecDepth 100000 in
theorem bX1_firstOff_2 {X : CX} {n : Nat} {σ : Sto} {ρ : Rho} {res : Int32} (hC : Cx X cX1_firstOff RX1 3) (hml : (xc X).maxLocals = 3) (hR : RtT (some .int) X cX1_firstOff n res σ ρ) (a0 : Nat) (a1 : Nat) (h0 : Sh n a0 1) (h1 : Sh n a1 9) (fu : Nat) : ∀ (v2 : Int32), fixN (fun _ => none) (FX1_firstOff_2 σ ρ a0 a1) fu v2 = some res → G X 0 0 n σ ρ 2 [(0, vr X a0), (1, vr X a1), (2, .int v2)] [] := by
  refine fixN_ind (P := fun (f : Int32 → Option (Int32)) => ∀ (v2 : Int32), f v2 = some res → G X 0 0 n σ ρ 2 [(0, vr X a0), (1, vr X a1), (2, .int v2)] []) ?_ ?_ fu
  · intro v2 hM; cases hM
  · intro rec ih v2 hM
    unfold FX1_firstOff_2 at hM
    refine g_iload_n hC dX1_firstOff_2 rfl 2 rfl ?_
    refine g_aload_n hC dX1_firstOff_3 rfl 0 rfl ?_
    refine fg_1_2 hC h0 k_365 dX1_firstOff_4 rfl ?_
    refine g_icmp_ge (tgt := 37) hC dX1_firstOff_7 rfl (by decide) hM (fun hM => ?_) (fun hM => ?_)
    · refine g_iconst (v := -1) hC dX1_firstOff_37 rfl ic_m1 ?_
      obtain rfl := Option.some.inj hM
      exact g_reti hR dX1_firstOff_38 rfl
    · refine g_iload_n hC dX1_firstOff_10 rfl 2 rfl ?_
      refine g_bipush (v := 6) hC dX1_firstOff_11 rfl ib_6 ?_
      refine g_icmp_ge (tgt := 37) hC dX1_firstOff_13 rfl (by decide) hM (fun hM => ?_) (fun hM => ?_)
      · refine g_iconst (v := -1) hC dX1_firstOff_37 rfl ic_m1 ?_
        obtain rfl := Option.some.inj hM
        exact g_reti hR dX1_firstOff_38 rfl
      · refine g_aload_n hC dX1_firstOff_16 rfl 0 rfl ?_
        refine fg_1_0 hC h0 k_363 dX1_firstOff_17 rfl hM (fun j1 hj1 hM => ?_)
        refine g_iload_n hC dX1_firstOff_20 rfl 2 rfl ?_
        refine g_aald hC hj1 (by decide) rfl rfl dX1_firstOff_21 rfl hM (fun j2 hj2 hM => ?_)
        refine g_aload_n hC dX1_firstOff_22 rfl 1 rfl ?_
        refine g_callVi (As := [vr X a1]) (st' := []) (k := j2) (L' := 2) hC Y_X0_valueAt I_X0_valueAt k_771 ⟨by decide, by decide⟩ hj2 (ci := 0) (by decide) rfl dX1_firstOff_23 rfl rfl rfl (Nat.le_of_ble_eq_true rfl) ⟨Nat.zero_le _, Nat.zero_le _⟩ hM (fun c hc => c_X0_valueAt (xE X) j2 hj2 a1 h1 c hc) (fun c3 hM => ?_)
        refine g_if_eq (tgt := 31) hC dX1_firstOff_26 rfl (by decide) hM (fun hM => ?_) (fun hM => ?_)
        · refine g_iinc (v := 1) hC (fun y4 => [(2, .int y4), (0, vr X a0), (1, vr X a1)]) dX1_firstOff_31 rfl hM (j := 2) rfl ic_1 hml (by decide) (fun _ => rfl) (fun y4 hM => ?_)
          refine g_goto (tgt := 2) hC dX1_firstOff_34 rfl (by decide) ?_
          exact g_sub [1, 2, 0] (ih _ hM) rfl
        · refine g_iload_n hC dX1_firstOff_29 rfl 2 rfl ?_
          cases hM
          exact g_reti hR dX1_firstOff_30 rfl
def MX1_firstOff (σ : Sto) (ρ : Rho) (a0 : Nat) (a1 : Nat) : Option (Int32) :=
  bn ((0 : Int32)) fun y1 =>
  fixN (fun _ => none) (FX1_firstOff_2 σ ρ a0 a1) FU y1
set_option maxHeartbeats 4000000 in
set_option maxRecDepth 100000 in
theorem c_X1_firstOff (E : EX) {n : Nat} {σ : Sto} {ρ : Rho} (a0 : Nat) (h0 : Sh n a0 1) (a1 : Nat) (h1 : Sh n a1 9) (res : Int32) (hM : MX1_firstOff σ ρ a0 a1 = some res) : CTi E yX1_firstOff cX1_firstOff 3 (some .int) 3 [.ref (eb E + a0), .ref (eb E + a1)] n σ ρ res σ ρ := by
  refine ct_i (by decide +kernel) rfl (Nat.le_of_ble_eq_true rfl) (fun X hE hml hC hR => ?_)
  subst hE
  show G X 0 0 n σ ρ 0 [(0, vr X a0), (1, vr X a1)] []
  replace hC : Cx X cX1_firstOff RX1 3 := hC
  unfold MX1_firstOff at hM
  refine g_iconst (v := 0) hC dX1_firstOff_0 rfl ic_0 ?_
  refine g_istore_n hC (fun y1 => [(2, .int y1), (0, vr X a0), (1, vr X a1)]) dX1_firstOff_1 rfl hM hml (by decide) (fun _ => rfl) (fun y1 hM => ?_)
  exact g_sub [1, 2, 0] ((bX1_firstOff_2 hC hml hR a0 a1 h0 h1  FU) _ hM) rfl
def FX1_pass_85 (a0 : Nat) (rec : Sto → Rho → Nat → Int32 → Int32 → Option (Sto × Rho)) (σ : Sto) (ρ : Rho) (v2 : Nat) (v3 : Int32) (v4 : Int32) : Option (Sto × Rho) :=
  if (σ a0 2) ≤ v4 then
    some (σ, ρ)
  else
    Option.bind (ρ a0 0) fun j1 =>
    Option.bind (rg ρ j1 v4) fun j2 =>
    Option.bind (ρ j2 0) fun j3 =>
    Option.bind (ρ a0 0) fun j4 =>
    Option.bind (rg ρ j4 v4) fun j5 =>
    Option.bind (ρ a0 1) fun j6 =>
    Option.bind (MX0_valueAt σ ρ j5 j6) fun c7 =>
    Option.bind (ρ v2 0) fun j8 =>
    Option.bind (MX3_blend σ j3 v3 ((-c7)) j8) fun c9 =>
    Option.bind (ρ a0 0) fun j10 =>
    Option.bind (rg ρ j10 v4) fun j11 =>
    Option.bind (ρ j11 0) fun j12 =>
    Option.bind (ρ a0 0) fun j13 =>
    Option.bind (rg ρ j13 v4) fun j14 =>
    Option.bind (MX3_reduce c9 j12 ((c9 j14 1))) fun c15 =>
    bn (v4 + (1 : Int32)) fun y16 =>
    rec c15 ρ v2 v3 y16
set_option maxHeartbeats 4000000 in
set_option maxRecDepth 100000 in
theorem bX1_pass_85 {X : CX} {n : Nat} {res : Sto × Rho} (hC : Cx X cX1_pass RX1 4) (hml : (xc X).maxLocals = 5) (hR : RtV X cX1_pass 0 0 n res.1 res.2) (a0 : Nat) (h0 : Sh n a0 1) (fu : Nat) : ∀ (σ : Sto) (ρ : Rho) (v2 : Nat) (v3 : Int32) (v4 : Int32) (hv2 : Sh n v2 0), fixN (fun _ _ _ _ _ => none) (FX1_pass_85 a0) fu σ ρ v2 v3 v4 = some res → G X 0 0 n σ ρ 85 [(0, vr X a0), (2, vr X v2), (3, .int v3), (4, .int v4)] [] := by
  refine fixN_ind (P := fun (f : Sto → Rho → Nat → Int32 → Int32 → Option (Sto × Rho)) => ∀ (σ : Sto) (ρ : Rho) (v2 : Nat) (v3 : Int32) (v4 : Int32) (hv2 : Sh n v2 0), f σ ρ v2 v3 v4 = some res → G X 0 0 n σ ρ 85 [(0, vr X a0), (2, vr X v2), (3, .int v3), (4, .int v4)] []) ?_ ?_ fu
  · intro σ ρ v2 v3 v4 hv2 hM; cases hM
  · intro rec ih σ ρ v2 v3 v4 hv2 hM
    unfold FX1_pass_85 at hM
    refine g_iload hC dX1_pass_85 rfl 3 rfl ?_
    refine g_aload_n hC dX1_pass_87 rfl 0 rfl ?_
    refine fg_1_2 hC h0 k_365 dX1_pass_88 rfl ?_
    refine g_icmp_ge (tgt := 156) hC dX1_pass_91 rfl (by decide) hM (fun hM => ?_) (fun hM => ?_)
    · cases hM
      exact g_retv hR dX1_pass_156 rfl
    · refine g_aload_n hC dX1_pass_94 rfl 0 rfl ?_
      refine fg_1_0 hC h0 k_363 dX1_pass_95 rfl hM (fun j1 hj1 hM => ?_)
      refine g_iload hC dX1_pass_98 rfl 3 rfl ?_
      refine g_aald hC hj1 (by decide) rfl rfl dX1_pass_100 rfl hM (fun j2 hj2 hM => ?_)
      refine fg_0_0 hC hj2 k_323 dX1_pass_101 rfl hM (fun j3 hj3 hM => ?_)
      refine g_iload_n hC dX1_pass_104 rfl 2 rfl ?_
      refine g_aload_n hC dX1_pass_105 rfl 0 rfl ?_
      refine fg_1_0 hC h0 k_363 dX1_pass_106 rfl hM (fun j4 hj4 hM => ?_)
      refine g_iload hC dX1_pass_109 rfl 3 rfl ?_
      refine g_aald hC hj4 (by decide) rfl rfl dX1_pass_111 rfl hM (fun j5 hj5 hM => ?_)
      refine g_aload_n hC dX1_pass_112 rfl 0 rfl ?_
      refine fg_1_1 hC h0 k_364 dX1_pass_113 rfl hM (fun j6 hj6 hM => ?_)
      refine g_callVi (As := [vr X j6]) (st' := [.int v3, vr X j3]) (k := j5) (L' := 2) hC Y_X0_valueAt I_X0_valueAt k_771 ⟨by decide, by decide⟩ hj5 (ci := 0) (by decide) rfl dX1_pass_116 rfl rfl rfl (Nat.le_of_ble_eq_true rfl) ⟨Nat.zero_le _, Nat.zero_le _⟩ hM (fun c hc => c_X0_valueAt (xE X) j5 hj5 j6 hj6 c hc) (fun c7 hM => ?_)
      refine g_ineg hC dX1_pass_119 rfl ?_
      refine g_aload_n hC dX1_pass_120 rfl 1 rfl ?_
      refine fg_0_0 hC hv2 k_323 dX1_pass_121 rfl hM (fun j8 hj8 hM => ?_)
      refine g_callVv0 (As := [.int v3, .int ((-c7)), vr X j8]) (st' := []) (k := j3) (L' := 1) hC Y_X3_blend I_X3_blend k_775 ⟨by decide, by decide⟩ hj3 (ci := 2) (by decide) rfl dX1_pass_124 rfl rfl rfl (Nat.le_of_ble_eq_true rfl) ⟨Nat.zero_le _, Nat.zero_le _⟩ hM (fun c hc => c_X3_blend (xE X) j3 hj3 v3 ((-c7)) j8 hj8 c hc) (fun c9 hM => ?_)
      refine g_aload_n hC dX1_pass_127 rfl 0 rfl ?_
      refine fg_1_0 hC h0 k_363 dX1_pass_128 rfl hM (fun j10 hj10 hM => ?_)
      refine g_iload hC dX1_pass_131 rfl 3 rfl ?_
      refine g_aald hC hj10 (by decide) rfl rfl dX1_pass_133 rfl hM (fun j11 hj11 hM => ?_)
      refine fg_0_0 hC hj11 k_323 dX1_pass_134 rfl hM (fun j12 hj12 hM => ?_)
      refine g_aload_n hC dX1_pass_137 rfl 0 rfl ?_
      refine fg_1_0 hC h0 k_363 dX1_pass_138 rfl hM (fun j13 hj13 hM => ?_)
      refine g_iload hC dX1_pass_141 rfl 3 rfl ?_
      refine g_aald hC hj13 (by decide) rfl rfl dX1_pass_143 rfl hM (fun j14 hj14 hM => ?_)
      refine fg_0_1 hC hj14 k_326 dX1_pass_144 rfl ?_
      refine g_callVv0 (As := [.int ((c9 j14 1))]) (st' := []) (k := j12) (L' := 2) hC Y_X3_reduce I_X3_reduce k_776 ⟨by decide, by decide⟩ hj12 (ci := 2) (by decide) rfl dX1_pass_147 rfl rfl rfl (Nat.le_of_ble_eq_true rfl) ⟨Nat.zero_le _, Nat.zero_le _⟩ hM (fun c hc => c_X3_reduce (xE X) j12 hj12 ((c9 j14 1)) c hc) (fun c15 hM => ?_)
      refine g_iinc (v := 1) hC (fun y16 => [(4, .int y16), (0, vr X a0), (2, vr X v2), (3, .int v3)]) dX1_pass_150 rfl hM (j := 3) rfl ic_1 hml (by decide) (fun _ => rfl) (fun y16 hM => ?_)
      refine g_goto (tgt := 85) hC dX1_pass_153 rfl (by decide) ?_
      exact g_sub [1, 2, 3, 0] (ih _ _ _ _ _ hv2 hM) rfl
def MX1_pass (σ : Sto) (ρ : Rho) (a0 : Nat) : Option (Sto × Rho) :=
  Option.bind (ρ a0 1) fun j1 =>
  Option.bind (MX1_firstOff σ ρ a0 j1) fun c2 =>
  bn c2 fun y3 =>
  if y3 < 0 then
    some (σ, ρ)
  else
    if (σ a0 2) ≤ y3 then
      some (σ, ρ)
    else
      if (σ a0 2) ≤ (6 : Int32) then
        bn (su σ a0 2 (((σ a0 2) - (1 : Int32)))) fun σ4 =>
        Option.bind (ρ a0 0) fun j5 =>
        Option.bind (rg ρ j5 y3) fun j6 =>
        Option.bind (ρ a0 0) fun j7 =>
        Option.bind (ρ a0 0) fun j8 =>
        Option.bind (rg ρ j8 ((σ4 a0 2))) fun j9 =>
        Option.bind (rp ρ j7 y3 j9) fun ρ10 =>
        Option.bind (ρ10 a0 0) fun j11 =>
        Option.bind (rp ρ10 j11 ((σ4 a0 2)) j6) fun ρ12 =>
        Option.bind (ρ12 a0 1) fun j13 =>
        Option.bind (MX0_valueAt σ4 ρ12 j6 j13) fun c14 =>
        bn c14 fun y15 =>
        bn ((0 : Int32)) fun y16 =>
        fixN (fun _ _ _ _ _ => none) (FX1_pass_85 a0) FU σ4 ρ12 j6 y15 y16
      else
        some (σ, ρ)
set_option maxHeartbeats 4000000 in
set_option maxRecDepth 100000 in
theorem c_X1_pass (E : EX) {n : Nat} {σ : Sto} {ρ : Rho} (a0 : Nat) (h0 : Sh n a0 1) (res : Sto × Rho) (hM : MX1_pass σ ρ a0 = some res) : CTv E yX1_pass cX1_pass 5 4 0 0 [.ref (eb E + a0)] n σ ρ res.1 res.2 := by
  refine ct_v (by decide +kernel) (Nat.le_of_ble_eq_true rfl) (fun X hE hml hin hRm hC hR => ?_)
  subst hE
  show G X 0 0 n σ ρ 0 [(0, vr X a0)] []
  replace hC : Cx X cX1_pass RX1 4 := hC
  unfold MX1_pass at hM
  refine g_aload_n hC dX1_pass_0 rfl 0 rfl ?_
  refine g_aload_n hC dX1_pass_1 rfl 0 rfl ?_
  refine fg_1_1 hC h0 k_364 dX1_pass_2 rfl hM (fun j1 hj1 hM => ?_)
  refine g_callVi (As := [vr X j1]) (st' := []) (k := a0) (L' := 3) hC Y_X1_firstOff I_X1_firstOff k_767 ⟨by decide, by decide⟩ h0 (ci := 1) (by decide) rfl dX1_pass_5 rfl rfl rfl (Nat.le_of_ble_eq_true rfl) ⟨Nat.zero_le _, Nat.zero_le _⟩ hM (fun c hc => c_X1_firstOff (xE X) a0 h0 j1 hj1 c hc) (fun c2 hM => ?_)
  refine g_istore_n hC (fun y3 => [(1, .int y3), (0, vr X a0)]) dX1_pass_8 rfl hM hml (by decide) (fun _ => rfl) (fun y3 hM => ?_)
  refine g_iload_n hC dX1_pass_9 rfl 0 rfl ?_
  refine g_if_lt (tgt := 30) hC dX1_pass_10 rfl (by decide) hM (fun hM => ?_) (fun hM => ?_)
  · cases hM
    exact g_retv hR dX1_pass_30 rfl
  · refine g_iload_n hC dX1_pass_13 rfl 0 rfl ?_
    refine g_aload_n hC dX1_pass_14 rfl 1 rfl ?_
    refine fg_1_2 hC h0 k_365 dX1_pass_15 rfl ?_
    refine g_icmp_ge (tgt := 30) hC dX1_pass_18 rfl (by decide) hM (fun hM => ?_) (fun hM => ?_)
    · cases hM
      exact g_retv hR dX1_pass_30 rfl
    · refine g_aload_n hC dX1_pass_21 rfl 1 rfl ?_
      refine fg_1_2 hC h0 k_365 dX1_pass_22 rfl ?_
      refine g_bipush (v := 6) hC dX1_pass_25 rfl ib_6 ?_
      refine g_icmp_le (tgt := 31) hC dX1_pass_27 rfl (by decide) hM (fun hM => ?_) (fun hM => ?_)
      · refine g_aload_n hC dX1_pass_31 rfl 1 rfl ?_
        refine g_dup hC dX1_pass_32 rfl rfl ?_
        refine fg_1_2 hC h0 k_365 dX1_pass_33 rfl ?_
        refine g_iconst (v := 1) hC dX1_pass_36 rfl ic_1 ?_
        refine g_isub hC dX1_pass_37 rfl ?_
        refine fp_1_2 hC h0 k_365 dX1_pass_38 rfl hM (fun σ4 hM => ?_)
        refine g_aload_n hC dX1_pass_41 rfl 1 rfl ?_
        refine fg_1_0 hC h0 k_363 dX1_pass_42 rfl hM (fun j5 hj5 hM => ?_)
        refine g_iload_n hC dX1_pass_45 rfl 0 rfl ?_
        refine g_aald hC hj5 (by decide) rfl rfl dX1_pass_46 rfl hM (fun j6 hj6 hM => ?_)
        refine g_astore_n (lv' := [(2, vr X j6), (1, .int y3), (0, vr X a0)]) hC dX1_pass_47 rfl hml (by decide) rfl ?_
        refine g_aload_n hC dX1_pass_48 rfl 2 rfl ?_
        refine fg_1_0 hC h0 k_363 dX1_pass_49 rfl hM (fun j7 hj7 hM => ?_)
        refine g_iload_n hC dX1_pass_52 rfl 1 rfl ?_
        refine g_aload_n hC dX1_pass_53 rfl 2 rfl ?_
        refine fg_1_0 hC h0 k_363 dX1_pass_54 rfl hM (fun j8 hj8 hM => ?_)
        refine g_aload_n hC dX1_pass_57 rfl 2 rfl ?_
        refine fg_1_2 hC h0 k_365 dX1_pass_58 rfl ?_
        refine g_aald hC hj8 (by decide) rfl rfl dX1_pass_61 rfl hM (fun j9 hj9 hM => ?_)
        refine g_aast (ci := 0) (te := 0) hC hj7 (by decide) rfl hj9 (by decide) rfl rfl dX1_pass_62 rfl hM (fun ρ10 hM => ?_)
        refine g_aload_n hC dX1_pass_63 rfl 2 rfl ?_
        refine fg_1_0 hC h0 k_363 dX1_pass_64 rfl hM (fun j11 hj11 hM => ?_)
        refine g_aload_n hC dX1_pass_67 rfl 2 rfl ?_
        refine fg_1_2 hC h0 k_365 dX1_pass_68 rfl ?_
        refine g_aload_n hC dX1_pass_71 rfl 0 rfl ?_
        refine g_aast (ci := 0) (te := 0) hC hj11 (by decide) rfl hj6 (by decide) rfl rfl dX1_pass_72 rfl hM (fun ρ12 hM => ?_)
        refine g_aload_n hC dX1_pass_73 rfl 0 rfl ?_
        refine g_aload_n hC dX1_pass_74 rfl 2 rfl ?_
        refine fg_1_1 hC h0 k_364 dX1_pass_75 rfl hM (fun j13 hj13 hM => ?_)
        refine g_callVi (As := [vr X j13]) (st' := []) (k := j6) (L' := 2) hC Y_X0_valueAt I_X0_valueAt k_771 ⟨by decide, by decide⟩ hj6 (ci := 0) (by decide) rfl dX1_pass_78 rfl rfl rfl (Nat.le_of_ble_eq_true rfl) ⟨Nat.zero_le _, Nat.zero_le _⟩ hM (fun c hc => c_X0_valueAt (xE X) j6 hj6 j13 hj13 c hc) (fun c14 hM => ?_)
        refine g_istore_n hC (fun y15 => [(3, .int y15), (2, vr X j6), (1, .int y3), (0, vr X a0)]) dX1_pass_81 rfl hM hml (by decide) (fun _ => rfl) (fun y15 hM => ?_)
        refine g_iconst (v := 0) hC dX1_pass_82 rfl ic_0 ?_
        refine g_istore hC (fun y16 => [(4, .int y16), (3, .int y15), (2, vr X j6), (1, .int y3), (0, vr X a0)]) dX1_pass_83 rfl hM hml (by decide) (fun _ => rfl) (fun y16 hM => ?_)
        exact g_sub [4, 2, 1, 0] ((bX1_pass_85 hC hml hR a0 h0  FU) _ _ _ _ _ hj6 hM) rfl
      · cases hM
        exact g_retv hR dX1_pass_30 rfl
def BX1_gather_98 (a0 : Nat) (a1 : Nat) (rec : Sto → Rho → Int32 → Option (Sto × Rho)) (σ : Sto) (ρ : Rho) (v2 : Int32) : Option (Sto × Rho) :=
  bn (v2 + (1 : Int32)) fun y1 =>
  rec σ ρ y1
set_option maxHeartbeats 4000000 in
set_option maxRecDepth 100000 in
theorem bX1_gather_98 {X : CX} {n : Nat} {res : Sto × Rho} (hC : Cx X cX1_gather RX1 5) (hml : (xc X).maxLocals = 3) (hR : RtV X cX1_gather 0 0 n res.1 res.2) (a0 : Nat) (a1 : Nat) (h0 : Sh n a0 1) (h1 : Sh n a1 7) (rec : Sto → Rho → Int32 → Option (Sto × Rho)) (ih : ∀ (σ : Sto) (ρ : Rho) (v2 : Int32), rec σ ρ v2 = some res → G X 0 0 n σ ρ 67 [(0, vr X a0), (1, vr X a1), (2, .int v2)] []) : ∀ (σ : Sto) (ρ : Rho) (v2 : Int32), BX1_gather_98 a0 a1 rec σ ρ v2 = some res → G X 0 0 n σ ρ 98 [(0, vr X a0), (1, vr X a1), (2, .int v2)] [] := by
  intro σ ρ v2 hM
  unfold BX1_gather_98 at hM
  refine g_iinc (v := 1) hC (fun y1 => [(2, .int y1), (0, vr X a0), (1, vr X a1)]) dX1_gather_98 rfl hM (j := 2) rfl ic_1 hml (by decide) (fun _ => rfl) (fun y1 hM => ?_)
  refine g_goto (tgt := 67) hC dX1_gather_101 rfl (by decide) ?_
  exact g_sub [1, 2, 0] (ih _ _ _ hM) rfl
def FX1_gather_67 (a0 : Nat) (a1 : Nat) (rec : Sto → Rho → Int32 → Option (Sto × Rho)) (σ : Sto) (ρ : Rho) (v2 : Int32) : Option (Sto × Rho) :=
  if (σ a1 1) ≤ v2 then
    some (σ, ρ)
  else
    Option.bind (ρ a0 1) fun j1 =>
    Option.bind (MX8_markAt σ ρ a1 v2) fun c2 =>
    Option.bind (MX10_take σ j1 c2 ((σ a1 0))) fun c3 =>
    if c3.1 = 0 then
      BX1_gather_98 a0 a1 rec c3.2 ρ v2
    else
      Option.bind (MX1_pass c3.2 ρ a0) fun c4 =>
      BX1_gather_98 a0 a1 rec c4.1 c4.2 v2
set_option maxHeartbeats 4000000 in
set_option maxRecDepth 100000 in
theorem bX1_gather_67 {X : CX} {n : Nat} {res : Sto × Rho} (hC : Cx X cX1_gather RX1 5) (hml : (xc X).maxLocals = 3) (hR : RtV X cX1_gather 0 0 n res.1 res.2) (a0 : Nat) (a1 : Nat) (h0 : Sh n a0 1) (h1 : Sh n a1 7) (fu : Nat) : ∀ (σ : Sto) (ρ : Rho) (v2 : Int32), fixN (fun _ _ _ => none) (FX1_gather_67 a0 a1) fu σ ρ v2 = some res → G X 0 0 n σ ρ 67 [(0, vr X a0), (1, vr X a1), (2, .int v2)] [] := by
  refine fixN_ind (P := fun (f : Sto → Rho → Int32 → Option (Sto × Rho)) => ∀ (σ : Sto) (ρ : Rho) (v2 : Int32), f σ ρ v2 = some res → G X 0 0 n σ ρ 67 [(0, vr X a0), (1, vr X a1), (2, .int v2)] []) ?_ ?_ fu
  · intro σ ρ v2 hM; cases hM
  · intro rec ih σ ρ v2 hM
    unfold FX1_gather_67 at hM
    refine g_iload_n hC dX1_gather_67 rfl 2 rfl ?_
    refine g_aload_n hC dX1_gather_68 rfl 1 rfl ?_
    refine fg_7_1 hC h1 k_141 dX1_gather_69 rfl ?_
    refine g_icmp_ge (tgt := 104) hC dX1_gather_72 rfl (by decide) hM (fun hM => ?_) (fun hM => ?_)
    · cases hM
      exact g_retv hR dX1_gather_104 rfl
    · refine g_aload_n hC dX1_gather_75 rfl 0 rfl ?_
      refine fg_1_1 hC h0 k_364 dX1_gather_76 rfl hM (fun j1 hj1 hM => ?_)
      refine g_aload_n hC dX1_gather_79 rfl 1 rfl ?_
      refine g_iload_n hC dX1_gather_80 rfl 2 rfl ?_
      refine g_callVi (As := [.int v2]) (st' := [vr X j1]) (k := a1) (L' := 0) hC Y_X8_markAt I_X8_markAt k_761 ⟨by decide, by decide⟩ h1 (ci := 7) (by decide) rfl dX1_gather_81 rfl rfl rfl (Nat.le_of_ble_eq_true rfl) ⟨Nat.zero_le _, Nat.zero_le _⟩ hM (fun c hc => c_X8_markAt (xE X) a1 h1 v2 c hc) (fun c2 hM => ?_)
      refine g_aload_n hC dX1_gather_84 rfl 1 rfl ?_
      refine fg_7_0 hC h1 k_137 dX1_gather_85 rfl ?_
      refine g_callVi (As := [.int c2, .int ((σ a1 0))]) (st' := []) (k := j1) (L' := 1) hC Y_X10_take I_X10_take k_762 ⟨by decide, by decide⟩ hj1 (ci := 9) (by decide) rfl dX1_gather_88 rfl rfl rfl (Nat.le_of_ble_eq_true rfl) ⟨Nat.zero_le _, Nat.zero_le _⟩ hM (fun c hc => c_X10_take (xE X) j1 hj1 c2 ((σ a1 0)) c hc) (fun c3 hM => ?_)
      refine g_if_eq (tgt := 98) hC dX1_gather_91 rfl (by decide) hM (fun hM => ?_) (fun hM => ?_)
      · exact g_sub [0, 1, 2] ((bX1_gather_98 hC hml hR a0 a1 h0 h1 rec ih ) _ _ _ hM) rfl
      · refine g_aload_n hC dX1_gather_94 rfl 0 rfl ?_
        refine g_callVv0 (As := []) (st' := []) (k := a0) (L' := 4) hC Y_X1_pass I_X1_pass k_763 ⟨by decide, by decide⟩ h0 (ci := 1) (by decide) rfl dX1_gather_95 rfl rfl rfl (Nat.le_of_ble_eq_true rfl) ⟨Nat.zero_le _, Nat.zero_le _⟩ hM (fun c hc => c_X1_pass (xE X) a0 h0 c hc) (fun c4 hM => ?_)
        exact g_sub [0, 1, 2] ((bX1_gather_98 hC hml hR a0 a1 h0 h1 rec ih ) _ _ _ hM) rfl
def BX1_gather_65 (a0 : Nat) (a1 : Nat) (σ : Sto) (ρ : Rho) : Option (Sto × Rho) :=
  bn ((0 : Int32)) fun y1 =>
  fixN (fun _ _ _ => none) (FX1_gather_67 a0 a1) FU σ ρ y1
set_option maxHeartbeats 4000000 in
set_option maxRecDepth 100000 in
theorem bX1_gather_65 {X : CX} {n : Nat} {res : Sto × Rho} (hC : Cx X cX1_gather RX1 5) (hml : (xc X).maxLocals = 3) (hR : RtV X cX1_gather 0 0 n res.1 res.2) (a0 : Nat) (a1 : Nat) (h0 : Sh n a0 1) (h1 : Sh n a1 7) : ∀ (σ : Sto) (ρ : Rho), BX1_gather_65 a0 a1 σ ρ = some res → G X 0 0 n σ ρ 65 [(0, vr X a0), (1, vr X a1)] [] := by
  intro σ ρ hM
  unfold BX1_gather_65 at hM
  refine g_iconst (v := 0) hC dX1_gather_65 rfl ic_0 ?_
  refine g_istore_n hC (fun y1 => [(2, .int y1), (0, vr X a0), (1, vr X a1)]) dX1_gather_66 rfl hM hml (by decide) (fun _ => rfl) (fun y1 hM => ?_)
  exact g_sub [1, 2, 0] ((bX1_gather_67 hC hml hR a0 a1 h0 h1  FU) _ _ _ hM) rfl
def FX1_gather_8 (a0 : Nat) (a1 : Nat) (k65 : Sto → Rho → Option (Sto × Rho)) (rec : Sto → Rho → Int32 → Option (Sto × Rho)) (σ : Sto) (ρ : Rho) (v2 : Int32) : Option (Sto × Rho) :=
  if (6 : Int32) ≤ v2 then
    k65 σ ρ
  else
    Option.bind (ρ a0 0) fun j1 =>
    Option.bind (rg ρ j1 v2) fun j2 =>
    bn (su σ j2 1 ((σ a1 0))) fun σ3 =>
    Option.bind (ρ a0 0) fun j4 =>
    Option.bind (rg ρ j4 v2) fun j5 =>
    Option.bind (ρ j5 0) fun j6 =>
    Option.bind (MX3_fill σ3 j6 ((0 : Int32)) ((0 : Int32)) ((0 : Int32)) ((0 : Int32)) ((0 : Int32)) ((0 : Int32))) fun c7 =>
    Option.bind (ρ a0 0) fun j8 =>
    Option.bind (rg ρ j8 v2) fun j9 =>
    Option.bind (ρ j9 0) fun j10 =>
    Option.bind (MX3_change c7 j10 v2 ((1 : Int32))) fun c11 =>
    bn (v2 + (1 : Int32)) fun y12 =>
    rec c11 ρ y12
set_option maxHeartbeats 4000000 in
set_option maxRecDepth 100000 in
theorem bX1_gather_8 {X : CX} {n : Nat} {res : Sto × Rho} (hC : Cx X cX1_gather RX1 5) (hml : (xc X).maxLocals = 3) (hR : RtV X cX1_gather 0 0 n res.1 res.2) (a0 : Nat) (a1 : Nat) (h0 : Sh n a0 1) (h1 : Sh n a1 7) (k65 : Sto → Rho → Option (Sto × Rho)) (hk65 : ∀ (σ : Sto) (ρ : Rho), k65 σ ρ = some res → G X 0 0 n σ ρ 65 [(0, vr X a0), (1, vr X a1)] []) (fu : Nat) : ∀ (σ : Sto) (ρ : Rho) (v2 : Int32), fixN (fun _ _ _ => none) (FX1_gather_8 a0 a1 k65) fu σ ρ v2 = some res → G X 0 0 n σ ρ 8 [(0, vr X a0), (1, vr X a1), (2, .int v2)] [] := by
  refine fixN_ind (P := fun (f : Sto → Rho → Int32 → Option (Sto × Rho)) => ∀ (σ : Sto) (ρ : Rho) (v2 : Int32), f σ ρ v2 = some res → G X 0 0 n σ ρ 8 [(0, vr X a0), (1, vr X a1), (2, .int v2)] []) ?_ ?_ fu
  · intro σ ρ v2 hM; cases hM
  · intro rec ih σ ρ v2 hM
    unfold FX1_gather_8 at hM
    refine g_iload_n hC dX1_gather_8 rfl 2 rfl ?_
    refine g_bipush (v := 6) hC dX1_gather_9 rfl ib_6 ?_
    refine g_icmp_ge (tgt := 65) hC dX1_gather_11 rfl (by decide) hM (fun hM => ?_) (fun hM => ?_)
    · exact g_sub [0, 1] (hk65 _ _ hM) rfl
    · refine g_aload_n hC dX1_gather_14 rfl 0 rfl ?_
      refine fg_1_0 hC h0 k_363 dX1_gather_15 rfl hM (fun j1 hj1 hM => ?_)
      refine g_iload_n hC dX1_gather_18 rfl 2 rfl ?_
      refine g_aald hC hj1 (by decide) rfl rfl dX1_gather_19 rfl hM (fun j2 hj2 hM => ?_)
      refine g_aload_n hC dX1_gather_20 rfl 1 rfl ?_
      refine fg_7_0 hC h1 k_137 dX1_gather_21 rfl ?_
      refine fp_0_1 hC hj2 k_326 dX1_gather_24 rfl hM (fun σ3 hM => ?_)
      refine g_aload_n hC dX1_gather_27 rfl 0 rfl ?_
      refine fg_1_0 hC h0 k_363 dX1_gather_28 rfl hM (fun j4 hj4 hM => ?_)
      refine g_iload_n hC dX1_gather_31 rfl 2 rfl ?_
      refine g_aald hC hj4 (by decide) rfl rfl dX1_gather_32 rfl hM (fun j5 hj5 hM => ?_)
      refine fg_0_0 hC hj5 k_323 dX1_gather_33 rfl hM (fun j6 hj6 hM => ?_)
      refine g_iconst (v := 0) hC dX1_gather_36 rfl ic_0 ?_
      refine g_iconst (v := 0) hC dX1_gather_37 rfl ic_0 ?_
      refine g_iconst (v := 0) hC dX1_gather_38 rfl ic_0 ?_
      refine g_iconst (v := 0) hC dX1_gather_39 rfl ic_0 ?_
      refine g_iconst (v := 0) hC dX1_gather_40 rfl ic_0 ?_
      refine g_iconst (v := 0) hC dX1_gather_41 rfl ic_0 ?_
      refine g_callVv0 (As := [.int ((0 : Int32)), .int ((0 : Int32)), .int ((0 : Int32)), .int ((0 : Int32)), .int ((0 : Int32)), .int ((0 : Int32))]) (st' := []) (k := j6) (L' := 0) hC Y_X3_fill I_X3_fill k_759 ⟨by decide, by decide⟩ hj6 (ci := 2) (by decide) rfl dX1_gather_42 rfl rfl rfl (Nat.le_of_ble_eq_true rfl) ⟨Nat.zero_le _, Nat.zero_le _⟩ hM (fun c hc => c_X3_fill (xE X) j6 hj6 ((0 : Int32)) ((0 : Int32)) ((0 : Int32)) ((0 : Int32)) ((0 : Int32)) ((0 : Int32)) c hc) (fun c7 hM => ?_)
      refine g_aload_n hC dX1_gather_45 rfl 0 rfl ?_
      refine fg_1_0 hC h0 k_363 dX1_gather_46 rfl hM (fun j8 hj8 hM => ?_)
      refine g_iload_n hC dX1_gather_49 rfl 2 rfl ?_
      refine g_aald hC hj8 (by decide) rfl rfl dX1_gather_50 rfl hM (fun j9 hj9 hM => ?_)
      refine fg_0_0 hC hj9 k_323 dX1_gather_51 rfl hM (fun j10 hj10 hM => ?_)
      refine g_iload_n hC dX1_gather_54 rfl 2 rfl ?_
      refine g_iconst (v := 1) hC dX1_gather_55 rfl ic_1 ?_
      refine g_callVv0 (As := [.int v2, .int ((1 : Int32))]) (st' := []) (k := j10) (L' := 0) hC Y_X3_change I_X3_change k_760 ⟨by decide, by decide⟩ hj10 (ci := 2) (by decide) rfl dX1_gather_56 rfl rfl rfl (Nat.le_of_ble_eq_true rfl) ⟨Nat.zero_le _, Nat.zero_le _⟩ hM (fun c hc => c_X3_change (xE X) j10 hj10 v2 ((1 : Int32)) c hc) (fun c11 hM => ?_)
      refine g_iinc (v := 1) hC (fun y12 => [(2, .int y12), (0, vr X a0), (1, vr X a1)]) dX1_gather_59 rfl hM (j := 2) rfl ic_1 hml (by decide) (fun _ => rfl) (fun y12 hM => ?_)
      refine g_goto (tgt := 8) hC dX1_gather_62 rfl (by decide) ?_
      exact g_sub [1, 2, 0] (ih _ _ _ hM) rfl
def MX1_gather (σ : Sto) (ρ : Rho) (a0 : Nat) (a1 : Nat) : Option (Sto × Rho) :=
  bn (su σ a0 2 ((6 : Int32))) fun σ1 =>
  bn ((0 : Int32)) fun y2 =>
  fixN (fun _ _ _ => none) (FX1_gather_8 a0 a1 (BX1_gather_65 a0 a1)) FU σ1 ρ y2
set_option maxHeartbeats 4000000 in
set_option maxRecDepth 100000 in
theorem c_X1_gather (E : EX) {n : Nat} {σ : Sto} {ρ : Rho} (a0 : Nat) (h0 : Sh n a0 1) (a1 : Nat) (h1 : Sh n a1 7) (res : Sto × Rho) (hM : MX1_gather σ ρ a0 a1 = some res) : CTv E yX1_gather cX1_gather 3 5 0 0 [.ref (eb E + a0), .ref (eb E + a1)] n σ ρ res.1 res.2 := by
  refine ct_v (by decide +kernel) (Nat.le_of_ble_eq_true rfl) (fun X hE hml hin hRm hC hR => ?_)
  subst hE
  show G X 0 0 n σ ρ 0 [(0, vr X a0), (1, vr X a1)] []
  replace hC : Cx X cX1_gather RX1 5 := hC
  unfold MX1_gather at hM
  refine g_aload_n hC dX1_gather_0 rfl 0 rfl ?_
  refine g_bipush (v := 6) hC dX1_gather_1 rfl ib_6 ?_
  refine fp_1_2 hC h0 k_365 dX1_gather_3 rfl hM (fun σ1 hM => ?_)
  refine g_iconst (v := 0) hC dX1_gather_6 rfl ic_0 ?_
  refine g_istore_n hC (fun y2 => [(2, .int y2), (0, vr X a0), (1, vr X a1)]) dX1_gather_7 rfl hM hml (by decide) (fun _ => rfl) (fun y2 hM => ?_)
  exact g_sub [1, 2, 0] ((bX1_gather_8 hC hml hR a0 a1 h0 h1 (BX1_gather_65 a0 a1) (bX1_gather_65 hC hml hR a0 a1 h0 h1 ) FU) _ _ _ hM) rfl
def MX1_isLessBy (σ : Sto) (ρ : Rho) (a0 : Nat) (a1 : Nat) : Option (Int32) :=
  Option.bind (MX1_firstOff σ ρ a0 a1) fun c1 =>
  if c1 = (-1 : Int32) then
    zr ((0 : Int32)) (some (0 : Int32))
  else
    zr ((1 : Int32)) (some (1 : Int32))
set_option maxHeartbeats 4000000 in
set_option maxRecDepth 100000 in
theorem c_X1_isLessBy (E : EX) {n : Nat} {σ : Sto} {ρ : Rho} (a0 : Nat) (h0 : Sh n a0 1) (a1 : Nat) (h1 : Sh n a1 9) (res : Int32) (hM : MX1_isLessBy σ ρ a0 a1 = some res) : CTi E yX1_isLessBy cX1_isLessBy 2 (some .boolean) 4 [.ref (eb E + a0), .ref (eb E + a1)] n σ ρ res σ ρ := by
  refine ct_i (by decide +kernel) rfl (Nat.le_of_ble_eq_true rfl) (fun X hE hml hC hR => ?_)
  subst hE
  show G X 0 0 n σ ρ 0 [(0, vr X a0), (1, vr X a1)] []
  replace hC : Cx X cX1_isLessBy RX1 4 := hC
  unfold MX1_isLessBy at hM
  refine g_aload_n hC dX1_isLessBy_0 rfl 0 rfl ?_
  refine g_aload_n hC dX1_isLessBy_1 rfl 1 rfl ?_
  refine g_callVi (As := [vr X a1]) (st' := []) (k := a0) (L' := 3) hC Y_X1_firstOff I_X1_firstOff k_767 ⟨by decide, by decide⟩ h0 (ci := 1) (by decide) rfl dX1_isLessBy_2 rfl rfl rfl (Nat.le_of_ble_eq_true rfl) ⟨Nat.zero_le _, Nat.zero_le _⟩ hM (fun c hc => c_X1_firstOff (xE X) a0 h0 a1 h1 c hc) (fun c1 hM => ?_)
  refine g_iconst (v := -1) hC dX1_isLessBy_5 rfl ic_m1 ?_
  refine g_icmp_eq (tgt := 13) hC dX1_isLessBy_6 rfl (by decide) hM (fun hM => ?_) (fun hM => ?_)
  · refine g_iconst (v := 0) hC dX1_isLessBy_13 rfl ic_0 ?_
    exact g_retz hM dX1_isLessBy_14 rfl (fun h => by cases h; exact hR)
  · refine g_iconst (v := 1) hC dX1_isLessBy_9 rfl ic_1 ?_
    refine g_goto (tgt := 14) hC dX1_isLessBy_10 rfl (by decide) ?_
    exact g_retz hM dX1_isLessBy_14 rfl (fun h => by cases h; exact hR)
def FX2_inverse_2 (a0 : Int32) (a1 : Int32) (rec : Int32 → Option (Int32)) (v2 : Int32) : Option (Int32) :=
  if a1 ≤ v2 then
    some (0 : Int32)
  else
    Option.bind (MX2_rest ((v2 * a0)) a1) fun c1 =>
    if c1 = (1 : Int32) then
      some v2
    else
      bn (v2 + (1 : Int32)) fun y2 =>
      rec y2
set_option maxHeartbeats 4000000 in
set_option maxRecDepth 100000 in
theorem bX2_inverse_2 {X : CX} {n : Nat} {σ : Sto} {ρ : Rho} {res : Int32} (hC : Cx X cX2_inverse RX2 2) (hml : (xc X).maxLocals = 3) (hR : RtT (some .int) X cX2_inverse n res σ ρ) (a0 : Int32) (a1 : Int32) (fu : Nat) : ∀ (v2 : Int32), fixN (fun _ => none) (FX2_inverse_2 a0 a1) fu v2 = some res → G X 0 0 n σ ρ 2 [(0, .int a0), (1, .int a1), (2, .int v2)] [] := by
  refine fixN_ind (P := fun (f : Int32 → Option (Int32)) => ∀ (v2 : Int32), f v2 = some res → G X 0 0 n σ ρ 2 [(0, .int a0), (1, .int a1), (2, .int v2)] []) ?_ ?_ fu
  · intro v2 hM; cases hM
  · intro rec ih v2 hM
    unfold FX2_inverse_2 at hM
    refine g_iload_n hC dX2_inverse_2 rfl 2 rfl ?_
    refine g_iload_n hC dX2_inverse_3 rfl 1 rfl ?_
    refine g_icmp_ge (tgt := 26) hC dX2_inverse_4 rfl (by decide) hM (fun hM => ?_) (fun hM => ?_)
    · refine g_iconst (v := 0) hC dX2_inverse_26 rfl ic_0 ?_
      cases hM
      exact g_reti hR dX2_inverse_27 rfl
    · refine g_iload_n hC dX2_inverse_7 rfl 2 rfl ?_
      refine g_iload_n hC dX2_inverse_8 rfl 0 rfl ?_
      refine g_imul hC dX2_inverse_9 rfl ?_
      refine g_iload_n hC dX2_inverse_10 rfl 1 rfl ?_
      refine g_callSi (As := [.int ((v2 * a0)), .int a1]) (st' := []) (L' := 1) hC Y_X2_rest k_699 k_729 ⟨by decide, by decide⟩ dX2_inverse_11 rfl rfl rfl (Nat.le_of_ble_eq_true rfl) ⟨Nat.zero_le _, Nat.zero_le _⟩ hM (fun c hc => c_X2_rest (xE X) ((v2 * a0)) a1 c hc) (fun c1 hM => ?_)
      refine g_iconst (v := 1) hC dX2_inverse_14 rfl ic_1 ?_
      refine g_icmp_ne (tgt := 20) hC dX2_inverse_15 rfl (by decide) hM (fun hM => ?_) (fun hM => ?_)
      · refine g_iinc (v := 1) hC (fun y2 => [(2, .int y2), (0, .int a0), (1, .int a1)]) dX2_inverse_20 rfl hM (j := 2) rfl ic_1 hml (by decide) (fun _ => rfl) (fun y2 hM => ?_)
        refine g_goto (tgt := 2) hC dX2_inverse_23 rfl (by decide) ?_
        exact g_sub [1, 2, 0] (ih _ hM) rfl
      · refine g_iload_n hC dX2_inverse_18 rfl 2 rfl ?_
        cases hM
        exact g_reti hR dX2_inverse_19 rfl
def MX2_inverse (a0 : Int32) (a1 : Int32) : Option (Int32) :=
  bn ((1 : Int32)) fun y1 =>
  fixN (fun _ => none) (FX2_inverse_2 a0 a1) FU y1
set_option maxHeartbeats 4000000 in
set_option maxRecDepth 100000 in
theorem c_X2_inverse (E : EX) {n : Nat} {σ : Sto} {ρ : Rho} (a0 : Int32) (a1 : Int32) (res : Int32) (hM : MX2_inverse a0 a1 = some res) : CTi E yX2_inverse cX2_inverse 3 (some .int) 2 [.int a0, .int a1] n σ ρ res σ ρ := by
  refine ct_i (by decide +kernel) rfl (Nat.le_of_ble_eq_true rfl) (fun X hE hml hC hR => ?_)
  subst hE
  show G X 0 0 n σ ρ 0 [(0, .int a0), (1, .int a1)] []
  replace hC : Cx X cX2_inverse RX2 2 := hC
  unfold MX2_inverse at hM
  refine g_iconst (v := 1) hC dX2_inverse_0 rfl ic_1 ?_
  refine g_istore_n hC (fun y1 => [(2, .int y1), (0, .int a0), (1, .int a1)]) dX2_inverse_1 rfl hM hml (by decide) (fun _ => rfl) (fun y1 hM => ?_)
  exact g_sub [1, 2, 0] ((bX2_inverse_2 hC hml hR a0 a1  FU) _ hM) rfl
def BX1_readOne_52 (ρ : Rho) (a0 : Nat) (a1 : Nat) (σ : Sto) (v2 : Nat) (v3 : Int32) (v4 : Int32) : Option (Sto) :=
  Option.bind (MX3_copy σ a1 v2) fun c1 =>
  Option.bind (MX2_inverse v4 v3) fun c2 =>
  Option.bind (MX3_blend c1 a1 c2 ((0 : Int32)) v2) fun c3 =>
  Option.bind (MX3_reduce c3 a1 v3) fun c4 =>
  some c4
set_option maxHeartbeats 4000000 in
set_option maxRecDepth 100000 in
theorem bX1_readOne_52 {X : CX} {n : Nat} {ρ : Rho} {res : Sto} (hC : Cx X cX1_readOne RX1 3) (hml : (xc X).maxLocals = 6) (hR : RtV X cX1_readOne 0 0 n res ρ) (a0 : Nat) (a1 : Nat) (h0 : Sh n a0 1) (h1 : Sh n a1 2) : ∀ (σ : Sto) (v2 : Nat) (v3 : Int32) (v4 : Int32) (hv2 : Sh n v2 2), BX1_readOne_52 ρ a0 a1 σ v2 v3 v4 = some res → G X 0 0 n σ ρ 52 [(0, vr X a0), (1, vr X a1), (2, vr X v2), (3, .int v3), (4, .int v4)] [] := by
  intro σ v2 v3 v4 hv2 hM
  unfold BX1_readOne_52 at hM
  refine g_aload_n hC dX1_readOne_52 rfl 1 rfl ?_
  refine g_aload_n hC dX1_readOne_53 rfl 2 rfl ?_
  refine g_callVv0 (As := [vr X v2]) (st' := []) (k := a1) (L' := 1) hC Y_X3_copy I_X3_copy k_782 ⟨by decide, by decide⟩ h1 (ci := 2) (by decide) rfl dX1_readOne_54 rfl rfl rfl (Nat.le_of_ble_eq_true rfl) ⟨Nat.zero_le _, Nat.zero_le _⟩ hM (fun c hc => c_X3_copy (xE X) a1 h1 v2 hv2 c hc) (fun c1 hM => ?_)
  refine g_aload_n hC dX1_readOne_57 rfl 1 rfl ?_
  refine g_iload hC dX1_readOne_58 rfl 4 rfl ?_
  refine g_iload_n hC dX1_readOne_60 rfl 3 rfl ?_
  refine g_callSi (As := [.int v4, .int v3]) (st' := [vr X a1]) (L' := 2) hC Y_X2_inverse k_784 k_783 ⟨by decide, by decide⟩ dX1_readOne_61 rfl rfl rfl (Nat.le_of_ble_eq_true rfl) ⟨Nat.zero_le _, Nat.zero_le _⟩ hM (fun c hc => c_X2_inverse (xE X) v4 v3 c hc) (fun c2 hM => ?_)
  refine g_iconst (v := 0) hC dX1_readOne_64 rfl ic_0 ?_
  refine g_aload_n hC dX1_readOne_65 rfl 2 rfl ?_
  refine g_callVv0 (As := [.int c2, .int ((0 : Int32)), vr X v2]) (st' := []) (k := a1) (L' := 1) hC Y_X3_blend I_X3_blend k_775 ⟨by decide, by decide⟩ h1 (ci := 2) (by decide) rfl dX1_readOne_66 rfl rfl rfl (Nat.le_of_ble_eq_true rfl) ⟨Nat.zero_le _, Nat.zero_le _⟩ hM (fun c hc => c_X3_blend (xE X) a1 h1 c2 ((0 : Int32)) v2 hv2 c hc) (fun c3 hM => ?_)
  refine g_aload_n hC dX1_readOne_69 rfl 1 rfl ?_
  refine g_iload_n hC dX1_readOne_70 rfl 3 rfl ?_
  refine g_callVv0 (As := [.int v3]) (st' := []) (k := a1) (L' := 2) hC Y_X3_reduce I_X3_reduce k_776 ⟨by decide, by decide⟩ h1 (ci := 2) (by decide) rfl dX1_readOne_71 rfl rfl rfl (Nat.le_of_ble_eq_true rfl) ⟨Nat.zero_le _, Nat.zero_le _⟩ hM (fun c hc => c_X3_reduce (xE X) a1 h1 v3 c hc) (fun c4 hM => ?_)
  cases hM
  exact g_retv hR dX1_readOne_74 rfl
def FX1_readOne_26 (ρ : Rho) (a0 : Nat) (a1 : Nat) (k52 : Sto → Nat → Int32 → Int32 → Option (Sto)) (rec : Sto → Nat → Int32 → Int32 → Int32 → Option (Sto)) (σ : Sto) (v2 : Nat) (v3 : Int32) (v4 : Int32) (v5 : Int32) : Option (Sto) :=
  if (6 : Int32) ≤ v5 then
    k52 σ v2 v3 v4
  else
    if v4 = 0 then
      Option.bind (MX3_nth σ v2 v5) fun c1 =>
      bn c1 fun y2 =>
      bn (v5 + (1 : Int32)) fun y3 =>
      rec σ v2 v3 y2 y3
    else
      k52 σ v2 v3 v4
set_option maxHeartbeats 4000000 in
set_option maxRecDepth 100000 in
theorem bX1_readOne_26 {X : CX} {n : Nat} {ρ : Rho} {res : Sto} (hC : Cx X cX1_readOne RX1 3) (hml : (xc X).maxLocals = 6) (hR : RtV X cX1_readOne 0 0 n res ρ) (a0 : Nat) (a1 : Nat) (h0 : Sh n a0 1) (h1 : Sh n a1 2) (k52 : Sto → Nat → Int32 → Int32 → Option (Sto)) (hk52 : ∀ (σ : Sto) (v2 : Nat) (v3 : Int32) (v4 : Int32) (hv2 : Sh n v2 2), k52 σ v2 v3 v4 = some res → G X 0 0 n σ ρ 52 [(0, vr X a0), (1, vr X a1), (2, vr X v2), (3, .int v3), (4, .int v4)] []) (fu : Nat) : ∀ (σ : Sto) (v2 : Nat) (v3 : Int32) (v4 : Int32) (v5 : Int32) (hv2 : Sh n v2 2), fixN (fun _ _ _ _ _ => none) (FX1_readOne_26 ρ a0 a1 k52) fu σ v2 v3 v4 v5 = some res → G X 0 0 n σ ρ 26 [(0, vr X a0), (1, vr X a1), (2, vr X v2), (3, .int v3), (4, .int v4), (5, .int v5)] [] := by
  refine fixN_ind (P := fun (f : Sto → Nat → Int32 → Int32 → Int32 → Option (Sto)) => ∀ (σ : Sto) (v2 : Nat) (v3 : Int32) (v4 : Int32) (v5 : Int32) (hv2 : Sh n v2 2), f σ v2 v3 v4 v5 = some res → G X 0 0 n σ ρ 26 [(0, vr X a0), (1, vr X a1), (2, vr X v2), (3, .int v3), (4, .int v4), (5, .int v5)] []) ?_ ?_ fu
  · intro σ v2 v3 v4 v5 hv2 hM; cases hM
  · intro rec ih σ v2 v3 v4 v5 hv2 hM
    unfold FX1_readOne_26 at hM
    refine g_iload hC dX1_readOne_26 rfl 5 rfl ?_
    refine g_bipush (v := 6) hC dX1_readOne_28 rfl ib_6 ?_
    refine g_icmp_ge (tgt := 52) hC dX1_readOne_30 rfl (by decide) hM (fun hM => ?_) (fun hM => ?_)
    · exact g_sub [0, 1, 2, 3, 4] (hk52 _ _ _ _ hv2 hM) rfl
    · refine g_iload hC dX1_readOne_33 rfl 4 rfl ?_
      refine g_if_ne (tgt := 52) hC dX1_readOne_35 rfl (by decide) hM (fun hM => ?_) (fun hM => ?_)
      · exact g_sub [0, 1, 2, 3, 4] (hk52 _ _ _ _ hv2 hM) rfl
      · refine g_aload_n hC dX1_readOne_38 rfl 2 rfl ?_
        refine g_iload hC dX1_readOne_39 rfl 5 rfl ?_
        refine g_callVi (As := [.int v5]) (st' := []) (k := v2) (L' := 0) hC Y_X3_nth I_X3_nth k_781 ⟨by decide, by decide⟩ hv2 (ci := 2) (by decide) rfl dX1_readOne_41 rfl rfl rfl (Nat.le_of_ble_eq_true rfl) ⟨Nat.zero_le _, Nat.zero_le _⟩ hM (fun c hc => c_X3_nth (xE X) v2 hv2 v5 c hc) (fun c1 hM => ?_)
        refine g_istore hC (fun y2 => [(4, .int y2), (0, vr X a0), (1, vr X a1), (2, vr X v2), (3, .int v3), (5, .int v5)]) dX1_readOne_44 rfl hM hml (by decide) (fun _ => rfl) (fun y2 hM => ?_)
        refine g_iinc (v := 1) hC (fun y3 => [(5, .int y3), (4, .int y2), (0, vr X a0), (1, vr X a1), (2, vr X v2), (3, .int v3)]) dX1_readOne_46 rfl hM (j := 5) rfl ic_1 hml (by decide) (fun _ => rfl) (fun y3 hM => ?_)
        refine g_goto (tgt := 26) hC dX1_readOne_49 rfl (by decide) ?_
        exact g_sub [2, 3, 4, 5, 1, 0] (ih _ _ _ _ _ hv2 hM) rfl
def MX1_readOne (σ : Sto) (ρ : Rho) (a0 : Nat) (a1 : Nat) : Option (Sto) :=
  Option.bind (ρ a0 0) fun j1 =>
  Option.bind (rg ρ j1 ((0 : Int32))) fun j2 =>
  Option.bind (ρ j2 0) fun j3 =>
  Option.bind (ρ a0 0) fun j4 =>
  Option.bind (rg ρ j4 ((0 : Int32))) fun j5 =>
  bn ((σ j5 1)) fun y6 =>
  bn ((0 : Int32)) fun y7 =>
  bn ((0 : Int32)) fun y8 =>
  fixN (fun _ _ _ _ _ => none) (FX1_readOne_26 ρ a0 a1 (BX1_readOne_52 ρ a0 a1)) FU σ j3 y6 y7 y8
set_option maxHeartbeats 4000000 in
set_option maxRecDepth 100000 in
theorem c_X1_readOne (E : EX) {n : Nat} {σ : Sto} {ρ : Rho} (a0 : Nat) (h0 : Sh n a0 1) (a1 : Nat) (h1 : Sh n a1 2) (res : Sto) (hM : MX1_readOne σ ρ a0 a1 = some res) : CTv E yX1_readOne cX1_readOne 6 3 0 0 [.ref (eb E + a0), .ref (eb E + a1)] n σ ρ res ρ := by
  refine ct_v (by decide +kernel) (Nat.le_of_ble_eq_true rfl) (fun X hE hml hin hRm hC hR => ?_)
  subst hE
  show G X 0 0 n σ ρ 0 [(0, vr X a0), (1, vr X a1)] []
  replace hC : Cx X cX1_readOne RX1 3 := hC
  unfold MX1_readOne at hM
  refine g_aload_n hC dX1_readOne_0 rfl 0 rfl ?_
  refine fg_1_0 hC h0 k_363 dX1_readOne_1 rfl hM (fun j1 hj1 hM => ?_)
  refine g_iconst (v := 0) hC dX1_readOne_4 rfl ic_0 ?_
  refine g_aald hC hj1 (by decide) rfl rfl dX1_readOne_5 rfl hM (fun j2 hj2 hM => ?_)
  refine fg_0_0 hC hj2 k_323 dX1_readOne_6 rfl hM (fun j3 hj3 hM => ?_)
  refine g_astore_n (lv' := [(2, vr X j3), (0, vr X a0), (1, vr X a1)]) hC dX1_readOne_9 rfl hml (by decide) rfl ?_
  refine g_aload_n hC dX1_readOne_10 rfl 1 rfl ?_
  refine fg_1_0 hC h0 k_363 dX1_readOne_11 rfl hM (fun j4 hj4 hM => ?_)
  refine g_iconst (v := 0) hC dX1_readOne_14 rfl ic_0 ?_
  refine g_aald hC hj4 (by decide) rfl rfl dX1_readOne_15 rfl hM (fun j5 hj5 hM => ?_)
  refine fg_0_1 hC hj5 k_326 dX1_readOne_16 rfl ?_
  refine g_istore_n hC (fun y6 => [(3, .int y6), (2, vr X j3), (0, vr X a0), (1, vr X a1)]) dX1_readOne_19 rfl hM hml (by decide) (fun _ => rfl) (fun y6 hM => ?_)
  refine g_iconst (v := 0) hC dX1_readOne_20 rfl ic_0 ?_
  refine g_istore hC (fun y7 => [(4, .int y7), (3, .int y6), (2, vr X j3), (0, vr X a0), (1, vr X a1)]) dX1_readOne_21 rfl hM hml (by decide) (fun _ => rfl) (fun y7 hM => ?_)
  refine g_iconst (v := 0) hC dX1_readOne_23 rfl ic_0 ?_
  refine g_istore hC (fun y8 => [(5, .int y8), (4, .int y7), (3, .int y6), (2, vr X j3), (0, vr X a0), (1, vr X a1)]) dX1_readOne_24 rfl hM hml (by decide) (fun _ => rfl) (fun y8 hM => ?_)
  exact g_sub [4, 5, 3, 2, 1, 0] ((bX1_readOne_26 hC hml hR a0 a1 h0 h1 (BX1_readOne_52 ρ a0 a1) (bX1_readOne_52 hC hml hR a0 a1 h0 h1 ) FU) _ _ _ _ _ hj3 hM) rfl
def MX3_isLike (σ : Sto) (a0 : Nat) (a1 : Nat) : Option (Int32) :=
  if (σ a0 0) = (σ a1 0) then
    if (σ a0 1) = (σ a1 1) then
      if (σ a0 2) = (σ a1 2) then
        if (σ a0 3) = (σ a1 3) then
          if (σ a0 4) = (σ a1 4) then
            if (σ a0 5) = (σ a1 5) then
              zr ((1 : Int32)) (some (1 : Int32))
            else
              zr ((0 : Int32)) (some (0 : Int32))
          else
            zr ((0 : Int32)) (some (0 : Int32))
        else
          zr ((0 : Int32)) (some (0 : Int32))
      else
        zr ((0 : Int32)) (some (0 : Int32))
    else
      zr ((0 : Int32)) (some (0 : Int32))
  else
    zr ((0 : Int32)) (some (0 : Int32))
set_option maxHeartbeats 4000000 in
set_option maxRecDepth 100000 in
theorem c_X3_isLike (E : EX) {n : Nat} {ρ : Rho} {σ : Sto} (a0 : Nat) (h0 : Sh n a0 2) (a1 : Nat) (h1 : Sh n a1 2) (res : Int32) (hM : MX3_isLike σ a0 a1 = some res) : CTi E yX3_isLike cX3_isLike 2 (some .boolean) 0 [.ref (eb E + a0), .ref (eb E + a1)] n σ ρ res σ ρ := by
  refine ct_i (by decide +kernel) rfl (Nat.le_of_ble_eq_true rfl) (fun X hE hml hC hR => ?_)
  subst hE
  show G X 0 0 n σ ρ 0 [(0, vr X a0), (1, vr X a1)] []
  replace hC : Cx X cX3_isLike RX3 0 := hC
  unfold MX3_isLike at hM
  refine g_aload_n hC dX3_isLike_0 rfl 0 rfl ?_
  refine fg_2_0 hC h0 k_231 dX3_isLike_1 rfl ?_
  refine g_aload_n hC dX3_isLike_4 rfl 1 rfl ?_
  refine fg_2_0 hC h1 k_231 dX3_isLike_5 rfl ?_
  refine g_icmp_ne (tgt := 70) hC dX3_isLike_8 rfl (by decide) hM (fun hM => ?_) (fun hM => ?_)
  · refine g_iconst (v := 0) hC dX3_isLike_70 rfl ic_0 ?_
    exact g_retz hM dX3_isLike_71 rfl (fun h => by cases h; exact hR)
  · refine g_aload_n hC dX3_isLike_11 rfl 0 rfl ?_
    refine fg_2_1 hC h0 k_233 dX3_isLike_12 rfl ?_
    refine g_aload_n hC dX3_isLike_15 rfl 1 rfl ?_
    refine fg_2_1 hC h1 k_233 dX3_isLike_16 rfl ?_
    refine g_icmp_ne (tgt := 70) hC dX3_isLike_19 rfl (by decide) hM (fun hM => ?_) (fun hM => ?_)
    · refine g_iconst (v := 0) hC dX3_isLike_70 rfl ic_0 ?_
      exact g_retz hM dX3_isLike_71 rfl (fun h => by cases h; exact hR)
    · refine g_aload_n hC dX3_isLike_22 rfl 0 rfl ?_
      refine fg_2_2 hC h0 k_235 dX3_isLike_23 rfl ?_
      refine g_aload_n hC dX3_isLike_26 rfl 1 rfl ?_
      refine fg_2_2 hC h1 k_235 dX3_isLike_27 rfl ?_
      refine g_icmp_ne (tgt := 70) hC dX3_isLike_30 rfl (by decide) hM (fun hM => ?_) (fun hM => ?_)
      · refine g_iconst (v := 0) hC dX3_isLike_70 rfl ic_0 ?_
        exact g_retz hM dX3_isLike_71 rfl (fun h => by cases h; exact hR)
      · refine g_aload_n hC dX3_isLike_33 rfl 0 rfl ?_
        refine fg_2_3 hC h0 k_237 dX3_isLike_34 rfl ?_
        refine g_aload_n hC dX3_isLike_37 rfl 1 rfl ?_
        refine fg_2_3 hC h1 k_237 dX3_isLike_38 rfl ?_
        refine g_icmp_ne (tgt := 70) hC dX3_isLike_41 rfl (by decide) hM (fun hM => ?_) (fun hM => ?_)
        · refine g_iconst (v := 0) hC dX3_isLike_70 rfl ic_0 ?_
          exact g_retz hM dX3_isLike_71 rfl (fun h => by cases h; exact hR)
        · refine g_aload_n hC dX3_isLike_44 rfl 0 rfl ?_
          refine fg_2_4 hC h0 k_239 dX3_isLike_45 rfl ?_
          refine g_aload_n hC dX3_isLike_48 rfl 1 rfl ?_
          refine fg_2_4 hC h1 k_239 dX3_isLike_49 rfl ?_
          refine g_icmp_ne (tgt := 70) hC dX3_isLike_52 rfl (by decide) hM (fun hM => ?_) (fun hM => ?_)
          · refine g_iconst (v := 0) hC dX3_isLike_70 rfl ic_0 ?_
            exact g_retz hM dX3_isLike_71 rfl (fun h => by cases h; exact hR)
          · refine g_aload_n hC dX3_isLike_55 rfl 0 rfl ?_
            refine fg_2_5 hC h0 k_241 dX3_isLike_56 rfl ?_
            refine g_aload_n hC dX3_isLike_59 rfl 1 rfl ?_
            refine fg_2_5 hC h1 k_241 dX3_isLike_60 rfl ?_
            refine g_icmp_ne (tgt := 70) hC dX3_isLike_63 rfl (by decide) hM (fun hM => ?_) (fun hM => ?_)
            · refine g_iconst (v := 0) hC dX3_isLike_70 rfl ic_0 ?_
              exact g_retz hM dX3_isLike_71 rfl (fun h => by cases h; exact hR)
            · refine g_iconst (v := 1) hC dX3_isLike_66 rfl ic_1 ?_
              refine g_goto (tgt := 71) hC dX3_isLike_67 rfl (by decide) ?_
              exact g_retz hM dX3_isLike_71 rfl (fun h => by cases h; exact hR)
def MX11_isBeyond (a0 : Int32) : Option (Int32) :=
  if a0 < (-99 : Int32) then
    zr ((1 : Int32)) (some (1 : Int32))
  else
    if a0 ≤ (99 : Int32) then
      zr ((0 : Int32)) (some (0 : Int32))
    else
      zr ((1 : Int32)) (some (1 : Int32))
set_option maxHeartbeats 4000000 in
set_option maxRecDepth 100000 in
theorem c_X11_isBeyond (E : EX) {n : Nat} {σ : Sto} {ρ : Rho} (a0 : Int32) (res : Int32) (hM : MX11_isBeyond a0 = some res) : CTi E yX11_isBeyond cX11_isBeyond 1 (some .boolean) 0 [.int a0] n σ ρ res σ ρ := by
  refine ct_i (by decide +kernel) rfl (Nat.le_of_ble_eq_true rfl) (fun X hE hml hC hR => ?_)
  subst hE
  show G X 0 0 n σ ρ 0 [(0, .int a0)] []
  replace hC : Cx X cX11_isBeyond RX11 0 := hC
  unfold MX11_isBeyond at hM
  refine g_iload_n hC dX11_isBeyond_0 rfl 0 rfl ?_
  refine g_bipush (v := -99) hC dX11_isBeyond_1 rfl ib_m99 ?_
  refine g_icmp_lt (tgt := 12) hC dX11_isBeyond_3 rfl (by decide) hM (fun hM => ?_) (fun hM => ?_)
  · refine g_iconst (v := 1) hC dX11_isBeyond_12 rfl ic_1 ?_
    refine g_goto (tgt := 17) hC dX11_isBeyond_13 rfl (by decide) ?_
    exact g_retz hM dX11_isBeyond_17 rfl (fun h => by cases h; exact hR)
  · refine g_iload_n hC dX11_isBeyond_6 rfl 0 rfl ?_
    refine g_bipush (v := 99) hC dX11_isBeyond_7 rfl ib_99 ?_
    refine g_icmp_le (tgt := 16) hC dX11_isBeyond_9 rfl (by decide) hM (fun hM => ?_) (fun hM => ?_)
    · refine g_iconst (v := 0) hC dX11_isBeyond_16 rfl ic_0 ?_
      exact g_retz hM dX11_isBeyond_17 rfl (fun h => by cases h; exact hR)
    · refine g_iconst (v := 1) hC dX11_isBeyond_12 rfl ic_1 ?_
      refine g_goto (tgt := 17) hC dX11_isBeyond_13 rfl (by decide) ?_
      exact g_retz hM dX11_isBeyond_17 rfl (fun h => by cases h; exact hR)
def MX3_isWithinLimit (σ : Sto) (a0 : Nat) : Option (Int32) :=
  Option.bind (MX11_isBeyond ((σ a0 0))) fun c1 =>
  if c1 = 0 then
    Option.bind (MX11_isBeyond ((σ a0 1))) fun c2 =>
    if c2 = 0 then
      Option.bind (MX11_isBeyond ((σ a0 2))) fun c3 =>
      if c3 = 0 then
        Option.bind (MX11_isBeyond ((σ a0 3))) fun c4 =>
        if c4 = 0 then
          Option.bind (MX11_isBeyond ((σ a0 4))) fun c5 =>
          if c5 = 0 then
            Option.bind (MX11_isBeyond ((σ a0 5))) fun c6 =>
            if c6 = 0 then
              zr ((1 : Int32)) (some (1 : Int32))
            else
              zr ((0 : Int32)) (some (0 : Int32))
          else
            zr ((0 : Int32)) (some (0 : Int32))
        else
          zr ((0 : Int32)) (some (0 : Int32))
      else
        zr ((0 : Int32)) (some (0 : Int32))
    else
      zr ((0 : Int32)) (some (0 : Int32))
  else
    zr ((0 : Int32)) (some (0 : Int32))
set_option maxHeartbeats 4000000 in
set_option maxRecDepth 100000 in
theorem c_X3_isWithinLimit (E : EX) {n : Nat} {ρ : Rho} {σ : Sto} (a0 : Nat) (h0 : Sh n a0 2) (res : Int32) (hM : MX3_isWithinLimit σ a0 = some res) : CTi E yX3_isWithinLimit cX3_isWithinLimit 1 (some .boolean) 1 [.ref (eb E + a0)] n σ ρ res σ ρ := by
  refine ct_i (by decide +kernel) rfl (Nat.le_of_ble_eq_true rfl) (fun X hE hml hC hR => ?_)
  subst hE
  show G X 0 0 n σ ρ 0 [(0, vr X a0)] []
  replace hC : Cx X cX3_isWithinLimit RX3 1 := hC
  unfold MX3_isWithinLimit at hM
  refine g_aload_n hC dX3_isWithinLimit_0 rfl 0 rfl ?_
  refine fg_2_0 hC h0 k_231 dX3_isWithinLimit_1 rfl ?_
  refine g_callSNi (As := [.int ((σ a0 0))]) (st' := []) (L' := 0) hC Y_X11_isBeyond k_606 k_605 ⟨by decide, by decide⟩ dX3_isWithinLimit_4 rfl rfl rfl (Nat.le_of_ble_eq_true rfl) ⟨Nat.zero_le _, Nat.zero_le _⟩ hM (fun c hc => c_X11_isBeyond (xE X) ((σ a0 0)) c hc) (fun c1 hM => ?_)
  refine g_if_ne (tgt := 64) hC dX3_isWithinLimit_7 rfl (by decide) hM (fun hM => ?_) (fun hM => ?_)
  · refine g_iconst (v := 0) hC dX3_isWithinLimit_64 rfl ic_0 ?_
    exact g_retz hM dX3_isWithinLimit_65 rfl (fun h => by cases h; exact hR)
  · refine g_aload_n hC dX3_isWithinLimit_10 rfl 0 rfl ?_
    refine fg_2_1 hC h0 k_233 dX3_isWithinLimit_11 rfl ?_
    refine g_callSNi (As := [.int ((σ a0 1))]) (st' := []) (L' := 0) hC Y_X11_isBeyond k_606 k_605 ⟨by decide, by decide⟩ dX3_isWithinLimit_14 rfl rfl rfl (Nat.le_of_ble_eq_true rfl) ⟨Nat.zero_le _, Nat.zero_le _⟩ hM (fun c hc => c_X11_isBeyond (xE X) ((σ a0 1)) c hc) (fun c2 hM => ?_)
    refine g_if_ne (tgt := 64) hC dX3_isWithinLimit_17 rfl (by decide) hM (fun hM => ?_) (fun hM => ?_)
    · refine g_iconst (v := 0) hC dX3_isWithinLimit_64 rfl ic_0 ?_
      exact g_retz hM dX3_isWithinLimit_65 rfl (fun h => by cases h; exact hR)
    · refine g_aload_n hC dX3_isWithinLimit_20 rfl 0 rfl ?_
      refine fg_2_2 hC h0 k_235 dX3_isWithinLimit_21 rfl ?_
      refine g_callSNi (As := [.int ((σ a0 2))]) (st' := []) (L' := 0) hC Y_X11_isBeyond k_606 k_605 ⟨by decide, by decide⟩ dX3_isWithinLimit_24 rfl rfl rfl (Nat.le_of_ble_eq_true rfl) ⟨Nat.zero_le _, Nat.zero_le _⟩ hM (fun c hc => c_X11_isBeyond (xE X) ((σ a0 2)) c hc) (fun c3 hM => ?_)
      refine g_if_ne (tgt := 64) hC dX3_isWithinLimit_27 rfl (by decide) hM (fun hM => ?_) (fun hM => ?_)
      · refine g_iconst (v := 0) hC dX3_isWithinLimit_64 rfl ic_0 ?_
        exact g_retz hM dX3_isWithinLimit_65 rfl (fun h => by cases h; exact hR)
      · refine g_aload_n hC dX3_isWithinLimit_30 rfl 0 rfl ?_
        refine fg_2_3 hC h0 k_237 dX3_isWithinLimit_31 rfl ?_
        refine g_callSNi (As := [.int ((σ a0 3))]) (st' := []) (L' := 0) hC Y_X11_isBeyond k_606 k_605 ⟨by decide, by decide⟩ dX3_isWithinLimit_34 rfl rfl rfl (Nat.le_of_ble_eq_true rfl) ⟨Nat.zero_le _, Nat.zero_le _⟩ hM (fun c hc => c_X11_isBeyond (xE X) ((σ a0 3)) c hc) (fun c4 hM => ?_)
        refine g_if_ne (tgt := 64) hC dX3_isWithinLimit_37 rfl (by decide) hM (fun hM => ?_) (fun hM => ?_)
        · refine g_iconst (v := 0) hC dX3_isWithinLimit_64 rfl ic_0 ?_
          exact g_retz hM dX3_isWithinLimit_65 rfl (fun h => by cases h; exact hR)
        · refine g_aload_n hC dX3_isWithinLimit_40 rfl 0 rfl ?_
          refine fg_2_4 hC h0 k_239 dX3_isWithinLimit_41 rfl ?_
          refine g_callSNi (As := [.int ((σ a0 4))]) (st' := []) (L' := 0) hC Y_X11_isBeyond k_606 k_605 ⟨by decide, by decide⟩ dX3_isWithinLimit_44 rfl rfl rfl (Nat.le_of_ble_eq_true rfl) ⟨Nat.zero_le _, Nat.zero_le _⟩ hM (fun c hc => c_X11_isBeyond (xE X) ((σ a0 4)) c hc) (fun c5 hM => ?_)
          refine g_if_ne (tgt := 64) hC dX3_isWithinLimit_47 rfl (by decide) hM (fun hM => ?_) (fun hM => ?_)
          · refine g_iconst (v := 0) hC dX3_isWithinLimit_64 rfl ic_0 ?_
            exact g_retz hM dX3_isWithinLimit_65 rfl (fun h => by cases h; exact hR)
          · refine g_aload_n hC dX3_isWithinLimit_50 rfl 0 rfl ?_
            refine fg_2_5 hC h0 k_241 dX3_isWithinLimit_51 rfl ?_
            refine g_callSNi (As := [.int ((σ a0 5))]) (st' := []) (L' := 0) hC Y_X11_isBeyond k_606 k_605 ⟨by decide, by decide⟩ dX3_isWithinLimit_54 rfl rfl rfl (Nat.le_of_ble_eq_true rfl) ⟨Nat.zero_le _, Nat.zero_le _⟩ hM (fun c hc => c_X11_isBeyond (xE X) ((σ a0 5)) c hc) (fun c6 hM => ?_)
            refine g_if_ne (tgt := 64) hC dX3_isWithinLimit_57 rfl (by decide) hM (fun hM => ?_) (fun hM => ?_)
            · refine g_iconst (v := 0) hC dX3_isWithinLimit_64 rfl ic_0 ?_
              exact g_retz hM dX3_isWithinLimit_65 rfl (fun h => by cases h; exact hR)
            · refine g_iconst (v := 1) hC dX3_isWithinLimit_60 rfl ic_1 ?_
              refine g_goto (tgt := 65) hC dX3_isWithinLimit_61 rfl (by decide) ?_
              exact g_retz hM dX3_isWithinLimit_65 rfl (fun h => by cases h; exact hR)
