def BX7_takeDigits_56 (ρ : Rho) (a0 : Nat) (a1 : Nat) (rec : Sto → Int32 → Option (Sto)) (k72 : Sto → Option (Sto)) (σ : Sto) (v2 : Int32) : Option (Sto) :=
  bn (su σ a0 5 (((σ a0 5) + (1 : Int32)))) fun σ1 =>
  bn (v2 + (1 : Int32)) fun y2 =>
  rec σ1 y2
set_option maxHeartbeats 4000000 in
set_option maxRecDepth 100000 in
theorem bX7_takeDigits_56 {X : CX} {n : Nat} {ρ : Rho} {res : Sto} (hC : Cx X cX7_takeDigits RX7 1) (hml : (xc X).maxLocals = 3) (hR : RtV X cX7_takeDigits 0 0 n res ρ) (a0 : Nat) (a1 : Nat) (h0 : Sh n a0 6) (h1 : Sh n a1 8) (rec : Sto → Int32 → Option (Sto)) (ih : ∀ (σ : Sto) (v2 : Int32), rec σ v2 = some res → G X 0 0 n σ ρ 7 [(0, vr X a0), (1, vr X a1), (2, .int v2)] []) (k72 : Sto → Option (Sto)) (hk72 : ∀ (σ : Sto), k72 σ = some res → G X 0 0 n σ ρ 72 [(0, vr X a0), (1, vr X a1)] []) : ∀ (σ : Sto) (v2 : Int32), BX7_takeDigits_56 ρ a0 a1 rec k72 σ v2 = some res → G X 0 0 n σ ρ 56 [(0, vr X a0), (1, vr X a1), (2, .int v2)] [] := by
  intro σ v2 hM
  unfold BX7_takeDigits_56 at hM
  refine g_aload_n hC dX7_takeDigits_56 rfl 0 rfl ?_
  refine g_dup hC dX7_takeDigits_57 rfl rfl ?_
  refine fg_6_5 hC h0 k_284 dX7_takeDigits_58 rfl ?_
  refine g_iconst (v := 1) hC dX7_takeDigits_61 rfl ic_1 ?_
  refine g_iadd hC dX7_takeDigits_62 rfl ?_
  refine fp_6_5 hC h0 k_284 dX7_takeDigits_63 rfl hM (fun σ1 hM => ?_)
  refine g_iinc (v := 1) hC (fun y2 => [(2, .int y2), (0, vr X a0), (1, vr X a1)]) dX7_takeDigits_66 rfl hM (j := 2) rfl ic_1 hml (by decide) (fun _ => rfl) (fun y2 hM => ?_)
  refine g_goto (tgt := 7) hC dX7_takeDigits_69 rfl (by decide) ?_
  exact g_sub [1, 2, 0] (ih _ _ hM) rfl
def BX7_takeDigits_91 (ρ : Rho) (a0 : Nat) (a1 : Nat) (σ : Sto) (t0 : Nat) (t1 : Int32) : Option (Sto) :=
  bn (su σ t0 6 t1) fun σ1 =>
  some σ1
set_option maxHeartbeats 4000000 in
set_option maxRecDepth 100000 in
theorem bX7_takeDigits_91 {X : CX} {n : Nat} {ρ : Rho} {res : Sto} (hC : Cx X cX7_takeDigits RX7 1) (hml : (xc X).maxLocals = 3) (hR : RtV X cX7_takeDigits 0 0 n res ρ) (a0 : Nat) (a1 : Nat) (h0 : Sh n a0 6) (h1 : Sh n a1 8) : ∀ (σ : Sto) (t0 : Nat) (t1 : Int32) (ht0 : Sh n t0 6), BX7_takeDigits_91 ρ a0 a1 σ t0 t1 = some res → G X 0 0 n σ ρ 91 [(0, vr X a0), (1, vr X a1)] [.int t1, vr X t0] := by
  intro σ t0 t1 ht0 hM
  unfold BX7_takeDigits_91 at hM
  refine fp_6_6 hC ht0 k_285 dX7_takeDigits_91 rfl hM (fun σ1 hM => ?_)
  cases hM
  exact g_retv hR dX7_takeDigits_94 rfl
def BX7_takeDigits_72 (ρ : Rho) (a0 : Nat) (a1 : Nat) (σ : Sto) : Option (Sto) :=
  if (3 : Int32) < ((σ a0 5) - (σ a0 7)) then
    BX7_takeDigits_91 ρ a0 a1 σ a0 ((5 : Int32))
  else
    BX7_takeDigits_91 ρ a0 a1 σ a0 ((2 : Int32))
set_option maxHeartbeats 4000000 in
set_option maxRecDepth 100000 in
theorem bX7_takeDigits_72 {X : CX} {n : Nat} {ρ : Rho} {res : Sto} (hC : Cx X cX7_takeDigits RX7 1) (hml : (xc X).maxLocals = 3) (hR : RtV X cX7_takeDigits 0 0 n res ρ) (a0 : Nat) (a1 : Nat) (h0 : Sh n a0 6) (h1 : Sh n a1 8) : ∀ (σ : Sto), BX7_takeDigits_72 ρ a0 a1 σ = some res → G X 0 0 n σ ρ 72 [(0, vr X a0), (1, vr X a1)] [] := by
  intro σ hM
  unfold BX7_takeDigits_72 at hM
  refine g_aload_n hC dX7_takeDigits_72 rfl 0 rfl ?_
  refine g_aload_n hC dX7_takeDigits_73 rfl 0 rfl ?_
  refine fg_6_5 hC h0 k_284 dX7_takeDigits_74 rfl ?_
  refine g_aload_n hC dX7_takeDigits_77 rfl 0 rfl ?_
  refine fg_6_7 hC h0 k_286 dX7_takeDigits_78 rfl ?_
  refine g_isub hC dX7_takeDigits_81 rfl ?_
  refine g_iconst (v := 3) hC dX7_takeDigits_82 rfl ic_3 ?_
  refine g_icmp_gt (tgt := 90) hC dX7_takeDigits_83 rfl (by decide) hM (fun hM => ?_) (fun hM => ?_)
  · refine g_iconst (v := 5) hC dX7_takeDigits_90 rfl ic_5 ?_
    exact g_sub [0, 1] ((bX7_takeDigits_91 hC hml hR a0 a1 h0 h1 ) _ _ _ h0 hM) rfl
  · refine g_iconst (v := 2) hC dX7_takeDigits_86 rfl ic_2 ?_
    refine g_goto (tgt := 91) hC dX7_takeDigits_87 rfl (by decide) ?_
    exact g_sub [0, 1] ((bX7_takeDigits_91 hC hml hR a0 a1 h0 h1 ) _ _ _ h0 hM) rfl
def FX7_takeDigits_7 (ρ : Rho) (a0 : Nat) (a1 : Nat) (k72 : Sto → Option (Sto)) (rec : Sto → Int32 → Option (Sto)) (σ : Sto) (v2 : Int32) : Option (Sto) :=
  if (500 : Int32) ≤ v2 then
    k72 σ
  else
    Option.bind (MX9_byteAt σ ρ a1 ((σ a0 5))) fun c1 =>
    Option.bind (MX7_isDigit c1) fun c2 =>
    if c2 = 0 then
      k72 σ
    else
      if (3 : Int32) ≤ v2 then
        BX7_takeDigits_56 ρ a0 a1 rec k72 σ v2
      else
        Option.bind (MX9_byteAt σ ρ a1 ((σ a0 5))) fun c3 =>
        bn (su σ a0 8 (((((10 : Int32) * (σ a0 8)) + c3) - (48 : Int32)))) fun σ4 =>
        BX7_takeDigits_56 ρ a0 a1 rec k72 σ4 v2
set_option maxHeartbeats 4000000 in
set_option maxRecDepth 100000 in
theorem bX7_takeDigits_7 {X : CX} {n : Nat} {ρ : Rho} {res : Sto} (hC : Cx X cX7_takeDigits RX7 1) (hml : (xc X).maxLocals = 3) (hR : RtV X cX7_takeDigits 0 0 n res ρ) (a0 : Nat) (a1 : Nat) (h0 : Sh n a0 6) (h1 : Sh n a1 8) (k72 : Sto → Option (Sto)) (hk72 : ∀ (σ : Sto), k72 σ = some res → G X 0 0 n σ ρ 72 [(0, vr X a0), (1, vr X a1)] []) (fu : Nat) : ∀ (σ : Sto) (v2 : Int32), fixN (fun _ _ => none) (FX7_takeDigits_7 ρ a0 a1 k72) fu σ v2 = some res → G X 0 0 n σ ρ 7 [(0, vr X a0), (1, vr X a1), (2, .int v2)] [] := by
  refine fixN_ind (P := fun (f : Sto → Int32 → Option (Sto)) => ∀ (σ : Sto) (v2 : Int32), f σ v2 = some res → G X 0 0 n σ ρ 7 [(0, vr X a0), (1, vr X a1), (2, .int v2)] []) ?_ ?_ fu
  · intro σ v2 hM; cases hM
  · intro rec ih σ v2 hM
    unfold FX7_takeDigits_7 at hM
    refine g_iload_n hC dX7_takeDigits_7 rfl 2 rfl ?_
    refine g_sipush (v := 500) hC dX7_takeDigits_8 rfl is_500 ?_
    refine g_icmp_ge (tgt := 72) hC dX7_takeDigits_11 rfl (by decide) hM (fun hM => ?_) (fun hM => ?_)
    · exact g_sub [0, 1] (hk72 _ hM) rfl
    · refine g_aload_n hC dX7_takeDigits_14 rfl 1 rfl ?_
      refine g_aload_n hC dX7_takeDigits_15 rfl 0 rfl ?_
      refine fg_6_5 hC h0 k_284 dX7_takeDigits_16 rfl ?_
      refine g_callVi (As := [.int ((σ a0 5))]) (st' := []) (k := a1) (L' := 0) hC Y_X9_byteAt I_X9_byteAt k_452 ⟨by decide, by decide⟩ h1 (ci := 8) (by decide) rfl dX7_takeDigits_19 rfl rfl rfl (Nat.le_of_ble_eq_true rfl) ⟨Nat.zero_le _, Nat.zero_le _⟩ hM (fun c hc => c_X9_byteAt (xE X) a1 h1 ((σ a0 5)) c hc) (fun c1 hM => ?_)
      refine g_callSi (As := [.int c1]) (st' := []) (L' := 0) hC Y_X7_isDigit k_464 k_463 ⟨by decide, by decide⟩ dX7_takeDigits_22 rfl rfl rfl (Nat.le_of_ble_eq_true rfl) ⟨Nat.zero_le _, Nat.zero_le _⟩ hM (fun c hc => c_X7_isDigit (xE X) c1 c hc) (fun c2 hM => ?_)
      refine g_if_eq (tgt := 72) hC dX7_takeDigits_25 rfl (by decide) hM (fun hM => ?_) (fun hM => ?_)
      · exact g_sub [0, 1] (hk72 _ hM) rfl
      · refine g_iload_n hC dX7_takeDigits_28 rfl 2 rfl ?_
        refine g_iconst (v := 3) hC dX7_takeDigits_29 rfl ic_3 ?_
        refine g_icmp_ge (tgt := 56) hC dX7_takeDigits_30 rfl (by decide) hM (fun hM => ?_) (fun hM => ?_)
        · exact g_sub [0, 1, 2] ((bX7_takeDigits_56 hC hml hR a0 a1 h0 h1 rec ih k72 hk72) _ _ hM) rfl
        · refine g_aload_n hC dX7_takeDigits_33 rfl 0 rfl ?_
          refine g_bipush (v := 10) hC dX7_takeDigits_34 rfl ib_10 ?_
          refine g_aload_n hC dX7_takeDigits_36 rfl 0 rfl ?_
          refine fg_6_8 hC h0 k_287 dX7_takeDigits_37 rfl ?_
          refine g_imul hC dX7_takeDigits_40 rfl ?_
          refine g_aload_n hC dX7_takeDigits_41 rfl 1 rfl ?_
          refine g_aload_n hC dX7_takeDigits_42 rfl 0 rfl ?_
          refine fg_6_5 hC h0 k_284 dX7_takeDigits_43 rfl ?_
          refine g_callVi (As := [.int ((σ a0 5))]) (st' := [.int (((10 : Int32) * (σ a0 8))), vr X a0]) (k := a1) (L' := 0) hC Y_X9_byteAt I_X9_byteAt k_452 ⟨by decide, by decide⟩ h1 (ci := 8) (by decide) rfl dX7_takeDigits_46 rfl rfl rfl (Nat.le_of_ble_eq_true rfl) ⟨Nat.zero_le _, Nat.zero_le _⟩ hM (fun c hc => c_X9_byteAt (xE X) a1 h1 ((σ a0 5)) c hc) (fun c3 hM => ?_)
          refine g_iadd hC dX7_takeDigits_49 rfl ?_
          refine g_bipush (v := 48) hC dX7_takeDigits_50 rfl ib_48 ?_
          refine g_isub hC dX7_takeDigits_52 rfl ?_
          refine fp_6_8 hC h0 k_287 dX7_takeDigits_53 rfl hM (fun σ4 hM => ?_)
          exact g_sub [0, 1, 2] ((bX7_takeDigits_56 hC hml hR a0 a1 h0 h1 rec ih k72 hk72) _ _ hM) rfl
def MX7_takeDigits (σ : Sto) (ρ : Rho) (a0 : Nat) (a1 : Nat) : Option (Sto) :=
  bn (su σ a0 8 ((0 : Int32))) fun σ1 =>
  bn ((0 : Int32)) fun y2 =>
  fixN (fun _ _ => none) (FX7_takeDigits_7 ρ a0 a1 (BX7_takeDigits_72 ρ a0 a1)) FU σ1 y2
set_option maxHeartbeats 4000000 in
set_option maxRecDepth 100000 in
theorem c_X7_takeDigits (E : EX) {n : Nat} {σ : Sto} {ρ : Rho} (a0 : Nat) (h0 : Sh n a0 6) (a1 : Nat) (h1 : Sh n a1 8) (res : Sto) (hM : MX7_takeDigits σ ρ a0 a1 = some res) : CTv E yX7_takeDigits cX7_takeDigits 3 1 0 0 [.ref (eb E + a0), .ref (eb E + a1)] n σ ρ res ρ := by
  refine ct_v (by decide +kernel) (Nat.le_of_ble_eq_true rfl) (fun X hE hml hin hRm hC hR => ?_)
  subst hE
  show G X 0 0 n σ ρ 0 [(0, vr X a0), (1, vr X a1)] []
  replace hC : Cx X cX7_takeDigits RX7 1 := hC
  unfold MX7_takeDigits at hM
  refine g_aload_n hC dX7_takeDigits_0 rfl 0 rfl ?_
  refine g_iconst (v := 0) hC dX7_takeDigits_1 rfl ic_0 ?_
  refine fp_6_8 hC h0 k_287 dX7_takeDigits_2 rfl hM (fun σ1 hM => ?_)
  refine g_iconst (v := 0) hC dX7_takeDigits_5 rfl ic_0 ?_
  refine g_istore_n hC (fun y2 => [(2, .int y2), (0, vr X a0), (1, vr X a1)]) dX7_takeDigits_6 rfl hM hml (by decide) (fun _ => rfl) (fun y2 hM => ?_)
  exact g_sub [1, 2, 0] ((bX7_takeDigits_7 hC hml hR a0 a1 h0 h1 (BX7_takeDigits_72 ρ a0 a1) (bX7_takeDigits_72 hC hml hR a0 a1 h0 h1 ) FU) _ _ hM) rfl
def BX7_advance_97 (ρ : Rho) (a0 : Nat) (a1 : Nat) (σ : Sto) (t0 : Nat) (t1 : Int32) : Option (Sto) :=
  bn (su σ t0 6 t1) fun σ1 =>
  some σ1
set_option maxHeartbeats 4000000 in
set_option maxRecDepth 100000 in
theorem bX7_advance_97 {X : CX} {n : Nat} {ρ : Rho} {res : Sto} (hC : Cx X cX7_advance RX7 2) (hml : (xc X).maxLocals = 3) (hR : RtV X cX7_advance 0 0 n res ρ) (a0 : Nat) (a1 : Nat) (h0 : Sh n a0 6) (h1 : Sh n a1 8) : ∀ (σ : Sto) (t0 : Nat) (t1 : Int32) (ht0 : Sh n t0 6), BX7_advance_97 ρ a0 a1 σ t0 t1 = some res → G X 0 0 n σ ρ 97 [(0, vr X a0), (1, vr X a1)] [.int t1, vr X t0] := by
  intro σ t0 t1 ht0 hM
  unfold BX7_advance_97 at hM
  refine fp_6_6 hC ht0 k_285 dX7_advance_97 rfl hM (fun σ1 hM => ?_)
  cases hM
  exact g_retv hR dX7_advance_100 rfl
def MX7_advance (σ : Sto) (ρ : Rho) (a0 : Nat) (a1 : Nat) : Option (Sto) :=
  Option.bind (MX7_skipBlanks σ ρ a0 a1) fun c1 =>
  bn (su c1 a0 7 ((c1 a0 5))) fun σ2 =>
  Option.bind (MX9_byteAt σ2 ρ a1 ((σ2 a0 5))) fun c3 =>
  bn c3 fun y4 =>
  if y4 = (-1 : Int32) then
    bn (su σ2 a0 6 ((0 : Int32))) fun σ10 =>
    some σ10
  else
    Option.bind (MX7_isLetter y4) fun c5 =>
    if c5 = 0 then
      Option.bind (MX7_isDigit y4) fun c6 =>
      if c6 = 0 then
        bn (su σ2 a0 5 (((σ2 a0 5) + (1 : Int32)))) fun σ7 =>
        if y4 = (45 : Int32) then
          BX7_advance_97 ρ a0 a1 σ7 a0 ((3 : Int32))
        else
          if y4 = (59 : Int32) then
            BX7_advance_97 ρ a0 a1 σ7 a0 ((4 : Int32))
          else
            BX7_advance_97 ρ a0 a1 σ7 a0 ((5 : Int32))
      else
        Option.bind (MX7_takeDigits σ2 ρ a0 a1) fun c8 =>
        some c8
    else
      Option.bind (MX7_takeWord σ2 ρ a0 a1) fun c9 =>
      some c9
set_option maxHeartbeats 4000000 in
set_option maxRecDepth 100000 in
theorem c_X7_advance (E : EX) {n : Nat} {σ : Sto} {ρ : Rho} (a0 : Nat) (h0 : Sh n a0 6) (a1 : Nat) (h1 : Sh n a1 8) (res : Sto) (hM : MX7_advance σ ρ a0 a1 = some res) : CTv E yX7_advance cX7_advance 3 2 0 0 [.ref (eb E + a0), .ref (eb E + a1)] n σ ρ res ρ := by
  refine ct_v (by decide +kernel) (Nat.le_of_ble_eq_true rfl) (fun X hE hml hin hRm hC hR => ?_)
  subst hE
  show G X 0 0 n σ ρ 0 [(0, vr X a0), (1, vr X a1)] []
  replace hC : Cx X cX7_advance RX7 2 := hC
  unfold MX7_advance at hM
  refine g_aload_n hC dX7_advance_0 rfl 0 rfl ?_
  refine g_aload_n hC dX7_advance_1 rfl 1 rfl ?_
  refine g_callVv0 (As := [vr X a1]) (st' := []) (k := a0) (L' := 1) hC Y_X7_skipBlanks I_X7_skipBlanks k_448 ⟨by decide, by decide⟩ h0 (ci := 6) (by decide) rfl dX7_advance_2 rfl rfl rfl (Nat.le_of_ble_eq_true rfl) ⟨Nat.zero_le _, Nat.zero_le _⟩ hM (fun c hc => c_X7_skipBlanks (xE X) a0 h0 a1 h1 c hc) (fun c1 hM => ?_)
  refine g_aload_n hC dX7_advance_5 rfl 0 rfl ?_
  refine g_aload_n hC dX7_advance_6 rfl 0 rfl ?_
  refine fg_6_5 hC h0 k_284 dX7_advance_7 rfl ?_
  refine fp_6_7 hC h0 k_286 dX7_advance_10 rfl hM (fun σ2 hM => ?_)
  refine g_aload_n hC dX7_advance_13 rfl 1 rfl ?_
  refine g_aload_n hC dX7_advance_14 rfl 0 rfl ?_
  refine fg_6_5 hC h0 k_284 dX7_advance_15 rfl ?_
  refine g_callVi (As := [.int ((σ2 a0 5))]) (st' := []) (k := a1) (L' := 0) hC Y_X9_byteAt I_X9_byteAt k_452 ⟨by decide, by decide⟩ h1 (ci := 8) (by decide) rfl dX7_advance_18 rfl rfl rfl (Nat.le_of_ble_eq_true rfl) ⟨Nat.zero_le _, Nat.zero_le _⟩ hM (fun c hc => c_X9_byteAt (xE X) a1 h1 ((σ2 a0 5)) c hc) (fun c3 hM => ?_)
  refine g_istore_n hC (fun y4 => [(2, .int y4), (0, vr X a0), (1, vr X a1)]) dX7_advance_21 rfl hM hml (by decide) (fun _ => rfl) (fun y4 hM => ?_)
  refine g_iload_n hC dX7_advance_22 rfl 0 rfl ?_
  refine g_iconst (v := -1) hC dX7_advance_23 rfl ic_m1 ?_
  refine g_icmp_ne (tgt := 35) hC dX7_advance_24 rfl (by decide) hM (fun hM => ?_) (fun hM => ?_)
  · refine g_iload_n hC dX7_advance_35 rfl 0 rfl ?_
    refine g_callSi (As := [.int y4]) (st' := []) (L' := 0) hC Y_X7_isLetter k_457 k_456 ⟨by decide, by decide⟩ dX7_advance_36 rfl rfl rfl (Nat.le_of_ble_eq_true rfl) ⟨Nat.zero_le _, Nat.zero_le _⟩ hM (fun c hc => c_X7_isLetter (xE X) y4 c hc) (fun c5 hM => ?_)
    refine g_if_eq (tgt := 50) hC dX7_advance_39 rfl (by decide) hM (fun hM => ?_) (fun hM => ?_)
    · refine g_iload_n hC dX7_advance_50 rfl 0 rfl ?_
      refine g_callSi (As := [.int y4]) (st' := []) (L' := 0) hC Y_X7_isDigit k_464 k_463 ⟨by decide, by decide⟩ dX7_advance_51 rfl rfl rfl (Nat.le_of_ble_eq_true rfl) ⟨Nat.zero_le _, Nat.zero_le _⟩ hM (fun c hc => c_X7_isDigit (xE X) y4 c hc) (fun c6 hM => ?_)
      refine g_if_eq (tgt := 65) hC dX7_advance_54 rfl (by decide) hM (fun hM => ?_) (fun hM => ?_)
      · refine g_aload_n hC dX7_advance_65 rfl 1 rfl ?_
        refine g_dup hC dX7_advance_66 rfl rfl ?_
        refine fg_6_5 hC h0 k_284 dX7_advance_67 rfl ?_
        refine g_iconst (v := 1) hC dX7_advance_70 rfl ic_1 ?_
        refine g_iadd hC dX7_advance_71 rfl ?_
        refine fp_6_5 hC h0 k_284 dX7_advance_72 rfl hM (fun σ7 hM => ?_)
        refine g_aload_n hC dX7_advance_75 rfl 1 rfl ?_
        refine g_iload_n hC dX7_advance_76 rfl 0 rfl ?_
        refine g_bipush (v := 45) hC dX7_advance_77 rfl ib_45 ?_
        refine g_icmp_ne (tgt := 86) hC dX7_advance_79 rfl (by decide) hM (fun hM => ?_) (fun hM => ?_)
        · refine g_iload_n hC dX7_advance_86 rfl 0 rfl ?_
          refine g_bipush (v := 59) hC dX7_advance_87 rfl ib_59 ?_
          refine g_icmp_ne (tgt := 96) hC dX7_advance_89 rfl (by decide) hM (fun hM => ?_) (fun hM => ?_)
          · refine g_iconst (v := 5) hC dX7_advance_96 rfl ic_5 ?_
            exact g_sub [1, 2] ((bX7_advance_97 hC hml hR a0 a1 h0 h1 ) _ _ _ h0 hM) rfl
          · refine g_iconst (v := 4) hC dX7_advance_92 rfl ic_4 ?_
            refine g_goto (tgt := 97) hC dX7_advance_93 rfl (by decide) ?_
            exact g_sub [1, 2] ((bX7_advance_97 hC hml hR a0 a1 h0 h1 ) _ _ _ h0 hM) rfl
        · refine g_iconst (v := 3) hC dX7_advance_82 rfl ic_3 ?_
          refine g_goto (tgt := 97) hC dX7_advance_83 rfl (by decide) ?_
          exact g_sub [1, 2] ((bX7_advance_97 hC hml hR a0 a1 h0 h1 ) _ _ _ h0 hM) rfl
      · refine g_aload_n hC dX7_advance_57 rfl 1 rfl ?_
        refine g_aload_n hC dX7_advance_58 rfl 2 rfl ?_
        refine g_callVv0 (As := [vr X a1]) (st' := []) (k := a0) (L' := 1) hC Y_X7_takeDigits I_X7_takeDigits k_466 ⟨by decide, by decide⟩ h0 (ci := 6) (by decide) rfl dX7_advance_59 rfl rfl rfl (Nat.le_of_ble_eq_true rfl) ⟨Nat.zero_le _, Nat.zero_le _⟩ hM (fun c hc => c_X7_takeDigits (xE X) a0 h0 a1 h1 c hc) (fun c8 hM => ?_)
        refine g_goto (tgt := 100) hC dX7_advance_62 rfl (by decide) ?_
        cases hM
        exact g_retv hR dX7_advance_100 rfl
    · refine g_aload_n hC dX7_advance_42 rfl 1 rfl ?_
      refine g_aload_n hC dX7_advance_43 rfl 2 rfl ?_
      refine g_callVv0 (As := [vr X a1]) (st' := []) (k := a0) (L' := 1) hC Y_X7_takeWord I_X7_takeWord k_459 ⟨by decide, by decide⟩ h0 (ci := 6) (by decide) rfl dX7_advance_44 rfl rfl rfl (Nat.le_of_ble_eq_true rfl) ⟨Nat.zero_le _, Nat.zero_le _⟩ hM (fun c hc => c_X7_takeWord (xE X) a0 h0 a1 h1 c hc) (fun c9 hM => ?_)
      refine g_goto (tgt := 100) hC dX7_advance_47 rfl (by decide) ?_
      cases hM
      exact g_retv hR dX7_advance_100 rfl
  · refine g_aload_n hC dX7_advance_27 rfl 1 rfl ?_
    refine g_iconst (v := 0) hC dX7_advance_28 rfl ic_0 ?_
    refine fp_6_6 hC h0 k_285 dX7_advance_29 rfl hM (fun σ10 hM => ?_)
    refine g_goto (tgt := 100) hC dX7_advance_32 rfl (by decide) ?_
    cases hM
    exact g_retv hR dX7_advance_100 rfl
def FX7_tokenIs_28 (σ : Sto) (ρ : Rho) (a0 : Nat) (a1 : Nat) (a2 : Nat) (rec : Int32 → Option (Int32)) (v3 : Int32) : Option (Int32) :=
  Option.bind (MJ0_length_8abf5 a2) fun c1 =>
  if c1 ≤ v3 then
    zr ((1 : Int32)) (some (1 : Int32))
  else
    Option.bind (MX9_byteAt σ ρ a1 (((σ a0 7) + v3))) fun c2 =>
    Option.bind (MJ0_charAt_5068e a2 v3) fun c3 =>
    if c2 = c3 then
      bn (v3 + (1 : Int32)) fun y4 =>
      rec y4
    else
      zr ((0 : Int32)) (some (0 : Int32))
set_option maxHeartbeats 4000000 in
set_option maxRecDepth 100000 in
theorem bX7_tokenIs_28 {X : CX} {n : Nat} {σ : Sto} {ρ : Rho} {res : Int32} (hC : Cx X cX7_tokenIs RX7 4) (hml : (xc X).maxLocals = 4) (hR : RtT (some .boolean) X cX7_tokenIs n res σ ρ) (a0 : Nat) (a1 : Nat) (a2 : Nat) (h0 : Sh n a0 6) (h1 : Sh n a1 8) (h2 : a2 < 4) (fu : Nat) : ∀ (v3 : Int32), fixN (fun _ => none) (FX7_tokenIs_28 σ ρ a0 a1 a2) fu v3 = some res → G X 0 0 n σ ρ 28 [(0, vr X a0), (1, vr X a1), (2, .ref (xK X a2)), (3, .int v3)] [] := by
  refine fixN_ind (P := fun (f : Int32 → Option (Int32)) => ∀ (v3 : Int32), f v3 = some res → G X 0 0 n σ ρ 28 [(0, vr X a0), (1, vr X a1), (2, .ref (xK X a2)), (3, .int v3)] []) ?_ ?_ fu
  · intro v3 hM; cases hM
  · intro rec ih v3 hM
    unfold FX7_tokenIs_28 at hM
    refine g_iload_n hC dX7_tokenIs_28 rfl 3 rfl ?_
    refine g_aload_n hC dX7_tokenIs_29 rfl 2 rfl ?_
    refine g_callStr (i := a2) (As := []) (st' := [.int v3]) (L' := 1) hC Y_J0_length_8abf5 I_J0_length_8abf5 k_483 ⟨by decide, by decide⟩ rfl h2 dX7_tokenIs_30 rfl rfl rfl (Nat.le_of_ble_eq_true rfl) ⟨Nat.zero_le _, Nat.zero_le _⟩ hM (fun c hc => c_J0_length_8abf5 (xE X) a2 h2 c hc) (fun c1 hM => ?_)
    refine g_icmp_ge (tgt := 62) hC dX7_tokenIs_33 rfl (by decide) hM (fun hM => ?_) (fun hM => ?_)
    · refine g_iconst (v := 1) hC dX7_tokenIs_62 rfl ic_1 ?_
      exact g_retz hM dX7_tokenIs_63 rfl (fun h => by cases h; exact hR)
    · refine g_aload_n hC dX7_tokenIs_36 rfl 1 rfl ?_
      refine g_aload_n hC dX7_tokenIs_37 rfl 0 rfl ?_
      refine fg_6_7 hC h0 k_286 dX7_tokenIs_38 rfl ?_
      refine g_iload_n hC dX7_tokenIs_41 rfl 3 rfl ?_
      refine g_iadd hC dX7_tokenIs_42 rfl ?_
      refine g_callVi (As := [.int (((σ a0 7) + v3))]) (st' := []) (k := a1) (L' := 0) hC Y_X9_byteAt I_X9_byteAt k_452 ⟨by decide, by decide⟩ h1 (ci := 8) (by decide) rfl dX7_tokenIs_43 rfl rfl rfl (Nat.le_of_ble_eq_true rfl) ⟨Nat.zero_le _, Nat.zero_le _⟩ hM (fun c hc => c_X9_byteAt (xE X) a1 h1 (((σ a0 7) + v3)) c hc) (fun c2 hM => ?_)
      refine g_aload_n hC dX7_tokenIs_46 rfl 2 rfl ?_
      refine g_iload_n hC dX7_tokenIs_47 rfl 3 rfl ?_
      refine g_callStr (i := a2) (As := [.int v3]) (st' := [.int c2]) (L' := 3) hC Y_J0_charAt_5068e I_J0_charAt_5068e k_493 ⟨by decide, by decide⟩ rfl h2 dX7_tokenIs_48 rfl rfl rfl (Nat.le_of_ble_eq_true rfl) ⟨Nat.zero_le _, Nat.zero_le _⟩ hM (fun c hc => c_J0_charAt_5068e (xE X) a2 h2 v3 c hc) (fun c3 hM => ?_)
      refine g_icmp_eq (tgt := 56) hC dX7_tokenIs_51 rfl (by decide) hM (fun hM => ?_) (fun hM => ?_)
      · refine g_iinc (v := 1) hC (fun y4 => [(3, .int y4), (0, vr X a0), (1, vr X a1), (2, .ref (xK X a2))]) dX7_tokenIs_56 rfl hM (j := 3) rfl ic_1 hml (by decide) (fun _ => rfl) (fun y4 hM => ?_)
        refine g_goto (tgt := 28) hC dX7_tokenIs_59 rfl (by decide) ?_
        exact g_sub [1, 2, 3, 0] (ih _ hM) rfl
      · refine g_iconst (v := 0) hC dX7_tokenIs_54 rfl ic_0 ?_
        exact g_retz hM dX7_tokenIs_55 rfl (fun h => by cases h; exact hR)
def MX7_tokenIs (σ : Sto) (ρ : Rho) (a0 : Nat) (a1 : Nat) (a2 : Nat) : Option (Int32) :=
  if (σ a0 6) = (1 : Int32) then
    Option.bind (MJ0_length_8abf5 a2) fun c1 =>
    if ((σ a0 5) - (σ a0 7)) = c1 then
      bn ((0 : Int32)) fun y2 =>
      fixN (fun _ => none) (FX7_tokenIs_28 σ ρ a0 a1 a2) FU y2
    else
      zr ((0 : Int32)) (some (0 : Int32))
  else
    zr ((0 : Int32)) (some (0 : Int32))
set_option maxHeartbeats 4000000 in
set_option maxRecDepth 100000 in
theorem c_X7_tokenIs (E : EX) {n : Nat} {σ : Sto} {ρ : Rho} (a0 : Nat) (h0 : Sh n a0 6) (a1 : Nat) (h1 : Sh n a1 8) (a2 : Nat) (h2 : a2 < 4) (res : Int32) (hM : MX7_tokenIs σ ρ a0 a1 a2 = some res) : CTi E yX7_tokenIs cX7_tokenIs 4 (some .boolean) 4 [.ref (eb E + a0), .ref (eb E + a1), .ref (eK E a2)] n σ ρ res σ ρ := by
  refine ct_i (by decide +kernel) rfl (Nat.le_of_ble_eq_true rfl) (fun X hE hml hC hR => ?_)
  subst hE
  show G X 0 0 n σ ρ 0 [(0, vr X a0), (1, vr X a1), (2, .ref (xK X a2))] []
  replace hC : Cx X cX7_tokenIs RX7 4 := hC
  unfold MX7_tokenIs at hM
  refine g_aload_n hC dX7_tokenIs_0 rfl 0 rfl ?_
  refine fg_6_6 hC h0 k_285 dX7_tokenIs_1 rfl ?_
  refine g_iconst (v := 1) hC dX7_tokenIs_4 rfl ic_1 ?_
  refine g_icmp_ne (tgt := 24) hC dX7_tokenIs_5 rfl (by decide) hM (fun hM => ?_) (fun hM => ?_)
  · refine g_iconst (v := 0) hC dX7_tokenIs_24 rfl ic_0 ?_
    exact g_retz hM dX7_tokenIs_25 rfl (fun h => by cases h; exact hR)
  · refine g_aload_n hC dX7_tokenIs_8 rfl 0 rfl ?_
    refine fg_6_5 hC h0 k_284 dX7_tokenIs_9 rfl ?_
    refine g_aload_n hC dX7_tokenIs_12 rfl 0 rfl ?_
    refine fg_6_7 hC h0 k_286 dX7_tokenIs_13 rfl ?_
    refine g_isub hC dX7_tokenIs_16 rfl ?_
    refine g_aload_n hC dX7_tokenIs_17 rfl 2 rfl ?_
    refine g_callStr (i := a2) (As := []) (st' := [.int (((σ a0 5) - (σ a0 7)))]) (L' := 1) hC Y_J0_length_8abf5 I_J0_length_8abf5 k_483 ⟨by decide, by decide⟩ rfl h2 dX7_tokenIs_18 rfl rfl rfl (Nat.le_of_ble_eq_true rfl) ⟨Nat.zero_le _, Nat.zero_le _⟩ hM (fun c hc => c_J0_length_8abf5 (xE X) a2 h2 c hc) (fun c1 hM => ?_)
    refine g_icmp_eq (tgt := 26) hC dX7_tokenIs_21 rfl (by decide) hM (fun hM => ?_) (fun hM => ?_)
    · refine g_iconst (v := 0) hC dX7_tokenIs_26 rfl ic_0 ?_
      refine g_istore_n hC (fun y2 => [(3, .int y2), (0, vr X a0), (1, vr X a1), (2, .ref (xK X a2))]) dX7_tokenIs_27 rfl hM hml (by decide) (fun _ => rfl) (fun y2 hM => ?_)
      exact g_sub [1, 2, 3, 0] ((bX7_tokenIs_28 hC hml hR a0 a1 a2 h0 h1 h2  FU) _ hM) rfl
    · refine g_iconst (v := 0) hC dX7_tokenIs_24 rfl ic_0 ?_
      exact g_retz hM dX7_tokenIs_25 rfl (fun h => by cases h; exact hR)
def MX7_lineKind (σ : Sto) (ρ : Rho) (a0 : Nat) (a1 : Nat) : Option (Int32) :=
  Option.bind (MX7_tokenIs σ ρ a0 a1 0) fun c1 =>
  if c1 = 0 then
    Option.bind (MX7_tokenIs σ ρ a0 a1 1) fun c2 =>
    if c2 = 0 then
      Option.bind (MX7_tokenIs σ ρ a0 a1 2) fun c3 =>
      if c3 = 0 then
        Option.bind (MX7_tokenIs σ ρ a0 a1 3) fun c4 =>
        if c4 = 0 then
          some (-1 : Int32)
        else
          some (3 : Int32)
      else
        some (2 : Int32)
    else
      some (1 : Int32)
  else
    some (0 : Int32)
set_option maxHeartbeats 4000000 in
set_option maxRecDepth 100000 in
theorem c_X7_lineKind (E : EX) {n : Nat} {σ : Sto} {ρ : Rho} (a0 : Nat) (h0 : Sh n a0 6) (a1 : Nat) (h1 : Sh n a1 8) (res : Int32) (hM : MX7_lineKind σ ρ a0 a1 = some res) : CTi E yX7_lineKind cX7_lineKind 2 (some .int) 5 [.ref (eb E + a0), .ref (eb E + a1)] n σ ρ res σ ρ := by
  refine ct_i (by decide +kernel) rfl (Nat.le_of_ble_eq_true rfl) (fun X hE hml hC hR => ?_)
  subst hE
  show G X 0 0 n σ ρ 0 [(0, vr X a0), (1, vr X a1)] []
  replace hC : Cx X cX7_lineKind RX7 5 := hC
  unfold MX7_lineKind at hM
  refine g_aload_n hC dX7_lineKind_0 rfl 0 rfl ?_
  refine g_aload_n hC dX7_lineKind_1 rfl 1 rfl ?_
  refine g_ldcS hC (i := 0) (by decide) rfl dX7_lineKind_2 rfl ?_
  refine g_callVi (As := [vr X a1, .ref (xK X 0)]) (st' := []) (k := a0) (L' := 4) hC Y_X7_tokenIs I_X7_tokenIs k_479 ⟨by decide, by decide⟩ h0 (ci := 6) (by decide) rfl dX7_lineKind_4 rfl rfl rfl (Nat.le_of_ble_eq_true rfl) ⟨Nat.zero_le _, Nat.zero_le _⟩ hM (fun c hc => c_X7_tokenIs (xE X) a0 h0 a1 h1 0 (by decide) c hc) (fun c1 hM => ?_)
  refine g_if_eq (tgt := 12) hC dX7_lineKind_7 rfl (by decide) hM (fun hM => ?_) (fun hM => ?_)
  · refine g_aload_n hC dX7_lineKind_12 rfl 0 rfl ?_
    refine g_aload_n hC dX7_lineKind_13 rfl 1 rfl ?_
    refine g_ldcS hC (i := 1) (by decide) rfl dX7_lineKind_14 rfl ?_
    refine g_callVi (As := [vr X a1, .ref (xK X 1)]) (st' := []) (k := a0) (L' := 4) hC Y_X7_tokenIs I_X7_tokenIs k_479 ⟨by decide, by decide⟩ h0 (ci := 6) (by decide) rfl dX7_lineKind_16 rfl rfl rfl (Nat.le_of_ble_eq_true rfl) ⟨Nat.zero_le _, Nat.zero_le _⟩ hM (fun c hc => c_X7_tokenIs (xE X) a0 h0 a1 h1 1 (by decide) c hc) (fun c2 hM => ?_)
    refine g_if_eq (tgt := 24) hC dX7_lineKind_19 rfl (by decide) hM (fun hM => ?_) (fun hM => ?_)
    · refine g_aload_n hC dX7_lineKind_24 rfl 0 rfl ?_
      refine g_aload_n hC dX7_lineKind_25 rfl 1 rfl ?_
      refine g_ldcS hC (i := 2) (by decide) rfl dX7_lineKind_26 rfl ?_
      refine g_callVi (As := [vr X a1, .ref (xK X 2)]) (st' := []) (k := a0) (L' := 4) hC Y_X7_tokenIs I_X7_tokenIs k_479 ⟨by decide, by decide⟩ h0 (ci := 6) (by decide) rfl dX7_lineKind_28 rfl rfl rfl (Nat.le_of_ble_eq_true rfl) ⟨Nat.zero_le _, Nat.zero_le _⟩ hM (fun c hc => c_X7_tokenIs (xE X) a0 h0 a1 h1 2 (by decide) c hc) (fun c3 hM => ?_)
      refine g_if_eq (tgt := 36) hC dX7_lineKind_31 rfl (by decide) hM (fun hM => ?_) (fun hM => ?_)
      · refine g_aload_n hC dX7_lineKind_36 rfl 0 rfl ?_
        refine g_aload_n hC dX7_lineKind_37 rfl 1 rfl ?_
        refine g_ldcS hC (i := 3) (by decide) rfl dX7_lineKind_38 rfl ?_
        refine g_callVi (As := [vr X a1, .ref (xK X 3)]) (st' := []) (k := a0) (L' := 4) hC Y_X7_tokenIs I_X7_tokenIs k_479 ⟨by decide, by decide⟩ h0 (ci := 6) (by decide) rfl dX7_lineKind_40 rfl rfl rfl (Nat.le_of_ble_eq_true rfl) ⟨Nat.zero_le _, Nat.zero_le _⟩ hM (fun c hc => c_X7_tokenIs (xE X) a0 h0 a1 h1 3 (by decide) c hc) (fun c4 hM => ?_)
        refine g_if_eq (tgt := 50) hC dX7_lineKind_43 rfl (by decide) hM (fun hM => ?_) (fun hM => ?_)
        · refine g_iconst (v := -1) hC dX7_lineKind_50 rfl ic_m1 ?_
          obtain rfl := Option.some.inj hM
          exact g_reti hR dX7_lineKind_51 rfl
        · refine g_iconst (v := 3) hC dX7_lineKind_46 rfl ic_3 ?_
          refine g_goto (tgt := 51) hC dX7_lineKind_47 rfl (by decide) ?_
          cases hM
          exact g_reti hR dX7_lineKind_51 rfl
      · refine g_iconst (v := 2) hC dX7_lineKind_34 rfl ic_2 ?_
        cases hM
        exact g_reti hR dX7_lineKind_35 rfl
    · refine g_iconst (v := 1) hC dX7_lineKind_22 rfl ic_1 ?_
      cases hM
      exact g_reti hR dX7_lineKind_23 rfl
  · refine g_iconst (v := 0) hC dX7_lineKind_10 rfl ic_0 ?_
    cases hM
    exact g_reti hR dX7_lineKind_11 rfl
def MX7_fail (σ : Sto) (a0 : Nat) (a1 : Int32) (a2 : Int32) : Option (Int32 × Sto) :=
  bn (su σ a0 1 a1) fun σ1 =>
  bn (su σ1 a0 2 a2) fun σ2 =>
  zr ((0 : Int32)) (some ((0 : Int32), σ2))
set_option maxHeartbeats 4000000 in
set_option maxRecDepth 100000 in
theorem c_X7_fail (E : EX) {n : Nat} {ρ : Rho} {σ : Sto} (a0 : Nat) (h0 : Sh n a0 6) (a1 : Int32) (a2 : Int32) (res : Int32 × Sto) (hM : MX7_fail σ a0 a1 a2 = some res) : CTi E yX7_fail cX7_fail 3 (some .boolean) 0 [.ref (eb E + a0), .int a1, .int a2] n σ ρ res.1 res.2 ρ := by
  refine ct_i (by decide +kernel) rfl (Nat.le_of_ble_eq_true rfl) (fun X hE hml hC hR => ?_)
  subst hE
  show G X 0 0 n σ ρ 0 [(0, vr X a0), (1, .int a1), (2, .int a2)] []
  replace hC : Cx X cX7_fail RX7 0 := hC
  unfold MX7_fail at hM
  refine g_aload_n hC dX7_fail_0 rfl 0 rfl ?_
  refine g_iload_n hC dX7_fail_1 rfl 1 rfl ?_
  refine fp_6_1 hC h0 k_278 dX7_fail_2 rfl hM (fun σ1 hM => ?_)
  refine g_aload_n hC dX7_fail_5 rfl 0 rfl ?_
  refine g_iload_n hC dX7_fail_6 rfl 2 rfl ?_
  refine fp_6_2 hC h0 k_280 dX7_fail_7 rfl hM (fun σ2 hM => ?_)
  refine g_iconst (v := 0) hC dX7_fail_10 rfl ic_0 ?_
  exact g_retz hM dX7_fail_11 rfl (fun h => by cases h; exact hR)
def FX11_isPrime_2 (a0 : Int32) (rec : Int32 → Option (Int32)) (v1 : Int32) : Option (Int32) :=
  if (8 : Int32) ≤ v1 then
    zr ((0 : Int32)) (some (0 : Int32))
  else
    Option.bind (pg v1) fun x3 =>
    if x3 = a0 then
      zr ((1 : Int32)) (some (1 : Int32))
    else
      bn (v1 + (1 : Int32)) fun y4 =>
      rec y4
set_option maxHeartbeats 4000000 in
set_option maxRecDepth 100000 in
theorem bX11_isPrime_2 {X : CX} {n : Nat} {σ : Sto} {ρ : Rho} {res : Int32} (hC : Cx X cX11_isPrime RX11 0) (hml : (xc X).maxLocals = 2) (hR : RtT (some .boolean) X cX11_isPrime n res σ ρ) (a0 : Int32) (fu : Nat) : ∀ (v1 : Int32), fixN (fun _ => none) (FX11_isPrime_2 a0) fu v1 = some res → G X 0 0 n σ ρ 2 [(0, .int a0), (1, .int v1)] [] := by
  refine fixN_ind (P := fun (f : Int32 → Option (Int32)) => ∀ (v1 : Int32), f v1 = some res → G X 0 0 n σ ρ 2 [(0, .int a0), (1, .int v1)] []) ?_ ?_ fu
  · intro v1 hM; cases hM
  · intro rec ih v1 hM
    unfold FX11_isPrime_2 at hM
    refine g_iload_n hC dX11_isPrime_2 rfl 1 rfl ?_
    refine g_getsP hC k_545 dX11_isPrime_3 rfl (fun p1 hp1 => ?_)
    refine g_plen hC hp1 dX11_isPrime_6 rfl ?_
    refine g_icmp_ge (tgt := 27) hC dX11_isPrime_7 rfl (by decide) hM (fun hM => ?_) (fun hM => ?_)
    · refine g_iconst (v := 0) hC dX11_isPrime_27 rfl ic_0 ?_
      exact g_retz hM dX11_isPrime_28 rfl (fun h => by cases h; exact hR)
    · refine g_getsP hC k_545 dX11_isPrime_10 rfl (fun p2 hp2 => ?_)
      refine g_iload_n hC dX11_isPrime_13 rfl 1 rfl ?_
      refine g_pald hC hp2 dX11_isPrime_14 rfl hM (fun x3 hM => ?_)
      refine g_iload_n hC dX11_isPrime_15 rfl 0 rfl ?_
      refine g_icmp_ne (tgt := 21) hC dX11_isPrime_16 rfl (by decide) hM (fun hM => ?_) (fun hM => ?_)
      · refine g_iinc (v := 1) hC (fun y4 => [(1, .int y4), (0, .int a0)]) dX11_isPrime_21 rfl hM (j := 1) rfl ic_1 hml (by decide) (fun _ => rfl) (fun y4 hM => ?_)
        refine g_goto (tgt := 2) hC dX11_isPrime_24 rfl (by decide) ?_
        exact g_sub [1, 0] (ih _ hM) rfl
      · refine g_iconst (v := 1) hC dX11_isPrime_19 rfl ic_1 ?_
        exact g_retz hM dX11_isPrime_20 rfl (fun h => by cases h; exact hR)
def MX11_isPrime (a0 : Int32) : Option (Int32) :=
  bn ((0 : Int32)) fun y1 =>
  fixN (fun _ => none) (FX11_isPrime_2 a0) FU y1
set_option maxHeartbeats 4000000 in
set_option maxRecDepth 100000 in
theorem c_X11_isPrime (E : EX) {n : Nat} {σ : Sto} {ρ : Rho} (a0 : Int32) (res : Int32) (hM : MX11_isPrime a0 = some res) : CTi E yX11_isPrime cX11_isPrime 2 (some .boolean) 0 [.int a0] n σ ρ res σ ρ := by
  refine ct_i (by decide +kernel) rfl (Nat.le_of_ble_eq_true rfl) (fun X hE hml hC hR => ?_)
  subst hE
  show G X 0 0 n σ ρ 0 [(0, .int a0)] []
  replace hC : Cx X cX11_isPrime RX11 0 := hC
  unfold MX11_isPrime at hM
  refine g_iconst (v := 0) hC dX11_isPrime_0 rfl ic_0 ?_
  refine g_istore_n hC (fun y1 => [(1, .int y1), (0, .int a0)]) dX11_isPrime_1 rfl hM hml (by decide) (fun _ => rfl) (fun y1 hM => ?_)
  exact g_sub [1, 0] ((bX11_isPrime_2 hC hml hR a0  FU) _ hM) rfl
def MX7_canBe (σ : Sto) (ρ : Rho) (a0 : Nat) (a1 : Int32) (a2 : Int32) : Option (Int32 × Sto) :=
  if a1 = 0 then
    Option.bind (MX11_isPrime a2) fun c5 =>
    zr c5 (some (c5, σ))
  else
    if a1 = (1 : Int32) then
      Option.bind (ρ a0 4) fun j2 =>
      Option.bind (ρ a0 0) fun j3 =>
      Option.bind (MX10_take σ j2 a2 ((σ j3 0))) fun c4 =>
      zr c4.1 (some (c4.1, c4.2))
    else
      Option.bind (MX11_isConic a2) fun c1 =>
      zr c1 (some (c1, σ))
set_option maxHeartbeats 4000000 in
set_option maxRecDepth 100000 in
theorem c_X7_canBe (E : EX) {n : Nat} {σ : Sto} {ρ : Rho} (a0 : Nat) (h0 : Sh n a0 6) (a1 : Int32) (a2 : Int32) (res : Int32 × Sto) (hM : MX7_canBe σ ρ a0 a1 a2 = some res) : CTi E yX7_canBe cX7_canBe 3 (some .boolean) 2 [.ref (eb E + a0), .int a1, .int a2] n σ ρ res.1 res.2 ρ := by
  refine ct_i (by decide +kernel) rfl (Nat.le_of_ble_eq_true rfl) (fun X hE hml hC hR => ?_)
  subst hE
  show G X 0 0 n σ ρ 0 [(0, vr X a0), (1, .int a1), (2, .int a2)] []
  replace hC : Cx X cX7_canBe RX7 2 := hC
  unfold MX7_canBe at hM
  refine g_iload_n hC dX7_canBe_0 rfl 1 rfl ?_
  refine g_if_ne (tgt := 9) hC dX7_canBe_1 rfl (by decide) hM (fun hM => ?_) (fun hM => ?_)
  · refine g_iload_n hC dX7_canBe_9 rfl 1 rfl ?_
    refine g_iconst (v := 1) hC dX7_canBe_10 rfl ic_1 ?_
    refine g_icmp_ne (tgt := 32) hC dX7_canBe_11 rfl (by decide) hM (fun hM => ?_) (fun hM => ?_)
    · refine g_iload_n hC dX7_canBe_32 rfl 2 rfl ?_
      refine g_callSNi (As := [.int a2]) (st' := []) (L' := 0) hC Y_X11_isConic k_559 k_558 ⟨by decide, by decide⟩ dX7_canBe_33 rfl rfl rfl (Nat.le_of_ble_eq_true rfl) ⟨Nat.zero_le _, Nat.zero_le _⟩ hM (fun c hc => c_X11_isConic (xE X) a2 c hc) (fun c1 hM => ?_)
      exact g_retz hM dX7_canBe_36 rfl (fun h => by cases h; exact hR)
    · refine g_aload_n hC dX7_canBe_14 rfl 0 rfl ?_
      refine fg_6_4 hC h0 k_283 dX7_canBe_15 rfl hM (fun j2 hj2 hM => ?_)
      refine g_iload_n hC dX7_canBe_18 rfl 2 rfl ?_
      refine g_aload_n hC dX7_canBe_19 rfl 0 rfl ?_
      refine fg_6_0 hC h0 k_276 dX7_canBe_20 rfl hM (fun j3 hj3 hM => ?_)
      refine fg_7_0 hC hj3 k_139 dX7_canBe_23 rfl ?_
      refine g_callVi (As := [.int a2, .int ((σ j3 0))]) (st' := []) (k := j2) (L' := 1) hC Y_X10_take I_X10_take k_547 ⟨by decide, by decide⟩ hj2 (ci := 9) (by decide) rfl dX7_canBe_26 rfl rfl rfl (Nat.le_of_ble_eq_true rfl) ⟨Nat.zero_le _, Nat.zero_le _⟩ hM (fun c hc => c_X10_take (xE X) j2 hj2 a2 ((σ j3 0)) c hc) (fun c4 hM => ?_)
      refine g_goto (tgt := 36) hC dX7_canBe_29 rfl (by decide) ?_
      exact g_retz hM dX7_canBe_36 rfl (fun h => by cases h; exact hR)
  · refine g_iload_n hC dX7_canBe_4 rfl 2 rfl ?_
    refine g_callSNi (As := [.int a2]) (st' := []) (L' := 0) hC Y_X11_isPrime k_543 k_542 ⟨by decide, by decide⟩ dX7_canBe_5 rfl rfl rfl (Nat.le_of_ble_eq_true rfl) ⟨Nat.zero_le _, Nat.zero_le _⟩ hM (fun c hc => c_X11_isPrime (xE X) a2 c hc) (fun c5 hM => ?_)
    exact g_retz hM dX7_canBe_8 rfl (fun h => by cases h; exact hR)
def BX7_readSix_44 (ρ : Rho) (a0 : Nat) (a1 : Nat) (σ : Sto) : Option (Int32 × Sto) :=
  Option.bind (MX7_fail σ a0 ((1 : Int32)) ((σ a0 7))) fun c1 =>
  zr c1.1 (some (c1.1, c1.2))
set_option maxHeartbeats 4000000 in
set_option maxRecDepth 100000 in
theorem bX7_readSix_44 {X : CX} {n : Nat} {ρ : Rho} {res : Int32 × Sto} (hC : Cx X cX7_readSix RX7 3) (hml : (xc X).maxLocals = 4) (hR : RtT (some .boolean) X cX7_readSix n res.1 res.2 ρ) (a0 : Nat) (a1 : Nat) (h0 : Sh n a0 6) (h1 : Sh n a1 8) : ∀ (σ : Sto), BX7_readSix_44 ρ a0 a1 σ = some res → G X 0 0 n σ ρ 44 [(0, vr X a0), (1, vr X a1)] [] := by
  intro σ hM
  unfold BX7_readSix_44 at hM
  refine g_aload_n hC dX7_readSix_44 rfl 0 rfl ?_
  refine g_iconst (v := 1) hC dX7_readSix_45 rfl ic_1 ?_
  refine g_aload_n hC dX7_readSix_46 rfl 0 rfl ?_
  refine fg_6_7 hC h0 k_286 dX7_readSix_47 rfl ?_
  refine g_callVi (As := [.int ((1 : Int32)), .int ((σ a0 7))]) (st' := []) (k := a0) (L' := 0) hC Y_X7_fail I_X7_fail k_534 ⟨by decide, by decide⟩ h0 (ci := 6) (by decide) rfl dX7_readSix_50 rfl rfl rfl (Nat.le_of_ble_eq_true rfl) ⟨Nat.zero_le _, Nat.zero_le _⟩ hM (fun c hc => c_X7_fail (xE X) a0 h0 ((1 : Int32)) ((σ a0 7)) c hc) (fun c1 hM => ?_)
  exact g_retz hM dX7_readSix_53 rfl (fun h => by cases h; exact hR)
def BX7_readSix_63 (ρ : Rho) (a0 : Nat) (a1 : Nat) (σ : Sto) : Option (Int32 × Sto) :=
  Option.bind (MX7_fail σ a0 ((2 : Int32)) ((σ a0 7))) fun c1 =>
  zr c1.1 (some (c1.1, c1.2))
set_option maxHeartbeats 4000000 in
set_option maxRecDepth 100000 in
theorem bX7_readSix_63 {X : CX} {n : Nat} {ρ : Rho} {res : Int32 × Sto} (hC : Cx X cX7_readSix RX7 3) (hml : (xc X).maxLocals = 4) (hR : RtT (some .boolean) X cX7_readSix n res.1 res.2 ρ) (a0 : Nat) (a1 : Nat) (h0 : Sh n a0 6) (h1 : Sh n a1 8) : ∀ (σ : Sto), BX7_readSix_63 ρ a0 a1 σ = some res → G X 0 0 n σ ρ 63 [(0, vr X a0), (1, vr X a1)] [] := by
  intro σ hM
  unfold BX7_readSix_63 at hM
  refine g_aload_n hC dX7_readSix_63 rfl 0 rfl ?_
  refine g_iconst (v := 2) hC dX7_readSix_64 rfl ic_2 ?_
  refine g_aload_n hC dX7_readSix_65 rfl 0 rfl ?_
  refine fg_6_7 hC h0 k_286 dX7_readSix_66 rfl ?_
  refine g_callVi (As := [.int ((2 : Int32)), .int ((σ a0 7))]) (st' := []) (k := a0) (L' := 0) hC Y_X7_fail I_X7_fail k_534 ⟨by decide, by decide⟩ h0 (ci := 6) (by decide) rfl dX7_readSix_69 rfl rfl rfl (Nat.le_of_ble_eq_true rfl) ⟨Nat.zero_le _, Nat.zero_le _⟩ hM (fun c hc => c_X7_fail (xE X) a0 h0 ((2 : Int32)) ((σ a0 7)) c hc) (fun c1 hM => ?_)
  exact g_retz hM dX7_readSix_72 rfl (fun h => by cases h; exact hR)
def BX7_readSix_94 (ρ : Rho) (a0 : Nat) (a1 : Nat) (rec : Sto → Int32 → Option (Int32 × Sto)) (k44 : Sto → Option (Int32 × Sto)) (k63 : Sto → Option (Int32 × Sto)) (σ : Sto) (v2 : Int32) (t0 : Nat) (t1 : Int32) (t2 : Int32) : Option (Int32 × Sto) :=
  Option.bind (MX3_change σ t0 t1 t2) fun c1 =>
  bn (v2 + (1 : Int32)) fun y2 =>
  rec c1 y2
set_option maxHeartbeats 4000000 in
set_option maxRecDepth 100000 in
theorem bX7_readSix_94 {X : CX} {n : Nat} {ρ : Rho} {res : Int32 × Sto} (hC : Cx X cX7_readSix RX7 3) (hml : (xc X).maxLocals = 4) (hR : RtT (some .boolean) X cX7_readSix n res.1 res.2 ρ) (a0 : Nat) (a1 : Nat) (h0 : Sh n a0 6) (h1 : Sh n a1 8) (rec : Sto → Int32 → Option (Int32 × Sto)) (ih : ∀ (σ : Sto) (v2 : Int32), rec σ v2 = some res → G X 0 0 n σ ρ 2 [(0, vr X a0), (1, vr X a1), (2, .int v2)] []) (k44 : Sto → Option (Int32 × Sto)) (hk44 : ∀ (σ : Sto), k44 σ = some res → G X 0 0 n σ ρ 44 [(0, vr X a0), (1, vr X a1)] []) (k63 : Sto → Option (Int32 × Sto)) (hk63 : ∀ (σ : Sto), k63 σ = some res → G X 0 0 n σ ρ 63 [(0, vr X a0), (1, vr X a1)] []) : ∀ (σ : Sto) (v2 : Int32) (t0 : Nat) (t1 : Int32) (t2 : Int32) (ht0 : Sh n t0 2), BX7_readSix_94 ρ a0 a1 rec k44 k63 σ v2 t0 t1 t2 = some res → G X 0 0 n σ ρ 94 [(0, vr X a0), (1, vr X a1), (2, .int v2)] [.int t2, .int t1, vr X t0] := by
  intro σ v2 t0 t1 t2 ht0 hM
  unfold BX7_readSix_94 at hM
  refine g_callVv0 (As := [.int t1, .int t2]) (st' := []) (k := t0) (L' := 0) hC Y_X3_change I_X3_change k_565 ⟨by decide, by decide⟩ ht0 (ci := 2) (by decide) rfl dX7_readSix_94 rfl rfl rfl (Nat.le_of_ble_eq_true rfl) ⟨Nat.zero_le _, Nat.zero_le _⟩ hM (fun c hc => c_X3_change (xE X) t0 ht0 t1 t2 c hc) (fun c1 hM => ?_)
  refine g_iinc (v := 1) hC (fun y2 => [(2, .int y2), (0, vr X a0), (1, vr X a1)]) dX7_readSix_97 rfl hM (j := 2) rfl ic_1 hml (by decide) (fun _ => rfl) (fun y2 hM => ?_)
  refine g_goto (tgt := 2) hC dX7_readSix_100 rfl (by decide) ?_
  exact g_sub [1, 2, 0] (ih _ _ hM) rfl
def BX7_readSix_36 (ρ : Rho) (a0 : Nat) (a1 : Nat) (rec : Sto → Int32 → Option (Int32 × Sto)) (k44 : Sto → Option (Int32 × Sto)) (k63 : Sto → Option (Int32 × Sto)) (σ : Sto) (v2 : Int32) (v3 : Int32) : Option (Int32 × Sto) :=
  if (σ a0 6) = (2 : Int32) then
    if (σ a0 8) ≤ (99 : Int32) then
      Option.bind (ρ a0 3) fun j1 =>
      if v3 = 0 then
        BX7_readSix_94 ρ a0 a1 rec k44 k63 σ v2 j1 v2 ((σ a0 8))
      else
        BX7_readSix_94 ρ a0 a1 rec k44 k63 σ v2 j1 v2 ((-(σ a0 8)))
    else
      k63 σ
  else
    k44 σ
set_option maxHeartbeats 4000000 in
set_option maxRecDepth 100000 in
theorem bX7_readSix_36 {X : CX} {n : Nat} {ρ : Rho} {res : Int32 × Sto} (hC : Cx X cX7_readSix RX7 3) (hml : (xc X).maxLocals = 4) (hR : RtT (some .boolean) X cX7_readSix n res.1 res.2 ρ) (a0 : Nat) (a1 : Nat) (h0 : Sh n a0 6) (h1 : Sh n a1 8) (rec : Sto → Int32 → Option (Int32 × Sto)) (ih : ∀ (σ : Sto) (v2 : Int32), rec σ v2 = some res → G X 0 0 n σ ρ 2 [(0, vr X a0), (1, vr X a1), (2, .int v2)] []) (k44 : Sto → Option (Int32 × Sto)) (hk44 : ∀ (σ : Sto), k44 σ = some res → G X 0 0 n σ ρ 44 [(0, vr X a0), (1, vr X a1)] []) (k63 : Sto → Option (Int32 × Sto)) (hk63 : ∀ (σ : Sto), k63 σ = some res → G X 0 0 n σ ρ 63 [(0, vr X a0), (1, vr X a1)] []) : ∀ (σ : Sto) (v2 : Int32) (v3 : Int32), BX7_readSix_36 ρ a0 a1 rec k44 k63 σ v2 v3 = some res → G X 0 0 n σ ρ 36 [(0, vr X a0), (1, vr X a1), (2, .int v2), (3, .int v3)] [] := by
  intro σ v2 v3 hM
  unfold BX7_readSix_36 at hM
  refine g_aload_n hC dX7_readSix_36 rfl 0 rfl ?_
  refine fg_6_6 hC h0 k_285 dX7_readSix_37 rfl ?_
  refine g_iconst (v := 2) hC dX7_readSix_40 rfl ic_2 ?_
  refine g_icmp_eq (tgt := 54) hC dX7_readSix_41 rfl (by decide) hM (fun hM => ?_) (fun hM => ?_)
  · refine g_aload_n hC dX7_readSix_54 rfl 0 rfl ?_
    refine fg_6_8 hC h0 k_287 dX7_readSix_55 rfl ?_
    refine g_bipush (v := 99) hC dX7_readSix_58 rfl ib_99 ?_
    refine g_icmp_le (tgt := 73) hC dX7_readSix_60 rfl (by decide) hM (fun hM => ?_) (fun hM => ?_)
    · refine g_aload_n hC dX7_readSix_73 rfl 0 rfl ?_
      refine fg_6_3 hC h0 k_282 dX7_readSix_74 rfl hM (fun j1 hj1 hM => ?_)
      refine g_iload_n hC dX7_readSix_77 rfl 2 rfl ?_
      refine g_iload_n hC dX7_readSix_78 rfl 3 rfl ?_
      refine g_if_eq (tgt := 90) hC dX7_readSix_79 rfl (by decide) hM (fun hM => ?_) (fun hM => ?_)
      · refine g_aload_n hC dX7_readSix_90 rfl 0 rfl ?_
        refine fg_6_8 hC h0 k_287 dX7_readSix_91 rfl ?_
        exact g_sub [0, 1, 2] ((bX7_readSix_94 hC hml hR a0 a1 h0 h1 rec ih k44 hk44 k63 hk63) _ _ _ _ _ hj1 hM) rfl
      · refine g_aload_n hC dX7_readSix_82 rfl 0 rfl ?_
        refine fg_6_8 hC h0 k_287 dX7_readSix_83 rfl ?_
        refine g_ineg hC dX7_readSix_86 rfl ?_
        refine g_goto (tgt := 94) hC dX7_readSix_87 rfl (by decide) ?_
        exact g_sub [0, 1, 2] ((bX7_readSix_94 hC hml hR a0 a1 h0 h1 rec ih k44 hk44 k63 hk63) _ _ _ _ _ hj1 hM) rfl
    · exact g_sub [0, 1] (hk63 _ hM) rfl
  · exact g_sub [0, 1] (hk44 _ hM) rfl
def BX7_readSix_26 (ρ : Rho) (a0 : Nat) (a1 : Nat) (rec : Sto → Int32 → Option (Int32 × Sto)) (k44 : Sto → Option (Int32 × Sto)) (k63 : Sto → Option (Int32 × Sto)) (σ : Sto) (v2 : Int32) (t0 : Int32) : Option (Int32 × Sto) :=
  bn t0 fun y1 =>
  if y1 = 0 then
    BX7_readSix_36 ρ a0 a1 rec k44 k63 σ v2 y1
  else
    Option.bind (MX7_advance σ ρ a0 a1) fun c2 =>
    BX7_readSix_36 ρ a0 a1 rec k44 k63 c2 v2 y1
set_option maxHeartbeats 4000000 in
set_option maxRecDepth 100000 in
theorem bX7_readSix_26 {X : CX} {n : Nat} {ρ : Rho} {res : Int32 × Sto} (hC : Cx X cX7_readSix RX7 3) (hml : (xc X).maxLocals = 4) (hR : RtT (some .boolean) X cX7_readSix n res.1 res.2 ρ) (a0 : Nat) (a1 : Nat) (h0 : Sh n a0 6) (h1 : Sh n a1 8) (rec : Sto → Int32 → Option (Int32 × Sto)) (ih : ∀ (σ : Sto) (v2 : Int32), rec σ v2 = some res → G X 0 0 n σ ρ 2 [(0, vr X a0), (1, vr X a1), (2, .int v2)] []) (k44 : Sto → Option (Int32 × Sto)) (hk44 : ∀ (σ : Sto), k44 σ = some res → G X 0 0 n σ ρ 44 [(0, vr X a0), (1, vr X a1)] []) (k63 : Sto → Option (Int32 × Sto)) (hk63 : ∀ (σ : Sto), k63 σ = some res → G X 0 0 n σ ρ 63 [(0, vr X a0), (1, vr X a1)] []) : ∀ (σ : Sto) (v2 : Int32) (t0 : Int32), BX7_readSix_26 ρ a0 a1 rec k44 k63 σ v2 t0 = some res → G X 0 0 n σ ρ 26 [(0, vr X a0), (1, vr X a1), (2, .int v2)] [.int t0] := by
  intro σ v2 t0 hM
  unfold BX7_readSix_26 at hM
  refine g_istore_n hC (fun y1 => [(3, .int y1), (0, vr X a0), (1, vr X a1), (2, .int v2)]) dX7_readSix_26 rfl hM hml (by decide) (fun _ => rfl) (fun y1 hM => ?_)
  refine g_iload_n hC dX7_readSix_27 rfl 0 rfl ?_
  refine g_if_eq (tgt := 36) hC dX7_readSix_28 rfl (by decide) hM (fun hM => ?_) (fun hM => ?_)
  · exact g_sub [1, 2, 3, 0] ((bX7_readSix_36 hC hml hR a0 a1 h0 h1 rec ih k44 hk44 k63 hk63) _ _ _ hM) rfl
  · refine g_aload_n hC dX7_readSix_31 rfl 1 rfl ?_
    refine g_aload_n hC dX7_readSix_32 rfl 2 rfl ?_
    refine g_callVv0 (As := [vr X a1]) (st' := []) (k := a0) (L' := 2) hC Y_X7_advance I_X7_advance k_444 ⟨by decide, by decide⟩ h0 (ci := 6) (by decide) rfl dX7_readSix_33 rfl rfl rfl (Nat.le_of_ble_eq_true rfl) ⟨Nat.zero_le _, Nat.zero_le _⟩ hM (fun c hc => c_X7_advance (xE X) a0 h0 a1 h1 c hc) (fun c2 hM => ?_)
    exact g_sub [1, 2, 3, 0] ((bX7_readSix_36 hC hml hR a0 a1 h0 h1 rec ih k44 hk44 k63 hk63) _ _ _ hM) rfl
def FX7_readSix_2 (ρ : Rho) (a0 : Nat) (a1 : Nat) (k44 : Sto → Option (Int32 × Sto)) (k63 : Sto → Option (Int32 × Sto)) (rec : Sto → Int32 → Option (Int32 × Sto)) (σ : Sto) (v2 : Int32) : Option (Int32 × Sto) :=
  if (6 : Int32) ≤ v2 then
    zr ((1 : Int32)) (some ((1 : Int32), σ))
  else
    Option.bind (MX7_advance σ ρ a0 a1) fun c1 =>
    if (c1 a0 6) = (3 : Int32) then
      BX7_readSix_26 ρ a0 a1 rec k44 k63 c1 v2 ((1 : Int32))
    else
      BX7_readSix_26 ρ a0 a1 rec k44 k63 c1 v2 ((0 : Int32))
set_option maxHeartbeats 4000000 in
set_option maxRecDepth 100000 in
theorem bX7_readSix_2 {X : CX} {n : Nat} {ρ : Rho} {res : Int32 × Sto} (hC : Cx X cX7_readSix RX7 3) (hml : (xc X).maxLocals = 4) (hR : RtT (some .boolean) X cX7_readSix n res.1 res.2 ρ) (a0 : Nat) (a1 : Nat) (h0 : Sh n a0 6) (h1 : Sh n a1 8) (k44 : Sto → Option (Int32 × Sto)) (hk44 : ∀ (σ : Sto), k44 σ = some res → G X 0 0 n σ ρ 44 [(0, vr X a0), (1, vr X a1)] []) (k63 : Sto → Option (Int32 × Sto)) (hk63 : ∀ (σ : Sto), k63 σ = some res → G X 0 0 n σ ρ 63 [(0, vr X a0), (1, vr X a1)] []) (fu : Nat) : ∀ (σ : Sto) (v2 : Int32), fixN (fun _ _ => none) (FX7_readSix_2 ρ a0 a1 k44 k63) fu σ v2 = some res → G X 0 0 n σ ρ 2 [(0, vr X a0), (1, vr X a1), (2, .int v2)] [] := by
  refine fixN_ind (P := fun (f : Sto → Int32 → Option (Int32 × Sto)) => ∀ (σ : Sto) (v2 : Int32), f σ v2 = some res → G X 0 0 n σ ρ 2 [(0, vr X a0), (1, vr X a1), (2, .int v2)] []) ?_ ?_ fu
  · intro σ v2 hM; cases hM
  · intro rec ih σ v2 hM
    unfold FX7_readSix_2 at hM
    refine g_iload_n hC dX7_readSix_2 rfl 2 rfl ?_
    refine g_bipush (v := 6) hC dX7_readSix_3 rfl ib_6 ?_
    refine g_icmp_ge (tgt := 103) hC dX7_readSix_5 rfl (by decide) hM (fun hM => ?_) (fun hM => ?_)
    · refine g_iconst (v := 1) hC dX7_readSix_103 rfl ic_1 ?_
      exact g_retz hM dX7_readSix_104 rfl (fun h => by cases h; exact hR)
    · refine g_aload_n hC dX7_readSix_8 rfl 0 rfl ?_
      refine g_aload_n hC dX7_readSix_9 rfl 1 rfl ?_
      refine g_callVv0 (As := [vr X a1]) (st' := []) (k := a0) (L' := 2) hC Y_X7_advance I_X7_advance k_444 ⟨by decide, by decide⟩ h0 (ci := 6) (by decide) rfl dX7_readSix_10 rfl rfl rfl (Nat.le_of_ble_eq_true rfl) ⟨Nat.zero_le _, Nat.zero_le _⟩ hM (fun c hc => c_X7_advance (xE X) a0 h0 a1 h1 c hc) (fun c1 hM => ?_)
      refine g_aload_n hC dX7_readSix_13 rfl 0 rfl ?_
      refine fg_6_6 hC h0 k_285 dX7_readSix_14 rfl ?_
      refine g_iconst (v := 3) hC dX7_readSix_17 rfl ic_3 ?_
      refine g_icmp_ne (tgt := 25) hC dX7_readSix_18 rfl (by decide) hM (fun hM => ?_) (fun hM => ?_)
      · refine g_iconst (v := 0) hC dX7_readSix_25 rfl ic_0 ?_
        exact g_sub [0, 1, 2] ((bX7_readSix_26 hC hml hR a0 a1 h0 h1 rec ih k44 hk44 k63 hk63) _ _ _ hM) rfl
      · refine g_iconst (v := 1) hC dX7_readSix_21 rfl ic_1 ?_
        refine g_goto (tgt := 26) hC dX7_readSix_22 rfl (by decide) ?_
        exact g_sub [0, 1, 2] ((bX7_readSix_26 hC hml hR a0 a1 h0 h1 rec ih k44 hk44 k63 hk63) _ _ _ hM) rfl
def MX7_readSix (σ : Sto) (ρ : Rho) (a0 : Nat) (a1 : Nat) : Option (Int32 × Sto) :=
  bn ((0 : Int32)) fun y1 =>
  fixN (fun _ _ => none) (FX7_readSix_2 ρ a0 a1 (BX7_readSix_44 ρ a0 a1) (BX7_readSix_63 ρ a0 a1)) FU σ y1
set_option maxHeartbeats 4000000 in
set_option maxRecDepth 100000 in
theorem c_X7_readSix (E : EX) {n : Nat} {σ : Sto} {ρ : Rho} (a0 : Nat) (h0 : Sh n a0 6) (a1 : Nat) (h1 : Sh n a1 8) (res : Int32 × Sto) (hM : MX7_readSix σ ρ a0 a1 = some res) : CTi E yX7_readSix cX7_readSix 4 (some .boolean) 3 [.ref (eb E + a0), .ref (eb E + a1)] n σ ρ res.1 res.2 ρ := by
  refine ct_i (by decide +kernel) rfl (Nat.le_of_ble_eq_true rfl) (fun X hE hml hC hR => ?_)
  subst hE
  show G X 0 0 n σ ρ 0 [(0, vr X a0), (1, vr X a1)] []
  replace hC : Cx X cX7_readSix RX7 3 := hC
  unfold MX7_readSix at hM
  refine g_iconst (v := 0) hC dX7_readSix_0 rfl ic_0 ?_
  refine g_istore_n hC (fun y1 => [(2, .int y1), (0, vr X a0), (1, vr X a1)]) dX7_readSix_1 rfl hM hml (by decide) (fun _ => rfl) (fun y1 hM => ?_)
  exact g_sub [1, 2, 0] ((bX7_readSix_2 hC hml hR a0 a1 h0 h1 (BX7_readSix_44 ρ a0 a1) (bX7_readSix_44 hC hml hR a0 a1 h0 h1 ) (BX7_readSix_63 ρ a0 a1) (bX7_readSix_63 hC hml hR a0 a1 h0 h1 ) FU) _ _ hM) rfl
def MX8_changePrime (σ : Sto) (a0 : Nat) (a1 : Int32) : Option (Sto) :=
  if a1 = (σ a0 0) then
    some σ
  else
    bn (su σ a0 0 a1) fun σ1 =>
    bn (su σ1 a0 1 ((0 : Int32))) fun σ2 =>
    some σ2
set_option maxHeartbeats 4000000 in
set_option maxRecDepth 100000 in
theorem c_X8_changePrime (E : EX) {n : Nat} {ρ : Rho} {σ : Sto} (a0 : Nat) (h0 : Sh n a0 7) (a1 : Int32) (res : Sto) (hM : MX8_changePrime σ a0 a1 = some res) : CTv E yX8_changePrime cX8_changePrime 2 0 0 0 [.ref (eb E + a0), .int a1] n σ ρ res ρ := by
  refine ct_v (by decide +kernel) (Nat.le_of_ble_eq_true rfl) (fun X hE hml hin hRm hC hR => ?_)
  subst hE
  show G X 0 0 n σ ρ 0 [(0, vr X a0), (1, .int a1)] []
  replace hC : Cx X cX8_changePrime RX8 0 := hC
  unfold MX8_changePrime at hM
  refine g_iload_n hC dX8_changePrime_0 rfl 1 rfl ?_
  refine g_aload_n hC dX8_changePrime_1 rfl 0 rfl ?_
  refine fg_7_0 hC h0 k_136 dX8_changePrime_2 rfl ?_
  refine g_icmp_eq (tgt := 18) hC dX8_changePrime_5 rfl (by decide) hM (fun hM => ?_) (fun hM => ?_)
  · cases hM
    exact g_retv hR dX8_changePrime_18 rfl
  · refine g_aload_n hC dX8_changePrime_8 rfl 0 rfl ?_
    refine g_iload_n hC dX8_changePrime_9 rfl 1 rfl ?_
    refine fp_7_0 hC h0 k_136 dX8_changePrime_10 rfl hM (fun σ1 hM => ?_)
    refine g_aload_n hC dX8_changePrime_13 rfl 0 rfl ?_
    refine g_iconst (v := 0) hC dX8_changePrime_14 rfl ic_0 ?_
    refine fp_7_1 hC h0 k_140 dX8_changePrime_15 rfl hM (fun σ2 hM => ?_)
    cases hM
    exact g_retv hR dX8_changePrime_18 rfl
def FX8_isMarked_2 (σ : Sto) (ρ : Rho) (a0 : Nat) (a1 : Int32) (rec : Int32 → Option (Int32)) (v2 : Int32) : Option (Int32) :=
  if (σ a0 1) ≤ v2 then
    zr ((0 : Int32)) (some (0 : Int32))
  else
    Option.bind (MX8_markAt σ ρ a0 v2) fun c1 =>
    if c1 = a1 then
      zr ((1 : Int32)) (some (1 : Int32))
    else
      bn (v2 + (1 : Int32)) fun y2 =>
      rec y2
set_option maxHeartbeats 4000000 in
set_option maxRecDepth 100000 in
theorem bX8_isMarked_2 {X : CX} {n : Nat} {σ : Sto} {ρ : Rho} {res : Int32} (hC : Cx X cX8_isMarked RX8 1) (hml : (xc X).maxLocals = 3) (hR : RtT (some .boolean) X cX8_isMarked n res σ ρ) (a0 : Nat) (a1 : Int32) (h0 : Sh n a0 7) (fu : Nat) : ∀ (v2 : Int32), fixN (fun _ => none) (FX8_isMarked_2 σ ρ a0 a1) fu v2 = some res → G X 0 0 n σ ρ 2 [(0, vr X a0), (1, .int a1), (2, .int v2)] [] := by
  refine fixN_ind (P := fun (f : Int32 → Option (Int32)) => ∀ (v2 : Int32), f v2 = some res → G X 0 0 n σ ρ 2 [(0, vr X a0), (1, .int a1), (2, .int v2)] []) ?_ ?_ fu
  · intro v2 hM; cases hM
  · intro rec ih v2 hM
    unfold FX8_isMarked_2 at hM
    refine g_iload_n hC dX8_isMarked_2 rfl 2 rfl ?_
    refine g_aload_n hC dX8_isMarked_3 rfl 0 rfl ?_
    refine fg_7_1 hC h0 k_140 dX8_isMarked_4 rfl ?_
    refine g_icmp_ge (tgt := 27) hC dX8_isMarked_7 rfl (by decide) hM (fun hM => ?_) (fun hM => ?_)
    · refine g_iconst (v := 0) hC dX8_isMarked_27 rfl ic_0 ?_
      exact g_retz hM dX8_isMarked_28 rfl (fun h => by cases h; exact hR)
    · refine g_aload_n hC dX8_isMarked_10 rfl 0 rfl ?_
      refine g_iload_n hC dX8_isMarked_11 rfl 2 rfl ?_
      refine g_callVi (As := [.int v2]) (st' := []) (k := a0) (L' := 0) hC Y_X8_markAt I_X8_markAt k_581 ⟨by decide, by decide⟩ h0 (ci := 7) (by decide) rfl dX8_isMarked_12 rfl rfl rfl (Nat.le_of_ble_eq_true rfl) ⟨Nat.zero_le _, Nat.zero_le _⟩ hM (fun c hc => c_X8_markAt (xE X) a0 h0 v2 c hc) (fun c1 hM => ?_)
      refine g_iload_n hC dX8_isMarked_15 rfl 1 rfl ?_
      refine g_icmp_ne (tgt := 21) hC dX8_isMarked_16 rfl (by decide) hM (fun hM => ?_) (fun hM => ?_)
      · refine g_iinc (v := 1) hC (fun y2 => [(2, .int y2), (0, vr X a0), (1, .int a1)]) dX8_isMarked_21 rfl hM (j := 2) rfl ic_1 hml (by decide) (fun _ => rfl) (fun y2 hM => ?_)
        refine g_goto (tgt := 2) hC dX8_isMarked_24 rfl (by decide) ?_
        exact g_sub [1, 2, 0] (ih _ hM) rfl
      · refine g_iconst (v := 1) hC dX8_isMarked_19 rfl ic_1 ?_
        exact g_retz hM dX8_isMarked_20 rfl (fun h => by cases h; exact hR)
def MX8_isMarked (σ : Sto) (ρ : Rho) (a0 : Nat) (a1 : Int32) : Option (Int32) :=
  bn ((0 : Int32)) fun y1 =>
  fixN (fun _ => none) (FX8_isMarked_2 σ ρ a0 a1) FU y1
set_option maxHeartbeats 4000000 in
set_option maxRecDepth 100000 in
theorem c_X8_isMarked (E : EX) {n : Nat} {σ : Sto} {ρ : Rho} (a0 : Nat) (h0 : Sh n a0 7) (a1 : Int32) (res : Int32) (hM : MX8_isMarked σ ρ a0 a1 = some res) : CTi E yX8_isMarked cX8_isMarked 3 (some .boolean) 1 [.ref (eb E + a0), .int a1] n σ ρ res σ ρ := by
  refine ct_i (by decide +kernel) rfl (Nat.le_of_ble_eq_true rfl) (fun X hE hml hC hR => ?_)
  subst hE
  show G X 0 0 n σ ρ 0 [(0, vr X a0), (1, .int a1)] []
  replace hC : Cx X cX8_isMarked RX8 1 := hC
  unfold MX8_isMarked at hM
  refine g_iconst (v := 0) hC dX8_isMarked_0 rfl ic_0 ?_
  refine g_istore_n hC (fun y1 => [(2, .int y1), (0, vr X a0), (1, .int a1)]) dX8_isMarked_1 rfl hM hml (by decide) (fun _ => rfl) (fun y1 hM => ?_)
  exact g_sub [1, 2, 0] ((bX8_isMarked_2 hC hml hR a0 a1 h0  FU) _ hM) rfl
def MX8_addMark (σ : Sto) (ρ : Rho) (a0 : Nat) (a1 : Int32) : Option (Sto) :=
  if (σ a0 1) < 0 then
    some σ
  else
    if (8 : Int32) ≤ (σ a0 1) then
      some σ
    else
      Option.bind (ρ a0 2) fun j1 =>
      Option.bind (ap σ j1 ((σ a0 1)) a1) fun σ2 =>
      bn (su σ2 a0 1 (((σ2 a0 1) + (1 : Int32)))) fun σ3 =>
      some σ3
set_option maxHeartbeats 4000000 in
set_option maxRecDepth 100000 in
theorem c_X8_addMark (E : EX) {n : Nat} {σ : Sto} {ρ : Rho} (a0 : Nat) (h0 : Sh n a0 7) (a1 : Int32) (res : Sto) (hM : MX8_addMark σ ρ a0 a1 = some res) : CTv E yX8_addMark cX8_addMark 2 0 0 0 [.ref (eb E + a0), .int a1] n σ ρ res ρ := by
  refine ct_v (by decide +kernel) (Nat.le_of_ble_eq_true rfl) (fun X hE hml hin hRm hC hR => ?_)
  subst hE
  show G X 0 0 n σ ρ 0 [(0, vr X a0), (1, .int a1)] []
  replace hC : Cx X cX8_addMark RX8 0 := hC
  unfold MX8_addMark at hM
  refine g_aload_n hC dX8_addMark_0 rfl 0 rfl ?_
  refine fg_7_1 hC h0 k_140 dX8_addMark_1 rfl ?_
  refine g_if_lt (tgt := 36) hC dX8_addMark_4 rfl (by decide) hM (fun hM => ?_) (fun hM => ?_)
  · cases hM
    exact g_retv hR dX8_addMark_36 rfl
  · refine g_aload_n hC dX8_addMark_7 rfl 0 rfl ?_
    refine fg_7_1 hC h0 k_140 dX8_addMark_8 rfl ?_
    refine g_bipush (v := 8) hC dX8_addMark_11 rfl ib_8 ?_
    refine g_icmp_ge (tgt := 36) hC dX8_addMark_13 rfl (by decide) hM (fun hM => ?_) (fun hM => ?_)
    · cases hM
      exact g_retv hR dX8_addMark_36 rfl
    · refine g_aload_n hC dX8_addMark_16 rfl 0 rfl ?_
      refine fg_7_2 hC h0 k_144 dX8_addMark_17 rfl hM (fun j1 hj1 hM => ?_)
      refine g_aload_n hC dX8_addMark_20 rfl 0 rfl ?_
      refine fg_7_1 hC h0 k_140 dX8_addMark_21 rfl ?_
      refine g_iload_n hC dX8_addMark_24 rfl 1 rfl ?_
      refine g_iast hC hj1 dX8_addMark_25 rfl hM (fun σ2 hM => ?_)
      refine g_aload_n hC dX8_addMark_26 rfl 0 rfl ?_
      refine g_dup hC dX8_addMark_27 rfl rfl ?_
      refine fg_7_1 hC h0 k_140 dX8_addMark_28 rfl ?_
      refine g_iconst (v := 1) hC dX8_addMark_31 rfl ic_1 ?_
      refine g_iadd hC dX8_addMark_32 rfl ?_
      refine fp_7_1 hC h0 k_140 dX8_addMark_33 rfl hM (fun σ3 hM => ?_)
      cases hM
      exact g_retv hR dX8_addMark_36 rfl
