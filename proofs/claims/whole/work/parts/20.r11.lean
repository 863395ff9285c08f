def BX12_feed_71 (ρ : Rho) (a0 : Nat) (a1 : Int32) (a2 : Int32) (a3 : Int32) (a4 : Int32) (a5 : Int32) (rec : Sto → Int32 → Option (Int32 × Sto)) (k108 : Sto → Option (Int32 × Sto)) (σ : Sto) (v6 : Int32) (t0 : Int32) : Option (Int32 × Sto) :=
  bn t0 fun y1 =>
  Option.bind (ρ a0 1) fun j2 =>
  Option.bind (ap σ j2 (((σ a0 3) + v6)) (((y1 >>> (((24 : Int32) - ((8 : Int32) * (v6 &&& (3 : Int32)))) &&& 31)) &&& (255 : Int32)))) fun σ3 =>
  bn (v6 + (1 : Int32)) fun y4 =>
  rec σ3 y4
set_option maxHeartbeats 4000000 in
set_option maxRecDepth 100000 in
theorem bX12_feed_71 {X : CX} {n : Nat} {ρ : Rho} {res : Int32 × Sto} (hC : Cx X cX12_feed RX12 0) (hml : (xc X).maxLocals = 8) (hR : RtT (some .int) X cX12_feed n res.1 res.2 ρ) (a0 : Nat) (a1 : Int32) (a2 : Int32) (a3 : Int32) (a4 : Int32) (a5 : Int32) (h0 : Sh n a0 11) (rec : Sto → Int32 → Option (Int32 × Sto)) (ih : ∀ (σ : Sto) (v6 : Int32), rec σ v6 = some res → G X 0 0 n σ ρ 18 [(0, vr X a0), (1, .int a1), (2, .int a2), (3, .int a3), (4, .int a4), (5, .int a5), (6, .int v6)] []) (k108 : Sto → Option (Int32 × Sto)) (hk108 : ∀ (σ : Sto), k108 σ = some res → G X 0 0 n σ ρ 108 [(0, vr X a0), (1, .int a1), (2, .int a2), (3, .int a3), (4, .int a4), (5, .int a5)] []) : ∀ (σ : Sto) (v6 : Int32) (t0 : Int32), BX12_feed_71 ρ a0 a1 a2 a3 a4 a5 rec k108 σ v6 t0 = some res → G X 0 0 n σ ρ 71 [(0, vr X a0), (1, .int a1), (2, .int a2), (3, .int a3), (4, .int a4), (5, .int a5), (6, .int v6)] [.int t0] := by
  intro σ v6 t0 hM
  unfold BX12_feed_71 at hM
  refine g_istore hC (fun y1 => [(7, .int y1), (0, vr X a0), (1, .int a1), (2, .int a2), (3, .int a3), (4, .int a4), (5, .int a5), (6, .int v6)]) dX12_feed_71 rfl hM hml (by decide) (fun _ => rfl) (fun y1 hM => ?_)
  refine g_aload_n hC dX12_feed_73 rfl 1 rfl ?_
  refine fg_11_1 hC h0 k_1083 dX12_feed_74 rfl hM (fun j2 hj2 hM => ?_)
  refine g_aload_n hC dX12_feed_77 rfl 1 rfl ?_
  refine fg_11_3 hC h0 k_1085 dX12_feed_78 rfl ?_
  refine g_iload hC dX12_feed_81 rfl 7 rfl ?_
  refine g_iadd hC dX12_feed_83 rfl ?_
  refine g_iload hC dX12_feed_84 rfl 0 rfl ?_
  refine g_bipush (v := 24) hC dX12_feed_86 rfl ib_24 ?_
  refine g_bipush (v := 8) hC dX12_feed_88 rfl ib_8 ?_
  refine g_iload hC dX12_feed_90 rfl 7 rfl ?_
  refine g_iconst (v := 3) hC dX12_feed_92 rfl ic_3 ?_
  refine g_iand hC dX12_feed_93 rfl ?_
  refine g_imul hC dX12_feed_94 rfl ?_
  refine g_isub hC dX12_feed_95 rfl ?_
  refine g_ishr hC dX12_feed_96 rfl ?_
  refine g_sipush (v := 255) hC dX12_feed_97 rfl is_255 ?_
  refine g_iand hC dX12_feed_100 rfl ?_
  refine g_iast hC hj2 dX12_feed_101 rfl hM (fun σ3 hM => ?_)
  refine g_iinc (v := 1) hC (fun y4 => [(6, .int y4), (7, .int y1), (0, vr X a0), (1, .int a1), (2, .int a2), (3, .int a3), (4, .int a4), (5, .int a5)]) dX12_feed_102 rfl hM (j := 7) rfl ic_1 hml (by decide) (fun _ => rfl) (fun y4 hM => ?_)
  refine g_goto (tgt := 18) hC dX12_feed_105 rfl (by decide) ?_
  exact g_sub [2, 3, 4, 5, 6, 7, 0] (ih _ _ hM) rfl
def BX12_feed_108 (ρ : Rho) (a0 : Nat) (a1 : Int32) (a2 : Int32) (a3 : Int32) (a4 : Int32) (a5 : Int32) (σ : Sto) : Option (Int32 × Sto) :=
  bn (su σ a0 3 (((σ a0 3) + (20 : Int32)))) fun σ1 =>
  some ((σ1 a0 3), σ1)
set_option maxHeartbeats 4000000 in
set_option maxRecDepth 100000 in
theorem bX12_feed_108 {X : CX} {n : Nat} {ρ : Rho} {res : Int32 × Sto} (hC : Cx X cX12_feed RX12 0) (hml : (xc X).maxLocals = 8) (hR : RtT (some .int) X cX12_feed n res.1 res.2 ρ) (a0 : Nat) (a1 : Int32) (a2 : Int32) (a3 : Int32) (a4 : Int32) (a5 : Int32) (h0 : Sh n a0 11) : ∀ (σ : Sto), BX12_feed_108 ρ a0 a1 a2 a3 a4 a5 σ = some res → G X 0 0 n σ ρ 108 [(0, vr X a0), (1, .int a1), (2, .int a2), (3, .int a3), (4, .int a4), (5, .int a5)] [] := by
  intro σ hM
  unfold BX12_feed_108 at hM
  refine g_aload_n hC dX12_feed_108 rfl 0 rfl ?_
  refine g_dup hC dX12_feed_109 rfl rfl ?_
  refine fg_11_3 hC h0 k_1085 dX12_feed_110 rfl ?_
  refine g_bipush (v := 20) hC dX12_feed_113 rfl ib_20 ?_
  refine g_iadd hC dX12_feed_115 rfl ?_
  refine fp_11_3 hC h0 k_1085 dX12_feed_116 rfl hM (fun σ1 hM => ?_)
  refine g_aload_n hC dX12_feed_119 rfl 0 rfl ?_
  refine fg_11_3 hC h0 k_1085 dX12_feed_120 rfl ?_
  cases hM
  exact g_reti hR dX12_feed_123 rfl
def FX12_feed_18 (ρ : Rho) (a0 : Nat) (a1 : Int32) (a2 : Int32) (a3 : Int32) (a4 : Int32) (a5 : Int32) (k108 : Sto → Option (Int32 × Sto)) (rec : Sto → Int32 → Option (Int32 × Sto)) (σ : Sto) (v6 : Int32) : Option (Int32 × Sto) :=
  if (20 : Int32) ≤ v6 then
    k108 σ
  else
    if (4 : Int32) ≤ v6 then
      if (8 : Int32) ≤ v6 then
        if (12 : Int32) ≤ v6 then
          if (16 : Int32) ≤ v6 then
            BX12_feed_71 ρ a0 a1 a2 a3 a4 a5 rec k108 σ v6 a5
          else
            BX12_feed_71 ρ a0 a1 a2 a3 a4 a5 rec k108 σ v6 a4
        else
          BX12_feed_71 ρ a0 a1 a2 a3 a4 a5 rec k108 σ v6 a3
      else
        BX12_feed_71 ρ a0 a1 a2 a3 a4 a5 rec k108 σ v6 a2
    else
      BX12_feed_71 ρ a0 a1 a2 a3 a4 a5 rec k108 σ v6 a1
set_option maxHeartbeats 4000000 in
set_option maxRecDepth 100000 in
theorem bX12_feed_18 {X : CX} {n : Nat} {ρ : Rho} {res : Int32 × Sto} (hC : Cx X cX12_feed RX12 0) (hml : (xc X).maxLocals = 8) (hR : RtT (some .int) X cX12_feed n res.1 res.2 ρ) (a0 : Nat) (a1 : Int32) (a2 : Int32) (a3 : Int32) (a4 : Int32) (a5 : Int32) (h0 : Sh n a0 11) (k108 : Sto → Option (Int32 × Sto)) (hk108 : ∀ (σ : Sto), k108 σ = some res → G X 0 0 n σ ρ 108 [(0, vr X a0), (1, .int a1), (2, .int a2), (3, .int a3), (4, .int a4), (5, .int a5)] []) (fu : Nat) : ∀ (σ : Sto) (v6 : Int32), fixN (fun _ _ => none) (FX12_feed_18 ρ a0 a1 a2 a3 a4 a5 k108) fu σ v6 = some res → G X 0 0 n σ ρ 18 [(0, vr X a0), (1, .int a1), (2, .int a2), (3, .int a3), (4, .int a4), (5, .int a5), (6, .int v6)] [] := by
  refine fixN_ind (P := fun (f : Sto → Int32 → Option (Int32 × Sto)) => ∀ (σ : Sto) (v6 : Int32), f σ v6 = some res → G X 0 0 n σ ρ 18 [(0, vr X a0), (1, .int a1), (2, .int a2), (3, .int a3), (4, .int a4), (5, .int a5), (6, .int v6)] []) ?_ ?_ fu
  · intro σ v6 hM; cases hM
  · intro rec ih σ v6 hM
    unfold FX12_feed_18 at hM
    refine g_iload hC dX12_feed_18 rfl 6 rfl ?_
    refine g_bipush (v := 20) hC dX12_feed_20 rfl ib_20 ?_
    refine g_icmp_ge (tgt := 108) hC dX12_feed_22 rfl (by decide) hM (fun hM => ?_) (fun hM => ?_)
    · exact g_sub [0, 1, 2, 3, 4, 5] (hk108 _ hM) rfl
    · refine g_iload hC dX12_feed_25 rfl 6 rfl ?_
      refine g_iconst (v := 4) hC dX12_feed_27 rfl ic_4 ?_
      refine g_icmp_ge (tgt := 35) hC dX12_feed_28 rfl (by decide) hM (fun hM => ?_) (fun hM => ?_)
      · refine g_iload hC dX12_feed_35 rfl 6 rfl ?_
        refine g_bipush (v := 8) hC dX12_feed_37 rfl ib_8 ?_
        refine g_icmp_ge (tgt := 46) hC dX12_feed_39 rfl (by decide) hM (fun hM => ?_) (fun hM => ?_)
        · refine g_iload hC dX12_feed_46 rfl 6 rfl ?_
          refine g_bipush (v := 12) hC dX12_feed_48 rfl ib_12 ?_
          refine g_icmp_ge (tgt := 57) hC dX12_feed_50 rfl (by decide) hM (fun hM => ?_) (fun hM => ?_)
          · refine g_iload hC dX12_feed_57 rfl 6 rfl ?_
            refine g_bipush (v := 16) hC dX12_feed_59 rfl ib_16 ?_
            refine g_icmp_ge (tgt := 69) hC dX12_feed_61 rfl (by decide) hM (fun hM => ?_) (fun hM => ?_)
            · refine g_iload hC dX12_feed_69 rfl 5 rfl ?_
              exact g_sub [0, 1, 2, 3, 4, 5, 6] ((bX12_feed_71 hC hml hR a0 a1 a2 a3 a4 a5 h0 rec ih k108 hk108) _ _ _ hM) rfl
            · refine g_iload hC dX12_feed_64 rfl 4 rfl ?_
              refine g_goto (tgt := 71) hC dX12_feed_66 rfl (by decide) ?_
              exact g_sub [0, 1, 2, 3, 4, 5, 6] ((bX12_feed_71 hC hml hR a0 a1 a2 a3 a4 a5 h0 rec ih k108 hk108) _ _ _ hM) rfl
          · refine g_iload_n hC dX12_feed_53 rfl 3 rfl ?_
            refine g_goto (tgt := 71) hC dX12_feed_54 rfl (by decide) ?_
            exact g_sub [0, 1, 2, 3, 4, 5, 6] ((bX12_feed_71 hC hml hR a0 a1 a2 a3 a4 a5 h0 rec ih k108 hk108) _ _ _ hM) rfl
        · refine g_iload_n hC dX12_feed_42 rfl 2 rfl ?_
          refine g_goto (tgt := 71) hC dX12_feed_43 rfl (by decide) ?_
          exact g_sub [0, 1, 2, 3, 4, 5, 6] ((bX12_feed_71 hC hml hR a0 a1 a2 a3 a4 a5 h0 rec ih k108 hk108) _ _ _ hM) rfl
      · refine g_iload_n hC dX12_feed_31 rfl 1 rfl ?_
        refine g_goto (tgt := 71) hC dX12_feed_32 rfl (by decide) ?_
        exact g_sub [0, 1, 2, 3, 4, 5, 6] ((bX12_feed_71 hC hml hR a0 a1 a2 a3 a4 a5 h0 rec ih k108 hk108) _ _ _ hM) rfl
def MX12_feed (σ : Sto) (ρ : Rho) (a0 : Nat) (a1 : Int32) (a2 : Int32) (a3 : Int32) (a4 : Int32) (a5 : Int32) : Option (Int32 × Sto) :=
  if ((σ a0 3) + (20 : Int32)) ≤ (500 : Int32) then
    bn ((0 : Int32)) fun y1 =>
    fixN (fun _ _ => none) (FX12_feed_18 ρ a0 a1 a2 a3 a4 a5 (BX12_feed_108 ρ a0 a1 a2 a3 a4 a5)) FU σ y1
  else
    some ((-1 : Int32), σ)
set_option maxHeartbeats 4000000 in
set_option maxRecDepth 100000 in
theorem c_X12_feed (E : EX) {n : Nat} {σ : Sto} {ρ : Rho} (a0 : Nat) (h0 : Sh n a0 11) (a1 : Int32) (a2 : Int32) (a3 : Int32) (a4 : Int32) (a5 : Int32) (res : Int32 × Sto) (hM : MX12_feed σ ρ a0 a1 a2 a3 a4 a5 = some res) : CTi E yX12_feed cX12_feed 8 (some .int) 0 [.ref (eb E + a0), .int a1, .int a2, .int a3, .int a4, .int a5] n σ ρ res.1 res.2 ρ := by
  refine ct_i (by decide +kernel) rfl (Nat.le_of_ble_eq_true rfl) (fun X hE hml hC hR => ?_)
  subst hE
  show G X 0 0 n σ ρ 0 [(0, vr X a0), (1, .int a1), (2, .int a2), (3, .int a3), (4, .int a4), (5, .int a5)] []
  replace hC : Cx X cX12_feed RX12 0 := hC
  unfold MX12_feed at hM
  refine g_aload_n hC dX12_feed_0 rfl 0 rfl ?_
  refine fg_11_3 hC h0 k_1085 dX12_feed_1 rfl ?_
  refine g_bipush (v := 20) hC dX12_feed_4 rfl ib_20 ?_
  refine g_iadd hC dX12_feed_6 rfl ?_
  refine g_sipush (v := 500) hC dX12_feed_7 rfl is_500 ?_
  refine g_icmp_le (tgt := 15) hC dX12_feed_10 rfl (by decide) hM (fun hM => ?_) (fun hM => ?_)
  · refine g_iconst (v := 0) hC dX12_feed_15 rfl ic_0 ?_
    refine g_istore hC (fun y1 => [(6, .int y1), (0, vr X a0), (1, .int a1), (2, .int a2), (3, .int a3), (4, .int a4), (5, .int a5)]) dX12_feed_16 rfl hM hml (by decide) (fun _ => rfl) (fun y1 hM => ?_)
    exact g_sub [1, 2, 3, 4, 5, 6, 0] ((bX12_feed_18 hC hml hR a0 a1 a2 a3 a4 a5 h0 (BX12_feed_108 ρ a0 a1 a2 a3 a4 a5) (bX12_feed_108 hC hml hR a0 a1 a2 a3 a4 a5 h0 ) FU) _ _ hM) rfl
  · refine g_iconst (v := -1) hC dX12_feed_13 rfl ic_m1 ?_
    obtain rfl := Option.some.inj hM
    exact g_reti hR dX12_feed_14 rfl
def MX12_end (σ : Sto) (a0 : Nat) (a1 : Int32) : Option (Int32 × Sto) :=
  Option.bind (MX12_isIn a1 ((0 : Int32)) ((σ a0 3))) fun c1 =>
  if c1 = 0 then
    some ((-1 : Int32), σ)
  else
    bn (su σ a0 3 a1) fun σ2 =>
    some (a1, σ2)
set_option maxHeartbeats 4000000 in
set_option maxRecDepth 100000 in
theorem c_X12_end (E : EX) {n : Nat} {ρ : Rho} {σ : Sto} (a0 : Nat) (h0 : Sh n a0 11) (a1 : Int32) (res : Int32 × Sto) (hM : MX12_end σ a0 a1 = some res) : CTi E yX12_end cX12_end 2 (some .int) 1 [.ref (eb E + a0), .int a1] n σ ρ res.1 res.2 ρ := by
  refine ct_i (by decide +kernel) rfl (Nat.le_of_ble_eq_true rfl) (fun X hE hml hC hR => ?_)
  subst hE
  show G X 0 0 n σ ρ 0 [(0, vr X a0), (1, .int a1)] []
  replace hC : Cx X cX12_end RX12 1 := hC
  unfold MX12_end at hM
  refine g_iload_n hC dX12_end_0 rfl 1 rfl ?_
  refine g_iconst (v := 0) hC dX12_end_1 rfl ic_0 ?_
  refine g_aload_n hC dX12_end_2 rfl 0 rfl ?_
  refine fg_11_3 hC h0 k_1085 dX12_end_3 rfl ?_
  refine g_callSi (As := [.int a1, .int ((0 : Int32)), .int ((σ a0 3))]) (st' := []) (L' := 0) hC Y_X12_isIn k_1170 k_1169 ⟨by decide, by decide⟩ dX12_end_6 rfl rfl rfl (Nat.le_of_ble_eq_true rfl) ⟨Nat.zero_le _, Nat.zero_le _⟩ hM (fun c hc => c_X12_isIn (xE X) a1 ((0 : Int32)) ((σ a0 3)) c hc) (fun c1 hM => ?_)
  refine g_if_ne (tgt := 14) hC dX12_end_9 rfl (by decide) hM (fun hM => ?_) (fun hM => ?_)
  · refine g_aload_n hC dX12_end_14 rfl 0 rfl ?_
    refine g_iload_n hC dX12_end_15 rfl 1 rfl ?_
    refine fp_11_3 hC h0 k_1085 dX12_end_16 rfl hM (fun σ2 hM => ?_)
    refine g_iload_n hC dX12_end_19 rfl 1 rfl ?_
    cases hM
    exact g_reti hR dX12_end_20 rfl
  · refine g_iconst (v := -1) hC dX12_end_12 rfl ic_m1 ?_
    obtain rfl := Option.some.inj hM
    exact g_reti hR dX12_end_13 rfl
def MX12_fault (σ : Sto) (a0 : Nat) (a1 : Int32) : Option (Int32) :=
  if a1 = 0 then
    some (σ a0 4)
  else
    if a1 = (1 : Int32) then
      some (σ a0 5)
    else
      some (-1 : Int32)
set_option maxHeartbeats 4000000 in
set_option maxRecDepth 100000 in
theorem c_X12_fault (E : EX) {n : Nat} {ρ : Rho} {σ : Sto} (a0 : Nat) (h0 : Sh n a0 11) (a1 : Int32) (res : Int32) (hM : MX12_fault σ a0 a1 = some res) : CTi E yX12_fault cX12_fault 2 (some .int) 0 [.ref (eb E + a0), .int a1] n σ ρ res σ ρ := by
  refine ct_i (by decide +kernel) rfl (Nat.le_of_ble_eq_true rfl) (fun X hE hml hC hR => ?_)
  subst hE
  show G X 0 0 n σ ρ 0 [(0, vr X a0), (1, .int a1)] []
  replace hC : Cx X cX12_fault RX12 0 := hC
  unfold MX12_fault at hM
  refine g_iload_n hC dX12_fault_0 rfl 1 rfl ?_
  refine g_if_ne (tgt := 11) hC dX12_fault_1 rfl (by decide) hM (fun hM => ?_) (fun hM => ?_)
  · refine g_iload_n hC dX12_fault_11 rfl 1 rfl ?_
    refine g_iconst (v := 1) hC dX12_fault_12 rfl ic_1 ?_
    refine g_icmp_ne (tgt := 23) hC dX12_fault_13 rfl (by decide) hM (fun hM => ?_) (fun hM => ?_)
    · refine g_iconst (v := -1) hC dX12_fault_23 rfl ic_m1 ?_
      obtain rfl := Option.some.inj hM
      exact g_reti hR dX12_fault_24 rfl
    · refine g_aload_n hC dX12_fault_16 rfl 0 rfl ?_
      refine fg_11_5 hC h0 k_1087 dX12_fault_17 rfl ?_
      refine g_goto (tgt := 24) hC dX12_fault_20 rfl (by decide) ?_
      cases hM
      exact g_reti hR dX12_fault_24 rfl
  · refine g_aload_n hC dX12_fault_4 rfl 0 rfl ?_
    refine fg_11_4 hC h0 k_1086 dX12_fault_5 rfl ?_
    refine g_goto (tgt := 24) hC dX12_fault_8 rfl (by decide) ?_
    cases hM
    exact g_reti hR dX12_fault_24 rfl
def MX12_byteAt (σ : Sto) (ρ : Rho) (a0 : Nat) (a1 : Int32) : Option (Int32) :=
  if (σ a0 14) ≤ a1 then
    some (-1 : Int32)
  else
    Option.bind (ρ a0 1) fun j1 =>
    Option.bind (ag σ j1 a1) fun x2 =>
    some x2
set_option maxHeartbeats 4000000 in
set_option maxRecDepth 100000 in
theorem c_X12_byteAt (E : EX) {n : Nat} {σ : Sto} {ρ : Rho} (a0 : Nat) (h0 : Sh n a0 11) (a1 : Int32) (res : Int32) (hM : MX12_byteAt σ ρ a0 a1 = some res) : CTi E yX12_byteAt cX12_byteAt 2 (some .int) 0 [.ref (eb E + a0), .int a1] n σ ρ res σ ρ := by
  refine ct_i (by decide +kernel) rfl (Nat.le_of_ble_eq_true rfl) (fun X hE hml hC hR => ?_)
  subst hE
  show G X 0 0 n σ ρ 0 [(0, vr X a0), (1, .int a1)] []
  replace hC : Cx X cX12_byteAt RX12 0 := hC
  unfold MX12_byteAt at hM
  refine g_iload_n hC dX12_byteAt_0 rfl 1 rfl ?_
  refine g_aload_n hC dX12_byteAt_1 rfl 0 rfl ?_
  refine fg_11_14 hC h0 k_1096 dX12_byteAt_2 rfl ?_
  refine g_icmp_ge (tgt := 17) hC dX12_byteAt_5 rfl (by decide) hM (fun hM => ?_) (fun hM => ?_)
  · refine g_iconst (v := -1) hC dX12_byteAt_17 rfl ic_m1 ?_
    obtain rfl := Option.some.inj hM
    exact g_reti hR dX12_byteAt_18 rfl
  · refine g_aload_n hC dX12_byteAt_8 rfl 0 rfl ?_
    refine fg_11_1 hC h0 k_1083 dX12_byteAt_9 rfl hM (fun j1 hj1 hM => ?_)
    refine g_iload_n hC dX12_byteAt_12 rfl 1 rfl ?_
    refine g_iald hC hj1 dX12_byteAt_13 rfl hM (fun x2 hM => ?_)
    refine g_goto (tgt := 18) hC dX12_byteAt_14 rfl (by decide) ?_
    cases hM
    exact g_reti hR dX12_byteAt_18 rfl
def MX12_isLetter (a0 : Int32) : Option (Int32) :=
  if a0 < (97 : Int32) then
    zr ((0 : Int32)) (some (0 : Int32))
  else
    if (122 : Int32) < a0 then
      zr ((0 : Int32)) (some (0 : Int32))
    else
      zr ((1 : Int32)) (some (1 : Int32))
set_option maxHeartbeats 4000000 in
set_option maxRecDepth 100000 in
theorem c_X12_isLetter (E : EX) {n : Nat} {σ : Sto} {ρ : Rho} (a0 : Int32) (res : Int32) (hM : MX12_isLetter a0 = some res) : CTi E yX12_isLetter cX12_isLetter 1 (some .boolean) 0 [.int a0] n σ ρ res σ ρ := by
  refine ct_i (by decide +kernel) rfl (Nat.le_of_ble_eq_true rfl) (fun X hE hml hC hR => ?_)
  subst hE
  show G X 0 0 n σ ρ 0 [(0, .int a0)] []
  replace hC : Cx X cX12_isLetter RX12 0 := hC
  unfold MX12_isLetter at hM
  refine g_iload_n hC dX12_isLetter_0 rfl 0 rfl ?_
  refine g_bipush (v := 97) hC dX12_isLetter_1 rfl ib_97 ?_
  refine g_icmp_lt (tgt := 16) hC dX12_isLetter_3 rfl (by decide) hM (fun hM => ?_) (fun hM => ?_)
  · refine g_iconst (v := 0) hC dX12_isLetter_16 rfl ic_0 ?_
    exact g_retz hM dX12_isLetter_17 rfl (fun h => by cases h; exact hR)
  · refine g_iload_n hC dX12_isLetter_6 rfl 0 rfl ?_
    refine g_bipush (v := 122) hC dX12_isLetter_7 rfl ib_122 ?_
    refine g_icmp_gt (tgt := 16) hC dX12_isLetter_9 rfl (by decide) hM (fun hM => ?_) (fun hM => ?_)
    · refine g_iconst (v := 0) hC dX12_isLetter_16 rfl ic_0 ?_
      exact g_retz hM dX12_isLetter_17 rfl (fun h => by cases h; exact hR)
    · refine g_iconst (v := 1) hC dX12_isLetter_12 rfl ic_1 ?_
      refine g_goto (tgt := 17) hC dX12_isLetter_13 rfl (by decide) ?_
      exact g_retz hM dX12_isLetter_17 rfl (fun h => by cases h; exact hR)
def MX12_isDigit (a0 : Int32) : Option (Int32) :=
  if a0 < (48 : Int32) then
    zr ((0 : Int32)) (some (0 : Int32))
  else
    if (57 : Int32) < a0 then
      zr ((0 : Int32)) (some (0 : Int32))
    else
      zr ((1 : Int32)) (some (1 : Int32))
set_option maxHeartbeats 4000000 in
set_option maxRecDepth 100000 in
theorem c_X12_isDigit (E : EX) {n : Nat} {σ : Sto} {ρ : Rho} (a0 : Int32) (res : Int32) (hM : MX12_isDigit a0 = some res) : CTi E yX12_isDigit cX12_isDigit 1 (some .boolean) 0 [.int a0] n σ ρ res σ ρ := by
  refine ct_i (by decide +kernel) rfl (Nat.le_of_ble_eq_true rfl) (fun X hE hml hC hR => ?_)
  subst hE
  show G X 0 0 n σ ρ 0 [(0, .int a0)] []
  replace hC : Cx X cX12_isDigit RX12 0 := hC
  unfold MX12_isDigit at hM
  refine g_iload_n hC dX12_isDigit_0 rfl 0 rfl ?_
  refine g_bipush (v := 48) hC dX12_isDigit_1 rfl ib_48 ?_
  refine g_icmp_lt (tgt := 16) hC dX12_isDigit_3 rfl (by decide) hM (fun hM => ?_) (fun hM => ?_)
  · refine g_iconst (v := 0) hC dX12_isDigit_16 rfl ic_0 ?_
    exact g_retz hM dX12_isDigit_17 rfl (fun h => by cases h; exact hR)
  · refine g_iload_n hC dX12_isDigit_6 rfl 0 rfl ?_
    refine g_bipush (v := 57) hC dX12_isDigit_7 rfl ib_57 ?_
    refine g_icmp_gt (tgt := 16) hC dX12_isDigit_9 rfl (by decide) hM (fun hM => ?_) (fun hM => ?_)
    · refine g_iconst (v := 0) hC dX12_isDigit_16 rfl ic_0 ?_
      exact g_retz hM dX12_isDigit_17 rfl (fun h => by cases h; exact hR)
    · refine g_iconst (v := 1) hC dX12_isDigit_12 rfl ic_1 ?_
      refine g_goto (tgt := 17) hC dX12_isDigit_13 rfl (by decide) ?_
      exact g_retz hM dX12_isDigit_17 rfl (fun h => by cases h; exact hR)
def BX12_takes_26 (ρ : Rho) (a0 : Nat) (rec : Sto → Option (Sto)) (k39 : Sto → Option (Sto)) (σ : Sto) : Option (Sto) :=
  bn (su σ a0 15 (((σ a0 15) + (1 : Int32)))) fun σ1 =>
  rec σ1
set_option maxHeartbeats 4000000 in
set_option maxRecDepth 100000 in
theorem bX12_takes_26 {X : CX} {n : Nat} {ρ : Rho} {res : Sto} (hC : Cx X cX12_takes RX12 1) (hml : (xc X).maxLocals = 2) (hR : RtV X cX12_takes 0 0 n res ρ) (a0 : Nat) (h0 : Sh n a0 11) (rec : Sto → Option (Sto)) (ih : ∀ (σ : Sto), rec σ = some res → G X 0 0 n σ ρ 0 [(0, vr X a0)] []) (k39 : Sto → Option (Sto)) (hk39 : ∀ (σ : Sto), k39 σ = some res → G X 0 0 n σ ρ 39 [(0, vr X a0)] []) : ∀ (σ : Sto), BX12_takes_26 ρ a0 rec k39 σ = some res → G X 0 0 n σ ρ 26 [(0, vr X a0)] [] := by
  intro σ hM
  unfold BX12_takes_26 at hM
  refine g_aload_n hC dX12_takes_26 rfl 0 rfl ?_
  refine g_dup hC dX12_takes_27 rfl rfl ?_
  refine fg_11_15 hC h0 k_1097 dX12_takes_28 rfl ?_
  refine g_iconst (v := 1) hC dX12_takes_31 rfl ic_1 ?_
  refine g_iadd hC dX12_takes_32 rfl ?_
  refine fp_11_15 hC h0 k_1097 dX12_takes_33 rfl hM (fun σ1 hM => ?_)
  refine g_goto (tgt := 0) hC dX12_takes_36 rfl (by decide) ?_
  exact g_sub [0] (ih _ hM) rfl
def BX12_takes_139 (ρ : Rho) (a0 : Nat) (rec : Sto → Option (Sto)) (k155 : Sto → Option (Sto)) (σ : Sto) (t0 : Nat) (t1 : Int64) : Option (Sto) :=
  bn (su (su σ t0 18 (jlo t1)) t0 1018 (jhi t1)) fun σ1 =>
  bn (su σ1 a0 15 (((σ1 a0 15) + (1 : Int32)))) fun σ2 =>
  rec σ2
set_option maxHeartbeats 4000000 in
set_option maxRecDepth 100000 in
theorem bX12_takes_139 {X : CX} {n : Nat} {ρ : Rho} {res : Sto} (hC : Cx X cX12_takes RX12 1) (hml : (xc X).maxLocals = 2) (hR : RtV X cX12_takes 0 0 n res ρ) (a0 : Nat) (h0 : Sh n a0 11) (rec : Sto → Option (Sto)) (ih : ∀ (σ : Sto), rec σ = some res → G X 0 0 n σ ρ 80 [(0, vr X a0)] []) (k155 : Sto → Option (Sto)) (hk155 : ∀ (σ : Sto), k155 σ = some res → G X 0 0 n σ ρ 155 [(0, vr X a0)] []) : ∀ (σ : Sto) (t0 : Nat) (t1 : Int64) (ht0 : Sh n t0 11), BX12_takes_139 ρ a0 rec k155 σ t0 t1 = some res → G X 0 0 n σ ρ 139 [(0, vr X a0)] [.long t1, vr X t0] := by
  intro σ t0 t1 ht0 hM
  unfold BX12_takes_139 at hM
  refine fp_11_18 hC ht0 k_1100 dX12_takes_139 rfl hM (fun σ1 hM => ?_)
  refine g_aload_n hC dX12_takes_142 rfl 0 rfl ?_
  refine g_dup hC dX12_takes_143 rfl rfl ?_
  refine fg_11_15 hC h0 k_1097 dX12_takes_144 rfl ?_
  refine g_iconst (v := 1) hC dX12_takes_147 rfl ic_1 ?_
  refine g_iadd hC dX12_takes_148 rfl ?_
  refine fp_11_15 hC h0 k_1097 dX12_takes_149 rfl hM (fun σ2 hM => ?_)
  refine g_goto (tgt := 80) hC dX12_takes_152 rfl (by decide) ?_
  exact g_sub [0] (ih _ hM) rfl
def BX12_takes_155 (ρ : Rho) (a0 : Nat) (σ : Sto) : Option (Sto) :=
  bn (su σ a0 16 ((1 : Int32))) fun σ1 =>
  some σ1
set_option maxHeartbeats 4000000 in
set_option maxRecDepth 100000 in
theorem bX12_takes_155 {X : CX} {n : Nat} {ρ : Rho} {res : Sto} (hC : Cx X cX12_takes RX12 1) (hml : (xc X).maxLocals = 2) (hR : RtV X cX12_takes 0 0 n res ρ) (a0 : Nat) (h0 : Sh n a0 11) : ∀ (σ : Sto), BX12_takes_155 ρ a0 σ = some res → G X 0 0 n σ ρ 155 [(0, vr X a0)] [] := by
  intro σ hM
  unfold BX12_takes_155 at hM
  refine g_aload_n hC dX12_takes_155 rfl 0 rfl ?_
  refine g_iconst (v := 1) hC dX12_takes_156 rfl ic_1 ?_
  refine fp_11_16 hC h0 k_1098 dX12_takes_157 rfl hM (fun σ1 hM => ?_)
  refine g_goto (tgt := 305) hC dX12_takes_160 rfl (by decide) ?_
  cases hM
  exact g_retv hR dX12_takes_305 rfl
def FX12_takes_80 (ρ : Rho) (a0 : Nat) (k155 : Sto → Option (Sto)) (rec : Sto → Option (Sto)) (σ : Sto) : Option (Sto) :=
  Option.bind (MX12_byteAt σ ρ a0 ((σ a0 15))) fun c1 =>
  Option.bind (MX12_isLetter c1) fun c2 =>
  if c2 = 0 then
    k155 σ
  else
    if (9 : Int32) ≤ ((σ a0 15) - (σ a0 17)) then
      BX12_takes_139 ρ a0 rec k155 σ a0 ((-1 : Int64))
    else
      Option.bind (MX12_byteAt σ ρ a0 ((σ a0 15))) fun c3 =>
      BX12_takes_139 ρ a0 rec k155 σ a0 ((((((27 : Int64) * (jn (σ a0 18) (σ a0 1018))) + c3.toInt64) - (97 : Int64)) + (1 : Int64)))
set_option maxHeartbeats 4000000 in
set_option maxRecDepth 100000 in
theorem bX12_takes_80 {X : CX} {n : Nat} {ρ : Rho} {res : Sto} (hC : Cx X cX12_takes RX12 1) (hml : (xc X).maxLocals = 2) (hR : RtV X cX12_takes 0 0 n res ρ) (a0 : Nat) (h0 : Sh n a0 11) (k155 : Sto → Option (Sto)) (hk155 : ∀ (σ : Sto), k155 σ = some res → G X 0 0 n σ ρ 155 [(0, vr X a0)] []) (fu : Nat) : ∀ (σ : Sto), fixN (fun _ => none) (FX12_takes_80 ρ a0 k155) fu σ = some res → G X 0 0 n σ ρ 80 [(0, vr X a0)] [] := by
  refine fixN_ind (P := fun (f : Sto → Option (Sto)) => ∀ (σ : Sto), f σ = some res → G X 0 0 n σ ρ 80 [(0, vr X a0)] []) ?_ ?_ fu
  · intro σ hM; cases hM
  · intro rec ih σ hM
    unfold FX12_takes_80 at hM
    refine g_aload_n hC dX12_takes_80 rfl 0 rfl ?_
    refine g_aload_n hC dX12_takes_81 rfl 0 rfl ?_
    refine fg_11_15 hC h0 k_1097 dX12_takes_82 rfl ?_
    refine g_callVi (As := [.int ((σ a0 15))]) (st' := []) (k := a0) (L' := 0) hC Y_X12_byteAt I_X12_byteAt k_1463 ⟨by decide, by decide⟩ h0 (ci := 11) (by decide) rfl dX12_takes_85 rfl rfl rfl (Nat.le_of_ble_eq_true rfl) ⟨Nat.zero_le _, Nat.zero_le _⟩ hM (fun c hc => c_X12_byteAt (xE X) a0 h0 ((σ a0 15)) c hc) (fun c1 hM => ?_)
    refine g_callSi (As := [.int c1]) (st' := []) (L' := 0) hC Y_X12_isLetter k_1468 k_1467 ⟨by decide, by decide⟩ dX12_takes_88 rfl rfl rfl (Nat.le_of_ble_eq_true rfl) ⟨Nat.zero_le _, Nat.zero_le _⟩ hM (fun c hc => c_X12_isLetter (xE X) c1 c hc) (fun c2 hM => ?_)
    refine g_if_eq (tgt := 155) hC dX12_takes_91 rfl (by decide) hM (fun hM => ?_) (fun hM => ?_)
    · exact g_sub [0] (hk155 _ hM) rfl
    · refine g_aload_n hC dX12_takes_94 rfl 0 rfl ?_
      refine g_aload_n hC dX12_takes_95 rfl 0 rfl ?_
      refine fg_11_15 hC h0 k_1097 dX12_takes_96 rfl ?_
      refine g_aload_n hC dX12_takes_99 rfl 0 rfl ?_
      refine fg_11_17 hC h0 k_1099 dX12_takes_100 rfl ?_
      refine g_isub hC dX12_takes_103 rfl ?_
      refine g_bipush (v := 9) hC dX12_takes_104 rfl ib_9 ?_
      refine g_icmp_ge (tgt := 136) hC dX12_takes_106 rfl (by decide) hM (fun hM => ?_) (fun hM => ?_)
      · refine g_ldc2 hC k_1472 dX12_takes_136 rfl ?_
        exact g_sub [0] ((bX12_takes_139 hC hml hR a0 h0 rec ih k155 hk155) _ _ _ h0 hM) rfl
      · refine g_ldc2 hC k_1470 dX12_takes_109 rfl ?_
        refine g_aload_n hC dX12_takes_112 rfl 0 rfl ?_
        refine fg_11_18 hC h0 k_1100 dX12_takes_113 rfl ?_
        refine g_lmul hC dX12_takes_116 rfl ?_
        refine g_aload_n hC dX12_takes_117 rfl 0 rfl ?_
        refine g_aload_n hC dX12_takes_118 rfl 0 rfl ?_
        refine fg_11_15 hC h0 k_1097 dX12_takes_119 rfl ?_
        refine g_callVi (As := [.int ((σ a0 15))]) (st' := [.long (((27 : Int64) * (jn (σ a0 18) (σ a0 1018)))), vr X a0]) (k := a0) (L' := 0) hC Y_X12_byteAt I_X12_byteAt k_1463 ⟨by decide, by decide⟩ h0 (ci := 11) (by decide) rfl dX12_takes_122 rfl rfl rfl (Nat.le_of_ble_eq_true rfl) ⟨Nat.zero_le _, Nat.zero_le _⟩ hM (fun c hc => c_X12_byteAt (xE X) a0 h0 ((σ a0 15)) c hc) (fun c3 hM => ?_)
        refine g_i2l hC dX12_takes_125 rfl ?_
        refine g_ladd hC dX12_takes_126 rfl ?_
        refine g_ldc2 hC k_1471 dX12_takes_127 rfl ?_
        refine g_lsub hC dX12_takes_130 rfl ?_
        refine g_lconst (v := 1) hC dX12_takes_131 rfl rfl ?_
        refine g_ladd hC dX12_takes_132 rfl ?_
        refine g_goto (tgt := 139) hC dX12_takes_133 rfl (by decide) ?_
        exact g_sub [0] ((bX12_takes_139 hC hml hR a0 h0 rec ih k155 hk155) _ _ _ h0 hM) rfl
def BX12_takes_227 (ρ : Rho) (a0 : Nat) (rec : Sto → Option (Sto)) (k243 : Sto → Option (Sto)) (σ : Sto) (t0 : Nat) (t1 : Int64) : Option (Sto) :=
  bn (su (su σ t0 18 (jlo t1)) t0 1018 (jhi t1)) fun σ1 =>
  bn (su σ1 a0 15 (((σ1 a0 15) + (1 : Int32)))) fun σ2 =>
  rec σ2
set_option maxHeartbeats 4000000 in
set_option maxRecDepth 100000 in
theorem bX12_takes_227 {X : CX} {n : Nat} {ρ : Rho} {res : Sto} (hC : Cx X cX12_takes RX12 1) (hml : (xc X).maxLocals = 2) (hR : RtV X cX12_takes 0 0 n res ρ) (a0 : Nat) (h0 : Sh n a0 11) (rec : Sto → Option (Sto)) (ih : ∀ (σ : Sto), rec σ = some res → G X 0 0 n σ ρ 170 [(0, vr X a0)] []) (k243 : Sto → Option (Sto)) (hk243 : ∀ (σ : Sto), k243 σ = some res → G X 0 0 n σ ρ 243 [(0, vr X a0)] []) : ∀ (σ : Sto) (t0 : Nat) (t1 : Int64) (ht0 : Sh n t0 11), BX12_takes_227 ρ a0 rec k243 σ t0 t1 = some res → G X 0 0 n σ ρ 227 [(0, vr X a0)] [.long t1, vr X t0] := by
  intro σ t0 t1 ht0 hM
  unfold BX12_takes_227 at hM
  refine fp_11_18 hC ht0 k_1100 dX12_takes_227 rfl hM (fun σ1 hM => ?_)
  refine g_aload_n hC dX12_takes_230 rfl 0 rfl ?_
  refine g_dup hC dX12_takes_231 rfl rfl ?_
  refine fg_11_15 hC h0 k_1097 dX12_takes_232 rfl ?_
  refine g_iconst (v := 1) hC dX12_takes_235 rfl ic_1 ?_
  refine g_iadd hC dX12_takes_236 rfl ?_
  refine fp_11_15 hC h0 k_1097 dX12_takes_237 rfl hM (fun σ2 hM => ?_)
  refine g_goto (tgt := 170) hC dX12_takes_240 rfl (by decide) ?_
  exact g_sub [0] (ih _ hM) rfl
def BX12_takes_262 (ρ : Rho) (a0 : Nat) (σ : Sto) (t0 : Nat) (t1 : Int32) : Option (Sto) :=
  bn (su σ t0 16 t1) fun σ1 =>
  some σ1
set_option maxHeartbeats 4000000 in
set_option maxRecDepth 100000 in
theorem bX12_takes_262 {X : CX} {n : Nat} {ρ : Rho} {res : Sto} (hC : Cx X cX12_takes RX12 1) (hml : (xc X).maxLocals = 2) (hR : RtV X cX12_takes 0 0 n res ρ) (a0 : Nat) (h0 : Sh n a0 11) : ∀ (σ : Sto) (t0 : Nat) (t1 : Int32) (ht0 : Sh n t0 11), BX12_takes_262 ρ a0 σ t0 t1 = some res → G X 0 0 n σ ρ 262 [(0, vr X a0)] [.int t1, vr X t0] := by
  intro σ t0 t1 ht0 hM
  unfold BX12_takes_262 at hM
  refine fp_11_16 hC ht0 k_1098 dX12_takes_262 rfl hM (fun σ1 hM => ?_)
  refine g_goto (tgt := 305) hC dX12_takes_265 rfl (by decide) ?_
  cases hM
  exact g_retv hR dX12_takes_305 rfl
def BX12_takes_243 (ρ : Rho) (a0 : Nat) (σ : Sto) : Option (Sto) :=
  if ((σ a0 15) - (σ a0 17)) ≤ (3 : Int32) then
    BX12_takes_262 ρ a0 σ a0 ((2 : Int32))
  else
    BX12_takes_262 ρ a0 σ a0 ((4 : Int32))
set_option maxHeartbeats 4000000 in
set_option maxRecDepth 100000 in
theorem bX12_takes_243 {X : CX} {n : Nat} {ρ : Rho} {res : Sto} (hC : Cx X cX12_takes RX12 1) (hml : (xc X).maxLocals = 2) (hR : RtV X cX12_takes 0 0 n res ρ) (a0 : Nat) (h0 : Sh n a0 11) : ∀ (σ : Sto), BX12_takes_243 ρ a0 σ = some res → G X 0 0 n σ ρ 243 [(0, vr X a0)] [] := by
  intro σ hM
  unfold BX12_takes_243 at hM
  refine g_aload_n hC dX12_takes_243 rfl 0 rfl ?_
  refine g_aload_n hC dX12_takes_244 rfl 0 rfl ?_
  refine fg_11_15 hC h0 k_1097 dX12_takes_245 rfl ?_
  refine g_aload_n hC dX12_takes_248 rfl 0 rfl ?_
  refine fg_11_17 hC h0 k_1099 dX12_takes_249 rfl ?_
  refine g_isub hC dX12_takes_252 rfl ?_
  refine g_iconst (v := 3) hC dX12_takes_253 rfl ic_3 ?_
  refine g_icmp_le (tgt := 261) hC dX12_takes_254 rfl (by decide) hM (fun hM => ?_) (fun hM => ?_)
  · refine g_iconst (v := 2) hC dX12_takes_261 rfl ic_2 ?_
    exact g_sub [0] ((bX12_takes_262 hC hml hR a0 h0 ) _ _ _ h0 hM) rfl
  · refine g_iconst (v := 4) hC dX12_takes_257 rfl ic_4 ?_
    refine g_goto (tgt := 262) hC dX12_takes_258 rfl (by decide) ?_
    exact g_sub [0] ((bX12_takes_262 hC hml hR a0 h0 ) _ _ _ h0 hM) rfl
def FX12_takes_170 (ρ : Rho) (a0 : Nat) (k243 : Sto → Option (Sto)) (rec : Sto → Option (Sto)) (σ : Sto) : Option (Sto) :=
  Option.bind (MX12_byteAt σ ρ a0 ((σ a0 15))) fun c1 =>
  Option.bind (MX12_isDigit c1) fun c2 =>
  if c2 = 0 then
    k243 σ
  else
    if (3 : Int32) ≤ ((σ a0 15) - (σ a0 17)) then
      BX12_takes_227 ρ a0 rec k243 σ a0 ((jn (σ a0 18) (σ a0 1018)))
    else
      Option.bind (MX12_byteAt σ ρ a0 ((σ a0 15))) fun c3 =>
      BX12_takes_227 ρ a0 rec k243 σ a0 (((((10 : Int64) * (jn (σ a0 18) (σ a0 1018))) + c3.toInt64) - (48 : Int64)))
set_option maxHeartbeats 4000000 in
set_option maxRecDepth 100000 in
theorem bX12_takes_170 {X : CX} {n : Nat} {ρ : Rho} {res : Sto} (hC : Cx X cX12_takes RX12 1) (hml : (xc X).maxLocals = 2) (hR : RtV X cX12_takes 0 0 n res ρ) (a0 : Nat) (h0 : Sh n a0 11) (k243 : Sto → Option (Sto)) (hk243 : ∀ (σ : Sto), k243 σ = some res → G X 0 0 n σ ρ 243 [(0, vr X a0)] []) (fu : Nat) : ∀ (σ : Sto), fixN (fun _ => none) (FX12_takes_170 ρ a0 k243) fu σ = some res → G X 0 0 n σ ρ 170 [(0, vr X a0)] [] := by
  refine fixN_ind (P := fun (f : Sto → Option (Sto)) => ∀ (σ : Sto), f σ = some res → G X 0 0 n σ ρ 170 [(0, vr X a0)] []) ?_ ?_ fu
  · intro σ hM; cases hM
  · intro rec ih σ hM
    unfold FX12_takes_170 at hM
    refine g_aload_n hC dX12_takes_170 rfl 0 rfl ?_
    refine g_aload_n hC dX12_takes_171 rfl 0 rfl ?_
    refine fg_11_15 hC h0 k_1097 dX12_takes_172 rfl ?_
    refine g_callVi (As := [.int ((σ a0 15))]) (st' := []) (k := a0) (L' := 0) hC Y_X12_byteAt I_X12_byteAt k_1463 ⟨by decide, by decide⟩ h0 (ci := 11) (by decide) rfl dX12_takes_175 rfl rfl rfl (Nat.le_of_ble_eq_true rfl) ⟨Nat.zero_le _, Nat.zero_le _⟩ hM (fun c hc => c_X12_byteAt (xE X) a0 h0 ((σ a0 15)) c hc) (fun c1 hM => ?_)
    refine g_callSi (As := [.int c1]) (st' := []) (L' := 0) hC Y_X12_isDigit k_1474 k_1473 ⟨by decide, by decide⟩ dX12_takes_178 rfl rfl rfl (Nat.le_of_ble_eq_true rfl) ⟨Nat.zero_le _, Nat.zero_le _⟩ hM (fun c hc => c_X12_isDigit (xE X) c1 c hc) (fun c2 hM => ?_)
    refine g_if_eq (tgt := 243) hC dX12_takes_181 rfl (by decide) hM (fun hM => ?_) (fun hM => ?_)
    · exact g_sub [0] (hk243 _ hM) rfl
    · refine g_aload_n hC dX12_takes_184 rfl 0 rfl ?_
      refine g_aload_n hC dX12_takes_185 rfl 0 rfl ?_
      refine fg_11_15 hC h0 k_1097 dX12_takes_186 rfl ?_
      refine g_aload_n hC dX12_takes_189 rfl 0 rfl ?_
      refine fg_11_17 hC h0 k_1099 dX12_takes_190 rfl ?_
      refine g_isub hC dX12_takes_193 rfl ?_
      refine g_iconst (v := 3) hC dX12_takes_194 rfl ic_3 ?_
      refine g_icmp_ge (tgt := 223) hC dX12_takes_195 rfl (by decide) hM (fun hM => ?_) (fun hM => ?_)
      · refine g_aload_n hC dX12_takes_223 rfl 0 rfl ?_
        refine fg_11_18 hC h0 k_1100 dX12_takes_224 rfl ?_
        exact g_sub [0] ((bX12_takes_227 hC hml hR a0 h0 rec ih k243 hk243) _ _ _ h0 hM) rfl
      · refine g_ldc2 hC k_1476 dX12_takes_198 rfl ?_
        refine g_aload_n hC dX12_takes_201 rfl 0 rfl ?_
        refine fg_11_18 hC h0 k_1100 dX12_takes_202 rfl ?_
        refine g_lmul hC dX12_takes_205 rfl ?_
        refine g_aload_n hC dX12_takes_206 rfl 0 rfl ?_
        refine g_aload_n hC dX12_takes_207 rfl 0 rfl ?_
        refine fg_11_15 hC h0 k_1097 dX12_takes_208 rfl ?_
        refine g_callVi (As := [.int ((σ a0 15))]) (st' := [.long (((10 : Int64) * (jn (σ a0 18) (σ a0 1018)))), vr X a0]) (k := a0) (L' := 0) hC Y_X12_byteAt I_X12_byteAt k_1463 ⟨by decide, by decide⟩ h0 (ci := 11) (by decide) rfl dX12_takes_211 rfl rfl rfl (Nat.le_of_ble_eq_true rfl) ⟨Nat.zero_le _, Nat.zero_le _⟩ hM (fun c hc => c_X12_byteAt (xE X) a0 h0 ((σ a0 15)) c hc) (fun c3 hM => ?_)
        refine g_i2l hC dX12_takes_214 rfl ?_
        refine g_ladd hC dX12_takes_215 rfl ?_
        refine g_ldc2 hC k_1477 dX12_takes_216 rfl ?_
        refine g_lsub hC dX12_takes_219 rfl ?_
        refine g_goto (tgt := 227) hC dX12_takes_220 rfl (by decide) ?_
        exact g_sub [0] ((bX12_takes_227 hC hml hR a0 h0 rec ih k243 hk243) _ _ _ h0 hM) rfl
def BX12_takes_302 (ρ : Rho) (a0 : Nat) (σ : Sto) (t0 : Nat) (t1 : Int32) : Option (Sto) :=
  bn (su σ t0 16 t1) fun σ1 =>
  some σ1
set_option maxHeartbeats 4000000 in
set_option maxRecDepth 100000 in
theorem bX12_takes_302 {X : CX} {n : Nat} {ρ : Rho} {res : Sto} (hC : Cx X cX12_takes RX12 1) (hml : (xc X).maxLocals = 2) (hR : RtV X cX12_takes 0 0 n res ρ) (a0 : Nat) (h0 : Sh n a0 11) : ∀ (σ : Sto) (t0 : Nat) (t1 : Int32) (ht0 : Sh n t0 11), BX12_takes_302 ρ a0 σ t0 t1 = some res → G X 0 0 n σ ρ 302 [(0, vr X a0)] [.int t1, vr X t0] := by
  intro σ t0 t1 ht0 hM
  unfold BX12_takes_302 at hM
  refine fp_11_16 hC ht0 k_1098 dX12_takes_302 rfl hM (fun σ1 hM => ?_)
  cases hM
  exact g_retv hR dX12_takes_305 rfl
def BX12_takes_297 (ρ : Rho) (a0 : Nat) (σ : Sto) (t0 : Nat) : Option (Sto) :=
  BX12_takes_302 ρ a0 σ t0 ((3 : Int32))
set_option maxHeartbeats 4000000 in
set_option maxRecDepth 100000 in
theorem bX12_takes_297 {X : CX} {n : Nat} {ρ : Rho} {res : Sto} (hC : Cx X cX12_takes RX12 1) (hml : (xc X).maxLocals = 2) (hR : RtV X cX12_takes 0 0 n res ρ) (a0 : Nat) (h0 : Sh n a0 11) : ∀ (σ : Sto) (t0 : Nat) (ht0 : Sh n t0 11), BX12_takes_297 ρ a0 σ t0 = some res → G X 0 0 n σ ρ 297 [(0, vr X a0)] [vr X t0] := by
  intro σ t0 ht0 hM
  unfold BX12_takes_297 at hM
  refine g_iconst (v := 3) hC dX12_takes_297 rfl ic_3 ?_
  refine g_goto (tgt := 302) hC dX12_takes_298 rfl (by decide) ?_
  exact g_sub [0] ((bX12_takes_302 hC hml hR a0 h0 ) _ _ _ ht0 hM) rfl
def BX12_takes_39 (ρ : Rho) (a0 : Nat) (σ : Sto) : Option (Sto) :=
  bn (su σ a0 17 ((σ a0 15))) fun σ1 =>
  Option.bind (MX12_byteAt σ1 ρ a0 ((σ1 a0 15))) fun c2 =>
  bn c2 fun y3 =>
  bn (su (su σ1 a0 18 (jlo ((0 : Int64)))) a0 1018 (jhi ((0 : Int64)))) fun σ4 =>
  if 0 ≤ y3 then
    Option.bind (MX12_isLetter y3) fun c5 =>
    if c5 = 0 then
      Option.bind (MX12_isDigit y3) fun c6 =>
      if c6 = 0 then
        bn (su σ4 a0 15 (((σ4 a0 15) + (1 : Int32)))) fun σ7 =>
        bn (su (su σ7 a0 18 (jlo y3.toInt64)) a0 1018 (jhi y3.toInt64)) fun σ8 =>
        if y3 = (59 : Int32) then
          BX12_takes_297 ρ a0 σ8 a0
        else
          if y3 = (45 : Int32) then
            BX12_takes_297 ρ a0 σ8 a0
          else
            BX12_takes_302 ρ a0 σ8 a0 ((4 : Int32))
      else
        fixN (fun _ => none) (FX12_takes_170 ρ a0 (BX12_takes_243 ρ a0)) FU σ4
    else
      fixN (fun _ => none) (FX12_takes_80 ρ a0 (BX12_takes_155 ρ a0)) FU σ4
  else
    bn (su σ4 a0 16 ((0 : Int32))) fun σ9 =>
    some σ9
set_option maxHeartbeats 4000000 in
set_option maxRecDepth 100000 in
theorem bX12_takes_39 {X : CX} {n : Nat} {ρ : Rho} {res : Sto} (hC : Cx X cX12_takes RX12 1) (hml : (xc X).maxLocals = 2) (hR : RtV X cX12_takes 0 0 n res ρ) (a0 : Nat) (h0 : Sh n a0 11) : ∀ (σ : Sto), BX12_takes_39 ρ a0 σ = some res → G X 0 0 n σ ρ 39 [(0, vr X a0)] [] := by
  intro σ hM
  unfold BX12_takes_39 at hM
  refine g_aload_n hC dX12_takes_39 rfl 0 rfl ?_
  refine g_aload_n hC dX12_takes_40 rfl 0 rfl ?_
  refine fg_11_15 hC h0 k_1097 dX12_takes_41 rfl ?_
  refine fp_11_17 hC h0 k_1099 dX12_takes_44 rfl hM (fun σ1 hM => ?_)
  refine g_aload_n hC dX12_takes_47 rfl 0 rfl ?_
  refine g_aload_n hC dX12_takes_48 rfl 0 rfl ?_
  refine fg_11_15 hC h0 k_1097 dX12_takes_49 rfl ?_
  refine g_callVi (As := [.int ((σ1 a0 15))]) (st' := []) (k := a0) (L' := 0) hC Y_X12_byteAt I_X12_byteAt k_1463 ⟨by decide, by decide⟩ h0 (ci := 11) (by decide) rfl dX12_takes_52 rfl rfl rfl (Nat.le_of_ble_eq_true rfl) ⟨Nat.zero_le _, Nat.zero_le _⟩ hM (fun c hc => c_X12_byteAt (xE X) a0 h0 ((σ1 a0 15)) c hc) (fun c2 hM => ?_)
  refine g_istore_n hC (fun y3 => [(1, .int y3), (0, vr X a0)]) dX12_takes_55 rfl hM hml (by decide) (fun _ => rfl) (fun y3 hM => ?_)
  refine g_aload_n hC dX12_takes_56 rfl 1 rfl ?_
  refine g_lconst (v := 0) hC dX12_takes_57 rfl rfl ?_
  refine fp_11_18 hC h0 k_1100 dX12_takes_58 rfl hM (fun σ4 hM => ?_)
  refine g_iload_n hC dX12_takes_61 rfl 0 rfl ?_
  refine g_if_ge (tgt := 73) hC dX12_takes_62 rfl (by decide) hM (fun hM => ?_) (fun hM => ?_)
  · refine g_iload_n hC dX12_takes_73 rfl 0 rfl ?_
    refine g_callSi (As := [.int y3]) (st' := []) (L' := 0) hC Y_X12_isLetter k_1468 k_1467 ⟨by decide, by decide⟩ dX12_takes_74 rfl rfl rfl (Nat.le_of_ble_eq_true rfl) ⟨Nat.zero_le _, Nat.zero_le _⟩ hM (fun c hc => c_X12_isLetter (xE X) y3 c hc) (fun c5 hM => ?_)
    refine g_if_eq (tgt := 163) hC dX12_takes_77 rfl (by decide) hM (fun hM => ?_) (fun hM => ?_)
    · refine g_iload_n hC dX12_takes_163 rfl 0 rfl ?_
      refine g_callSi (As := [.int y3]) (st' := []) (L' := 0) hC Y_X12_isDigit k_1474 k_1473 ⟨by decide, by decide⟩ dX12_takes_164 rfl rfl rfl (Nat.le_of_ble_eq_true rfl) ⟨Nat.zero_le _, Nat.zero_le _⟩ hM (fun c hc => c_X12_isDigit (xE X) y3 c hc) (fun c6 hM => ?_)
      refine g_if_eq (tgt := 268) hC dX12_takes_167 rfl (by decide) hM (fun hM => ?_) (fun hM => ?_)
      · refine g_aload_n hC dX12_takes_268 rfl 1 rfl ?_
        refine g_dup hC dX12_takes_269 rfl rfl ?_
        refine fg_11_15 hC h0 k_1097 dX12_takes_270 rfl ?_
        refine g_iconst (v := 1) hC dX12_takes_273 rfl ic_1 ?_
        refine g_iadd hC dX12_takes_274 rfl ?_
        refine fp_11_15 hC h0 k_1097 dX12_takes_275 rfl hM (fun σ7 hM => ?_)
        refine g_aload_n hC dX12_takes_278 rfl 1 rfl ?_
        refine g_iload_n hC dX12_takes_279 rfl 0 rfl ?_
        refine g_i2l hC dX12_takes_280 rfl ?_
        refine fp_11_18 hC h0 k_1100 dX12_takes_281 rfl hM (fun σ8 hM => ?_)
        refine g_aload_n hC dX12_takes_284 rfl 1 rfl ?_
        refine g_iload_n hC dX12_takes_285 rfl 0 rfl ?_
        refine g_bipush (v := 59) hC dX12_takes_286 rfl ib_59 ?_
        refine g_icmp_eq (tgt := 297) hC dX12_takes_288 rfl (by decide) hM (fun hM => ?_) (fun hM => ?_)
        · exact g_sub [1] ((bX12_takes_297 hC hml hR a0 h0 ) _ _ h0 hM) rfl
        · refine g_iload_n hC dX12_takes_291 rfl 0 rfl ?_
          refine g_bipush (v := 45) hC dX12_takes_292 rfl ib_45 ?_
          refine g_icmp_ne (tgt := 301) hC dX12_takes_294 rfl (by decide) hM (fun hM => ?_) (fun hM => ?_)
          · refine g_iconst (v := 4) hC dX12_takes_301 rfl ic_4 ?_
            exact g_sub [1] ((bX12_takes_302 hC hml hR a0 h0 ) _ _ _ h0 hM) rfl
          · exact g_sub [1] ((bX12_takes_297 hC hml hR a0 h0 ) _ _ h0 hM) rfl
      · exact g_sub [1] ((bX12_takes_170 hC hml hR a0 h0 (BX12_takes_243 ρ a0) (bX12_takes_243 hC hml hR a0 h0 ) FU) _ hM) rfl
    · exact g_sub [1] ((bX12_takes_80 hC hml hR a0 h0 (BX12_takes_155 ρ a0) (bX12_takes_155 hC hml hR a0 h0 ) FU) _ hM) rfl
  · refine g_aload_n hC dX12_takes_65 rfl 1 rfl ?_
    refine g_iconst (v := 0) hC dX12_takes_66 rfl ic_0 ?_
    refine fp_11_16 hC h0 k_1098 dX12_takes_67 rfl hM (fun σ9 hM => ?_)
    refine g_goto (tgt := 305) hC dX12_takes_70 rfl (by decide) ?_
    cases hM
    exact g_retv hR dX12_takes_305 rfl
def FX12_takes_0 (ρ : Rho) (a0 : Nat) (k39 : Sto → Option (Sto)) (rec : Sto → Option (Sto)) (σ : Sto) : Option (Sto) :=
  Option.bind (MX12_byteAt σ ρ a0 ((σ a0 15))) fun c1 =>
  if c1 = (32 : Int32) then
    BX12_takes_26 ρ a0 rec k39 σ
  else
    Option.bind (MX12_byteAt σ ρ a0 ((σ a0 15))) fun c2 =>
    if c2 = (10 : Int32) then
      BX12_takes_26 ρ a0 rec k39 σ
    else
      k39 σ
set_option maxHeartbeats 4000000 in
set_option maxRecDepth 100000 in
theorem bX12_takes_0 {X : CX} {n : Nat} {ρ : Rho} {res : Sto} (hC : Cx X cX12_takes RX12 1) (hml : (xc X).maxLocals = 2) (hR : RtV X cX12_takes 0 0 n res ρ) (a0 : Nat) (h0 : Sh n a0 11) (k39 : Sto → Option (Sto)) (hk39 : ∀ (σ : Sto), k39 σ = some res → G X 0 0 n σ ρ 39 [(0, vr X a0)] []) (fu : Nat) : ∀ (σ : Sto), fixN (fun _ => none) (FX12_takes_0 ρ a0 k39) fu σ = some res → G X 0 0 n σ ρ 0 [(0, vr X a0)] [] := by
  refine fixN_ind (P := fun (f : Sto → Option (Sto)) => ∀ (σ : Sto), f σ = some res → G X 0 0 n σ ρ 0 [(0, vr X a0)] []) ?_ ?_ fu
  · intro σ hM; cases hM
  · intro rec ih σ hM
    unfold FX12_takes_0 at hM
    refine g_aload_n hC dX12_takes_0 rfl 0 rfl ?_
    refine g_aload_n hC dX12_takes_1 rfl 0 rfl ?_
    refine fg_11_15 hC h0 k_1097 dX12_takes_2 rfl ?_
    refine g_callVi (As := [.int ((σ a0 15))]) (st' := []) (k := a0) (L' := 0) hC Y_X12_byteAt I_X12_byteAt k_1463 ⟨by decide, by decide⟩ h0 (ci := 11) (by decide) rfl dX12_takes_5 rfl rfl rfl (Nat.le_of_ble_eq_true rfl) ⟨Nat.zero_le _, Nat.zero_le _⟩ hM (fun c hc => c_X12_byteAt (xE X) a0 h0 ((σ a0 15)) c hc) (fun c1 hM => ?_)
    refine g_bipush (v := 32) hC dX12_takes_8 rfl ib_32 ?_
    refine g_icmp_eq (tgt := 26) hC dX12_takes_10 rfl (by decide) hM (fun hM => ?_) (fun hM => ?_)
    · exact g_sub [0] ((bX12_takes_26 hC hml hR a0 h0 rec ih k39 hk39) _ hM) rfl
    · refine g_aload_n hC dX12_takes_13 rfl 0 rfl ?_
      refine g_aload_n hC dX12_takes_14 rfl 0 rfl ?_
      refine fg_11_15 hC h0 k_1097 dX12_takes_15 rfl ?_
      refine g_callVi (As := [.int ((σ a0 15))]) (st' := []) (k := a0) (L' := 0) hC Y_X12_byteAt I_X12_byteAt k_1463 ⟨by decide, by decide⟩ h0 (ci := 11) (by decide) rfl dX12_takes_18 rfl rfl rfl (Nat.le_of_ble_eq_true rfl) ⟨Nat.zero_le _, Nat.zero_le _⟩ hM (fun c hc => c_X12_byteAt (xE X) a0 h0 ((σ a0 15)) c hc) (fun c2 hM => ?_)
      refine g_bipush (v := 10) hC dX12_takes_21 rfl ib_10 ?_
      refine g_icmp_ne (tgt := 39) hC dX12_takes_23 rfl (by decide) hM (fun hM => ?_) (fun hM => ?_)
      · exact g_sub [0] (hk39 _ hM) rfl
      · exact g_sub [0] ((bX12_takes_26 hC hml hR a0 h0 rec ih k39 hk39) _ hM) rfl
def MX12_takes (σ : Sto) (ρ : Rho) (a0 : Nat) : Option (Sto) :=
  fixN (fun _ => none) (FX12_takes_0 ρ a0 (BX12_takes_39 ρ a0)) FU σ
set_option maxHeartbeats 4000000 in
set_option maxRecDepth 100000 in
theorem c_X12_takes (E : EX) {n : Nat} {σ : Sto} {ρ : Rho} (a0 : Nat) (h0 : Sh n a0 11) (res : Sto) (hM : MX12_takes σ ρ a0 = some res) : CTv E yX12_takes cX12_takes 2 1 0 0 [.ref (eb E + a0)] n σ ρ res ρ := by
  refine ct_v (by decide +kernel) (Nat.le_of_ble_eq_true rfl) (fun X hE hml hin hRm hC hR => ?_)
  subst hE
  show G X 0 0 n σ ρ 0 [(0, vr X a0)] []
  replace hC : Cx X cX12_takes RX12 1 := hC
  unfold MX12_takes at hM
  exact g_sub [0] ((bX12_takes_0 hC hml hR a0 h0 (BX12_takes_39 ρ a0) (bX12_takes_39 hC hml hR a0 h0 ) FU) _ hM) rfl
def MX12_fails (σ : Sto) (a0 : Nat) (a1 : Int32) (a2 : Int32) : Option (Sto) :=
  if (σ a0 4) ≤ 0 then
    bn (su σ a0 4 a1) fun σ1 =>
    bn (su σ1 a0 5 a2) fun σ2 =>
    some σ2
  else
    some σ
set_option maxHeartbeats 4000000 in
set_option maxRecDepth 100000 in
theorem c_X12_fails (E : EX) {n : Nat} {ρ : Rho} {σ : Sto} (a0 : Nat) (h0 : Sh n a0 11) (a1 : Int32) (a2 : Int32) (res : Sto) (hM : MX12_fails σ a0 a1 a2 = some res) : CTv E yX12_fails cX12_fails 3 0 0 0 [.ref (eb E + a0), .int a1, .int a2] n σ ρ res ρ := by
  refine ct_v (by decide +kernel) (Nat.le_of_ble_eq_true rfl) (fun X hE hml hin hRm hC hR => ?_)
  subst hE
  show G X 0 0 n σ ρ 0 [(0, vr X a0), (1, .int a1), (2, .int a2)] []
  replace hC : Cx X cX12_fails RX12 0 := hC
  unfold MX12_fails at hM
  refine g_aload_n hC dX12_fails_0 rfl 0 rfl ?_
  refine fg_11_4 hC h0 k_1086 dX12_fails_1 rfl ?_
  refine g_if_le (tgt := 8) hC dX12_fails_4 rfl (by decide) hM (fun hM => ?_) (fun hM => ?_)
  · refine g_aload_n hC dX12_fails_8 rfl 0 rfl ?_
    refine g_iload_n hC dX12_fails_9 rfl 1 rfl ?_
    refine fp_11_4 hC h0 k_1086 dX12_fails_10 rfl hM (fun σ1 hM => ?_)
    refine g_aload_n hC dX12_fails_13 rfl 0 rfl ?_
    refine g_iload_n hC dX12_fails_14 rfl 2 rfl ?_
    refine fp_11_5 hC h0 k_1087 dX12_fails_15 rfl hM (fun σ2 hM => ?_)
    cases hM
    exact g_retv hR dX12_fails_18 rfl
  · cases hM
    exact g_retv hR dX12_fails_7 rfl
def MX12_isGood (σ : Sto) (a0 : Nat) : Option (Int32) :=
  if (σ a0 4) = 0 then
    zr ((1 : Int32)) (some (1 : Int32))
  else
    zr ((0 : Int32)) (some (0 : Int32))
set_option maxHeartbeats 4000000 in
set_option maxRecDepth 100000 in
theorem c_X12_isGood (E : EX) {n : Nat} {ρ : Rho} {σ : Sto} (a0 : Nat) (h0 : Sh n a0 11) (res : Int32) (hM : MX12_isGood σ a0 = some res) : CTi E yX12_isGood cX12_isGood 1 (some .boolean) 0 [.ref (eb E + a0)] n σ ρ res σ ρ := by
  refine ct_i (by decide +kernel) rfl (Nat.le_of_ble_eq_true rfl) (fun X hE hml hC hR => ?_)
  subst hE
  show G X 0 0 n σ ρ 0 [(0, vr X a0)] []
  replace hC : Cx X cX12_isGood RX12 0 := hC
  unfold MX12_isGood at hM
  refine g_aload_n hC dX12_isGood_0 rfl 0 rfl ?_
  refine fg_11_4 hC h0 k_1086 dX12_isGood_1 rfl ?_
  refine g_if_ne (tgt := 11) hC dX12_isGood_4 rfl (by decide) hM (fun hM => ?_) (fun hM => ?_)
  · refine g_iconst (v := 0) hC dX12_isGood_11 rfl ic_0 ?_
    exact g_retz hM dX12_isGood_12 rfl (fun h => by cases h; exact hR)
  · refine g_iconst (v := 1) hC dX12_isGood_7 rfl ic_1 ?_
    refine g_goto (tgt := 12) hC dX12_isGood_8 rfl (by decide) ?_
    exact g_retz hM dX12_isGood_12 rfl (fun h => by cases h; exact hR)
def BX12_hasWord_29 (ρ : Rho) (a0 : Nat) (a1 : Int64) (σ : Sto) (t0 : Int32) : Option (Int32 × Sto) :=
  bn t0 fun y1 =>
  if y1 = 0 then
    zr y1 (some (y1, σ))
  else
    Option.bind (MX12_takes σ ρ a0) fun c2 =>
    zr y1 (some (y1, c2))
set_option maxHeartbeats 4000000 in
set_option maxRecDepth 100000 in
theorem bX12_hasWord_29 {X : CX} {n : Nat} {ρ : Rho} {res : Int32 × Sto} (hC : Cx X cX12_hasWord RX12 2) (hml : (xc X).maxLocals = 4) (hR : RtT (some .boolean) X cX12_hasWord n res.1 res.2 ρ) (a0 : Nat) (a1 : Int64) (h0 : Sh n a0 11) : ∀ (σ : Sto) (t0 : Int32), BX12_hasWord_29 ρ a0 a1 σ t0 = some res → G X 0 0 n σ ρ 29 [(0, vr X a0), (1, .long a1)] [.int t0] := by
  intro σ t0 hM
  unfold BX12_hasWord_29 at hM
  refine g_istore_n hC (fun y1 => [(3, .int y1), (0, vr X a0), (1, .long a1)]) dX12_hasWord_29 rfl hM hml (by decide) (fun _ => rfl) (fun y1 hM => ?_)
  refine g_iload_n hC dX12_hasWord_30 rfl 0 rfl ?_
  refine g_if_eq (tgt := 38) hC dX12_hasWord_31 rfl (by decide) hM (fun hM => ?_) (fun hM => ?_)
  · refine g_iload_n hC dX12_hasWord_38 rfl 0 rfl ?_
    exact g_retz hM dX12_hasWord_39 rfl (fun h => by cases h; exact hR)
  · refine g_aload_n hC dX12_hasWord_34 rfl 1 rfl ?_
    refine g_callVv0 (As := []) (st' := []) (k := a0) (L' := 1) hC Y_X12_takes I_X12_takes k_1459 ⟨by decide, by decide⟩ h0 (ci := 11) (by decide) rfl dX12_hasWord_35 rfl rfl rfl (Nat.le_of_ble_eq_true rfl) ⟨Nat.zero_le _, Nat.zero_le _⟩ hM (fun c hc => c_X12_takes (xE X) a0 h0 c hc) (fun c2 hM => ?_)
    refine g_iload_n hC dX12_hasWord_38 rfl 0 rfl ?_
    exact g_retz hM dX12_hasWord_39 rfl (fun h => by cases h; exact hR)
def BX12_hasWord_28 (ρ : Rho) (a0 : Nat) (a1 : Int64) (σ : Sto) : Option (Int32 × Sto) :=
  BX12_hasWord_29 ρ a0 a1 σ ((0 : Int32))
set_option maxHeartbeats 4000000 in
set_option maxRecDepth 100000 in
theorem bX12_hasWord_28 {X : CX} {n : Nat} {ρ : Rho} {res : Int32 × Sto} (hC : Cx X cX12_hasWord RX12 2) (hml : (xc X).maxLocals = 4) (hR : RtT (some .boolean) X cX12_hasWord n res.1 res.2 ρ) (a0 : Nat) (a1 : Int64) (h0 : Sh n a0 11) : ∀ (σ : Sto), BX12_hasWord_28 ρ a0 a1 σ = some res → G X 0 0 n σ ρ 28 [(0, vr X a0), (1, .long a1)] [] := by
  intro σ hM
  unfold BX12_hasWord_28 at hM
  refine g_iconst (v := 0) hC dX12_hasWord_28 rfl ic_0 ?_
  exact g_sub [0, 1] ((bX12_hasWord_29 hC hml hR a0 a1 h0 ) _ _ hM) rfl
def MX12_hasWord (σ : Sto) (ρ : Rho) (a0 : Nat) (a1 : Int64) : Option (Int32 × Sto) :=
  Option.bind (MX12_isGood σ a0) fun c1 =>
  if c1 = 0 then
    BX12_hasWord_28 ρ a0 a1 σ
  else
    if (σ a0 16) = (1 : Int32) then
      if (lg_cmp ((jn (σ a0 18) (σ a0 1018))) a1) = 0 then
        BX12_hasWord_29 ρ a0 a1 σ ((1 : Int32))
      else
        BX12_hasWord_28 ρ a0 a1 σ
    else
      BX12_hasWord_28 ρ a0 a1 σ
set_option maxHeartbeats 4000000 in
set_option maxRecDepth 100000 in
theorem c_X12_hasWord (E : EX) {n : Nat} {σ : Sto} {ρ : Rho} (a0 : Nat) (h0 : Sh n a0 11) (a1 : Int64) (res : Int32 × Sto) (hM : MX12_hasWord σ ρ a0 a1 = some res) : CTi E yX12_hasWord cX12_hasWord 4 (some .boolean) 2 [.ref (eb E + a0), .long a1] n σ ρ res.1 res.2 ρ := by
  refine ct_i (by decide +kernel) rfl (Nat.le_of_ble_eq_true rfl) (fun X hE hml hC hR => ?_)
  subst hE
  show G X 0 0 n σ ρ 0 [(0, vr X a0), (1, .long a1)] []
  replace hC : Cx X cX12_hasWord RX12 2 := hC
  unfold MX12_hasWord at hM
  refine g_aload_n hC dX12_hasWord_0 rfl 0 rfl ?_
  refine g_callVi (As := []) (st' := []) (k := a0) (L' := 0) hC Y_X12_isGood I_X12_isGood k_1478 ⟨by decide, by decide⟩ h0 (ci := 11) (by decide) rfl dX12_hasWord_1 rfl rfl rfl (Nat.le_of_ble_eq_true rfl) ⟨Nat.zero_le _, Nat.zero_le _⟩ hM (fun c hc => c_X12_isGood (xE X) a0 h0 c hc) (fun c1 hM => ?_)
  refine g_if_eq (tgt := 28) hC dX12_hasWord_4 rfl (by decide) hM (fun hM => ?_) (fun hM => ?_)
  · exact g_sub [0, 1] ((bX12_hasWord_28 hC hml hR a0 a1 h0 ) _ hM) rfl
  · refine g_aload_n hC dX12_hasWord_7 rfl 0 rfl ?_
    refine fg_11_16 hC h0 k_1098 dX12_hasWord_8 rfl ?_
    refine g_iconst (v := 1) hC dX12_hasWord_11 rfl ic_1 ?_
    refine g_icmp_ne (tgt := 28) hC dX12_hasWord_12 rfl (by decide) hM (fun hM => ?_) (fun hM => ?_)
    · exact g_sub [0, 1] ((bX12_hasWord_28 hC hml hR a0 a1 h0 ) _ hM) rfl
    · refine g_aload_n hC dX12_hasWord_15 rfl 0 rfl ?_
      refine fg_11_18 hC h0 k_1100 dX12_hasWord_16 rfl ?_
      refine g_lload_n hC dX12_hasWord_19 rfl 1 rfl ?_
      refine g_lcmp hC dX12_hasWord_20 rfl ?_
      refine g_if_ne (tgt := 28) hC dX12_hasWord_21 rfl (by decide) hM (fun hM => ?_) (fun hM => ?_)
      · exact g_sub [0, 1] ((bX12_hasWord_28 hC hml hR a0 a1 h0 ) _ hM) rfl
      · refine g_iconst (v := 1) hC dX12_hasWord_24 rfl ic_1 ?_
        refine g_goto (tgt := 29) hC dX12_hasWord_25 rfl (by decide) ?_
        exact g_sub [0, 1] ((bX12_hasWord_29 hC hml hR a0 a1 h0 ) _ _ hM) rfl
def BX12_hasSign_30 (ρ : Rho) (a0 : Nat) (a1 : Int32) (σ : Sto) (t0 : Int32) : Option (Int32 × Sto) :=
  bn t0 fun y1 =>
  if y1 = 0 then
    zr y1 (some (y1, σ))
  else
    Option.bind (MX12_takes σ ρ a0) fun c2 =>
    zr y1 (some (y1, c2))
set_option maxHeartbeats 4000000 in
set_option maxRecDepth 100000 in
theorem bX12_hasSign_30 {X : CX} {n : Nat} {ρ : Rho} {res : Int32 × Sto} (hC : Cx X cX12_hasSign RX12 2) (hml : (xc X).maxLocals = 3) (hR : RtT (some .boolean) X cX12_hasSign n res.1 res.2 ρ) (a0 : Nat) (a1 : Int32) (h0 : Sh n a0 11) : ∀ (σ : Sto) (t0 : Int32), BX12_hasSign_30 ρ a0 a1 σ t0 = some res → G X 0 0 n σ ρ 30 [(0, vr X a0), (1, .int a1)] [.int t0] := by
  intro σ t0 hM
  unfold BX12_hasSign_30 at hM
  refine g_istore_n hC (fun y1 => [(2, .int y1), (0, vr X a0), (1, .int a1)]) dX12_hasSign_30 rfl hM hml (by decide) (fun _ => rfl) (fun y1 hM => ?_)
  refine g_iload_n hC dX12_hasSign_31 rfl 0 rfl ?_
  refine g_if_eq (tgt := 39) hC dX12_hasSign_32 rfl (by decide) hM (fun hM => ?_) (fun hM => ?_)
  · refine g_iload_n hC dX12_hasSign_39 rfl 0 rfl ?_
    exact g_retz hM dX12_hasSign_40 rfl (fun h => by cases h; exact hR)
  · refine g_aload_n hC dX12_hasSign_35 rfl 1 rfl ?_
    refine g_callVv0 (As := []) (st' := []) (k := a0) (L' := 1) hC Y_X12_takes I_X12_takes k_1459 ⟨by decide, by decide⟩ h0 (ci := 11) (by decide) rfl dX12_hasSign_36 rfl rfl rfl (Nat.le_of_ble_eq_true rfl) ⟨Nat.zero_le _, Nat.zero_le _⟩ hM (fun c hc => c_X12_takes (xE X) a0 h0 c hc) (fun c2 hM => ?_)
    refine g_iload_n hC dX12_hasSign_39 rfl 0 rfl ?_
    exact g_retz hM dX12_hasSign_40 rfl (fun h => by cases h; exact hR)
def BX12_hasSign_29 (ρ : Rho) (a0 : Nat) (a1 : Int32) (σ : Sto) : Option (Int32 × Sto) :=
  BX12_hasSign_30 ρ a0 a1 σ ((0 : Int32))
set_option maxHeartbeats 4000000 in
set_option maxRecDepth 100000 in
theorem bX12_hasSign_29 {X : CX} {n : Nat} {ρ : Rho} {res : Int32 × Sto} (hC : Cx X cX12_hasSign RX12 2) (hml : (xc X).maxLocals = 3) (hR : RtT (some .boolean) X cX12_hasSign n res.1 res.2 ρ) (a0 : Nat) (a1 : Int32) (h0 : Sh n a0 11) : ∀ (σ : Sto), BX12_hasSign_29 ρ a0 a1 σ = some res → G X 0 0 n σ ρ 29 [(0, vr X a0), (1, .int a1)] [] := by
  intro σ hM
  unfold BX12_hasSign_29 at hM
  refine g_iconst (v := 0) hC dX12_hasSign_29 rfl ic_0 ?_
  exact g_sub [0, 1] ((bX12_hasSign_30 hC hml hR a0 a1 h0 ) _ _ hM) rfl
def MX12_hasSign (σ : Sto) (ρ : Rho) (a0 : Nat) (a1 : Int32) : Option (Int32 × Sto) :=
  Option.bind (MX12_isGood σ a0) fun c1 =>
  if c1 = 0 then
    BX12_hasSign_29 ρ a0 a1 σ
  else
    if (σ a0 16) = (3 : Int32) then
      if (lg_cmp ((jn (σ a0 18) (σ a0 1018))) a1.toInt64) = 0 then
        BX12_hasSign_30 ρ a0 a1 σ ((1 : Int32))
      else
        BX12_hasSign_29 ρ a0 a1 σ
    else
      BX12_hasSign_29 ρ a0 a1 σ
set_option maxHeartbeats 4000000 in
set_option maxRecDepth 100000 in
theorem c_X12_hasSign (E : EX) {n : Nat} {σ : Sto} {ρ : Rho} (a0 : Nat) (h0 : Sh n a0 11) (a1 : Int32) (res : Int32 × Sto) (hM : MX12_hasSign σ ρ a0 a1 = some res) : CTi E yX12_hasSign cX12_hasSign 3 (some .boolean) 2 [.ref (eb E + a0), .int a1] n σ ρ res.1 res.2 ρ := by
  refine ct_i (by decide +kernel) rfl (Nat.le_of_ble_eq_true rfl) (fun X hE hml hC hR => ?_)
  subst hE
  show G X 0 0 n σ ρ 0 [(0, vr X a0), (1, .int a1)] []
  replace hC : Cx X cX12_hasSign RX12 2 := hC
  unfold MX12_hasSign at hM
  refine g_aload_n hC dX12_hasSign_0 rfl 0 rfl ?_
  refine g_callVi (As := []) (st' := []) (k := a0) (L' := 0) hC Y_X12_isGood I_X12_isGood k_1478 ⟨by decide, by decide⟩ h0 (ci := 11) (by decide) rfl dX12_hasSign_1 rfl rfl rfl (Nat.le_of_ble_eq_true rfl) ⟨Nat.zero_le _, Nat.zero_le _⟩ hM (fun c hc => c_X12_isGood (xE X) a0 h0 c hc) (fun c1 hM => ?_)
  refine g_if_eq (tgt := 29) hC dX12_hasSign_4 rfl (by decide) hM (fun hM => ?_) (fun hM => ?_)
  · exact g_sub [0, 1] ((bX12_hasSign_29 hC hml hR a0 a1 h0 ) _ hM) rfl
  · refine g_aload_n hC dX12_hasSign_7 rfl 0 rfl ?_
    refine fg_11_16 hC h0 k_1098 dX12_hasSign_8 rfl ?_
    refine g_iconst (v := 3) hC dX12_hasSign_11 rfl ic_3 ?_
    refine g_icmp_ne (tgt := 29) hC dX12_hasSign_12 rfl (by decide) hM (fun hM => ?_) (fun hM => ?_)
    · exact g_sub [0, 1] ((bX12_hasSign_29 hC hml hR a0 a1 h0 ) _ hM) rfl
    · refine g_aload_n hC dX12_hasSign_15 rfl 0 rfl ?_
      refine fg_11_18 hC h0 k_1100 dX12_hasSign_16 rfl ?_
      refine g_iload_n hC dX12_hasSign_19 rfl 1 rfl ?_
      refine g_i2l hC dX12_hasSign_20 rfl ?_
      refine g_lcmp hC dX12_hasSign_21 rfl ?_
      refine g_if_ne (tgt := 29) hC dX12_hasSign_22 rfl (by decide) hM (fun hM => ?_) (fun hM => ?_)
      · exact g_sub [0, 1] ((bX12_hasSign_29 hC hml hR a0 a1 h0 ) _ hM) rfl
      · refine g_iconst (v := 1) hC dX12_hasSign_25 rfl ic_1 ?_
        refine g_goto (tgt := 30) hC dX12_hasSign_26 rfl (by decide) ?_
        exact g_sub [0, 1] ((bX12_hasSign_30 hC hml hR a0 a1 h0 ) _ _ hM) rfl
