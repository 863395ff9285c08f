def BX12_firsts_49 (ρ : Rho) (a0 : Nat) (a1 : Int32) (σ : Sto) : Option (Sto) :=
  Option.bind (ρ a0 0) fun j1 =>
  Option.bind (ap σ j1 ((a1 + (36 : Int32))) ((7 : Int32))) fun σ2 =>
  some σ2
set_option maxHeartbeats 4000000 in
set_option maxRecDepth 100000 in
theorem bX12_firsts_49 {X : CX} {n : Nat} {ρ : Rho} {res : Sto} (hC : Cx X cX12_firsts RX12 0) (hml : (xc X).maxLocals = 3) (hR : RtV X cX12_firsts 0 0 n res ρ) (a0 : Nat) (a1 : Int32) (h0 : Sh n a0 11) : ∀ (σ : Sto), BX12_firsts_49 ρ a0 a1 σ = some res → G X 0 0 n σ ρ 49 [(0, vr X a0), (1, .int a1)] [] := by
  intro σ hM
  unfold BX12_firsts_49 at hM
  refine g_aload_n hC dX12_firsts_49 rfl 0 rfl ?_
  refine fg_11_0 hC h0 k_1082 dX12_firsts_50 rfl hM (fun j1 hj1 hM => ?_)
  refine g_iload_n hC dX12_firsts_53 rfl 1 rfl ?_
  refine g_bipush (v := 36) hC dX12_firsts_54 rfl ib_36 ?_
  refine g_iadd hC dX12_firsts_56 rfl ?_
  refine g_bipush (v := 7) hC dX12_firsts_57 rfl ib_7 ?_
  refine g_iast hC hj1 dX12_firsts_59 rfl hM (fun σ2 hM => ?_)
  cases hM
  exact g_retv hR dX12_firsts_60 rfl
def FX12_firsts_25 (ρ : Rho) (a0 : Nat) (a1 : Int32) (k49 : Sto → Option (Sto)) (rec : Sto → Int32 → Option (Sto)) (σ : Sto) (v2 : Int32) : Option (Sto) :=
  if (6 : Int32) ≤ v2 then
    k49 σ
  else
    Option.bind (ρ a0 0) fun j1 =>
    Option.bind (ap σ j1 ((a1 + ((6 : Int32) * v2))) ((1 : Int32))) fun σ2 =>
    bn (v2 + (1 : Int32)) fun y3 =>
    rec σ2 y3
set_option maxHeartbeats 4000000 in
set_option maxRecDepth 100000 in
theorem bX12_firsts_25 {X : CX} {n : Nat} {ρ : Rho} {res : Sto} (hC : Cx X cX12_firsts RX12 0) (hml : (xc X).maxLocals = 3) (hR : RtV X cX12_firsts 0 0 n res ρ) (a0 : Nat) (a1 : Int32) (h0 : Sh n a0 11) (k49 : Sto → Option (Sto)) (hk49 : ∀ (σ : Sto), k49 σ = some res → G X 0 0 n σ ρ 49 [(0, vr X a0), (1, .int a1)] []) (fu : Nat) : ∀ (σ : Sto) (v2 : Int32), fixN (fun _ _ => none) (FX12_firsts_25 ρ a0 a1 k49) fu σ v2 = some res → G X 0 0 n σ ρ 25 [(0, vr X a0), (1, .int a1), (2, .int v2)] [] := by
  refine fixN_ind (P := fun (f : Sto → Int32 → Option (Sto)) => ∀ (σ : Sto) (v2 : Int32), f σ v2 = some res → G X 0 0 n σ ρ 25 [(0, vr X a0), (1, .int a1), (2, .int v2)] []) ?_ ?_ fu
  · intro σ v2 hM; cases hM
  · intro rec ih σ v2 hM
    unfold FX12_firsts_25 at hM
    refine g_iload_n hC dX12_firsts_25 rfl 2 rfl ?_
    refine g_bipush (v := 6) hC dX12_firsts_26 rfl ib_6 ?_
    refine g_icmp_ge (tgt := 49) hC dX12_firsts_28 rfl (by decide) hM (fun hM => ?_) (fun hM => ?_)
    · exact g_sub [0, 1] (hk49 _ hM) rfl
    · refine g_aload_n hC dX12_firsts_31 rfl 0 rfl ?_
      refine fg_11_0 hC h0 k_1082 dX12_firsts_32 rfl hM (fun j1 hj1 hM => ?_)
      refine g_iload_n hC dX12_firsts_35 rfl 1 rfl ?_
      refine g_bipush (v := 6) hC dX12_firsts_36 rfl ib_6 ?_
      refine g_iload_n hC dX12_firsts_38 rfl 2 rfl ?_
      refine g_imul hC dX12_firsts_39 rfl ?_
      refine g_iadd hC dX12_firsts_40 rfl ?_
      refine g_iconst (v := 1) hC dX12_firsts_41 rfl ic_1 ?_
      refine g_iast hC hj1 dX12_firsts_42 rfl hM (fun σ2 hM => ?_)
      refine g_iinc (v := 1) hC (fun y3 => [(2, .int y3), (0, vr X a0), (1, .int a1)]) dX12_firsts_43 rfl hM (j := 2) rfl ic_1 hml (by decide) (fun _ => rfl) (fun y3 hM => ?_)
      refine g_goto (tgt := 25) hC dX12_firsts_46 rfl (by decide) ?_
      exact g_sub [1, 2, 0] (ih _ _ hM) rfl
def BX12_firsts_23 (ρ : Rho) (a0 : Nat) (a1 : Int32) (σ : Sto) : Option (Sto) :=
  bn ((0 : Int32)) fun y1 =>
  fixN (fun _ _ => none) (FX12_firsts_25 ρ a0 a1 (BX12_firsts_49 ρ a0 a1)) FU σ y1
set_option maxHeartbeats 4000000 in
set_option maxRecDepth 100000 in
theorem bX12_firsts_23 {X : CX} {n : Nat} {ρ : Rho} {res : Sto} (hC : Cx X cX12_firsts RX12 0) (hml : (xc X).maxLocals = 3) (hR : RtV X cX12_firsts 0 0 n res ρ) (a0 : Nat) (a1 : Int32) (h0 : Sh n a0 11) : ∀ (σ : Sto), BX12_firsts_23 ρ a0 a1 σ = some res → G X 0 0 n σ ρ 23 [(0, vr X a0), (1, .int a1)] [] := by
  intro σ hM
  unfold BX12_firsts_23 at hM
  refine g_iconst (v := 0) hC dX12_firsts_23 rfl ic_0 ?_
  refine g_istore_n hC (fun y1 => [(2, .int y1), (0, vr X a0), (1, .int a1)]) dX12_firsts_24 rfl hM hml (by decide) (fun _ => rfl) (fun y1 hM => ?_)
  exact g_sub [1, 2, 0] ((bX12_firsts_25 hC hml hR a0 a1 h0 (BX12_firsts_49 ρ a0 a1) (bX12_firsts_49 hC hml hR a0 a1 h0 ) FU) _ _ hM) rfl
def FX12_firsts_2 (ρ : Rho) (a0 : Nat) (a1 : Int32) (k23 : Sto → Option (Sto)) (rec : Sto → Int32 → Option (Sto)) (σ : Sto) (v2 : Int32) : Option (Sto) :=
  if (46 : Int32) ≤ v2 then
    k23 σ
  else
    Option.bind (ρ a0 0) fun j1 =>
    Option.bind (ap σ j1 ((a1 + v2)) ((0 : Int32))) fun σ2 =>
    bn (v2 + (1 : Int32)) fun y3 =>
    rec σ2 y3
set_option maxHeartbeats 4000000 in
set_option maxRecDepth 100000 in
theorem bX12_firsts_2 {X : CX} {n : Nat} {ρ : Rho} {res : Sto} (hC : Cx X cX12_firsts RX12 0) (hml : (xc X).maxLocals = 3) (hR : RtV X cX12_firsts 0 0 n res ρ) (a0 : Nat) (a1 : Int32) (h0 : Sh n a0 11) (k23 : Sto → Option (Sto)) (hk23 : ∀ (σ : Sto), k23 σ = some res → G X 0 0 n σ ρ 23 [(0, vr X a0), (1, .int a1)] []) (fu : Nat) : ∀ (σ : Sto) (v2 : Int32), fixN (fun _ _ => none) (FX12_firsts_2 ρ a0 a1 k23) fu σ v2 = some res → G X 0 0 n σ ρ 2 [(0, vr X a0), (1, .int a1), (2, .int v2)] [] := by
  refine fixN_ind (P := fun (f : Sto → Int32 → Option (Sto)) => ∀ (σ : Sto) (v2 : Int32), f σ v2 = some res → G X 0 0 n σ ρ 2 [(0, vr X a0), (1, .int a1), (2, .int v2)] []) ?_ ?_ fu
  · intro σ v2 hM; cases hM
  · intro rec ih σ v2 hM
    unfold FX12_firsts_2 at hM
    refine g_iload_n hC dX12_firsts_2 rfl 2 rfl ?_
    refine g_bipush (v := 46) hC dX12_firsts_3 rfl ib_46 ?_
    refine g_icmp_ge (tgt := 23) hC dX12_firsts_5 rfl (by decide) hM (fun hM => ?_) (fun hM => ?_)
    · exact g_sub [0, 1] (hk23 _ hM) rfl
    · refine g_aload_n hC dX12_firsts_8 rfl 0 rfl ?_
      refine fg_11_0 hC h0 k_1082 dX12_firsts_9 rfl hM (fun j1 hj1 hM => ?_)
      refine g_iload_n hC dX12_firsts_12 rfl 1 rfl ?_
      refine g_iload_n hC dX12_firsts_13 rfl 2 rfl ?_
      refine g_iadd hC dX12_firsts_14 rfl ?_
      refine g_iconst (v := 0) hC dX12_firsts_15 rfl ic_0 ?_
      refine g_iast hC hj1 dX12_firsts_16 rfl hM (fun σ2 hM => ?_)
      refine g_iinc (v := 1) hC (fun y3 => [(2, .int y3), (0, vr X a0), (1, .int a1)]) dX12_firsts_17 rfl hM (j := 2) rfl ic_1 hml (by decide) (fun _ => rfl) (fun y3 hM => ?_)
      refine g_goto (tgt := 2) hC dX12_firsts_20 rfl (by decide) ?_
      exact g_sub [1, 2, 0] (ih _ _ hM) rfl
def MX12_firsts (σ : Sto) (ρ : Rho) (a0 : Nat) (a1 : Int32) : Option (Sto) :=
  bn ((0 : Int32)) fun y1 =>
  fixN (fun _ _ => none) (FX12_firsts_2 ρ a0 a1 (BX12_firsts_23 ρ a0 a1)) FU σ y1
set_option maxHeartbeats 4000000 in
set_option maxRecDepth 100000 in
theorem c_X12_firsts (E : EX) {n : Nat} {σ : Sto} {ρ : Rho} (a0 : Nat) (h0 : Sh n a0 11) (a1 : Int32) (res : Sto) (hM : MX12_firsts σ ρ a0 a1 = some res) : CTv E yX12_firsts cX12_firsts 3 0 0 0 [.ref (eb E + a0), .int a1] n σ ρ res ρ := by
  refine ct_v (by decide +kernel) (Nat.le_of_ble_eq_true rfl) (fun X hE hml hin hRm hC hR => ?_)
  subst hE
  show G X 0 0 n σ ρ 0 [(0, vr X a0), (1, .int a1)] []
  replace hC : Cx X cX12_firsts RX12 0 := hC
  unfold MX12_firsts at hM
  refine g_iconst (v := 0) hC dX12_firsts_0 rfl ic_0 ?_
  refine g_istore_n hC (fun y1 => [(2, .int y1), (0, vr X a0), (1, .int a1)]) dX12_firsts_1 rfl hM hml (by decide) (fun _ => rfl) (fun y1 hM => ?_)
  exact g_sub [1, 2, 0] ((bX12_firsts_2 hC hml hR a0 a1 h0 (BX12_firsts_23 ρ a0 a1) (bX12_firsts_23 hC hml hR a0 a1 h0 ) FU) _ _ hM) rfl
def MX12_isIn (a0 : Int32) (a1 : Int32) (a2 : Int32) : Option (Int32) :=
  if a0 < a1 then
    zr ((0 : Int32)) (some (0 : Int32))
  else
    if a2 < a0 then
      zr ((0 : Int32)) (some (0 : Int32))
    else
      zr ((1 : Int32)) (some (1 : Int32))
set_option maxHeartbeats 4000000 in
set_option maxRecDepth 100000 in
theorem c_X12_isIn (E : EX) {n : Nat} {σ : Sto} {ρ : Rho} (a0 : Int32) (a1 : Int32) (a2 : Int32) (res : Int32) (hM : MX12_isIn a0 a1 a2 = some res) : CTi E yX12_isIn cX12_isIn 3 (some .boolean) 0 [.int a0, .int a1, .int a2] n σ ρ res σ ρ := by
  refine ct_i (by decide +kernel) rfl (Nat.le_of_ble_eq_true rfl) (fun X hE hml hC hR => ?_)
  subst hE
  show G X 0 0 n σ ρ 0 [(0, .int a0), (1, .int a1), (2, .int a2)] []
  replace hC : Cx X cX12_isIn RX12 0 := hC
  unfold MX12_isIn at hM
  refine g_iload_n hC dX12_isIn_0 rfl 0 rfl ?_
  refine g_iload_n hC dX12_isIn_1 rfl 1 rfl ?_
  refine g_icmp_lt (tgt := 14) hC dX12_isIn_2 rfl (by decide) hM (fun hM => ?_) (fun hM => ?_)
  · refine g_iconst (v := 0) hC dX12_isIn_14 rfl ic_0 ?_
    exact g_retz hM dX12_isIn_15 rfl (fun h => by cases h; exact hR)
  · refine g_iload_n hC dX12_isIn_5 rfl 0 rfl ?_
    refine g_iload_n hC dX12_isIn_6 rfl 2 rfl ?_
    refine g_icmp_gt (tgt := 14) hC dX12_isIn_7 rfl (by decide) hM (fun hM => ?_) (fun hM => ?_)
    · refine g_iconst (v := 0) hC dX12_isIn_14 rfl ic_0 ?_
      exact g_retz hM dX12_isIn_15 rfl (fun h => by cases h; exact hR)
    · refine g_iconst (v := 1) hC dX12_isIn_10 rfl ic_1 ?_
      refine g_goto (tgt := 15) hC dX12_isIn_11 rfl (by decide) ?_
      exact g_retz hM dX12_isIn_15 rfl (fun h => by cases h; exact hR)
def FX12_copies_3 (ρ : Rho) (a0 : Nat) (a1 : Int32) (a2 : Int32) (a3 : Int32) (rec : Sto → Int32 → Option (Sto)) (σ : Sto) (v4 : Int32) : Option (Sto) :=
  if a3 ≤ v4 then
    some σ
  else
    Option.bind (ρ a0 0) fun j1 =>
    Option.bind (ρ a0 0) fun j2 =>
    Option.bind (ag σ j2 ((a1 + v4))) fun x3 =>
    Option.bind (ap σ j1 ((a2 + v4)) x3) fun σ4 =>
    bn (v4 + (1 : Int32)) fun y5 =>
    rec σ4 y5
set_option maxHeartbeats 4000000 in
set_option maxRecDepth 100000 in
theorem bX12_copies_3 {X : CX} {n : Nat} {ρ : Rho} {res : Sto} (hC : Cx X cX12_copies RX12 0) (hml : (xc X).maxLocals = 5) (hR : RtV X cX12_copies 0 0 n res ρ) (a0 : Nat) (a1 : Int32) (a2 : Int32) (a3 : Int32) (h0 : Sh n a0 11) (fu : Nat) : ∀ (σ : Sto) (v4 : Int32), fixN (fun _ _ => none) (FX12_copies_3 ρ a0 a1 a2 a3) fu σ v4 = some res → G X 0 0 n σ ρ 3 [(0, vr X a0), (1, .int a1), (2, .int a2), (3, .int a3), (4, .int v4)] [] := by
  refine fixN_ind (P := fun (f : Sto → Int32 → Option (Sto)) => ∀ (σ : Sto) (v4 : Int32), f σ v4 = some res → G X 0 0 n σ ρ 3 [(0, vr X a0), (1, .int a1), (2, .int a2), (3, .int a3), (4, .int v4)] []) ?_ ?_ fu
  · intro σ v4 hM; cases hM
  · intro rec ih σ v4 hM
    unfold FX12_copies_3 at hM
    refine g_iload hC dX12_copies_3 rfl 4 rfl ?_
    refine g_iload_n hC dX12_copies_5 rfl 3 rfl ?_
    refine g_icmp_ge (tgt := 33) hC dX12_copies_6 rfl (by decide) hM (fun hM => ?_) (fun hM => ?_)
    · cases hM
      exact g_retv hR dX12_copies_33 rfl
    · refine g_aload_n hC dX12_copies_9 rfl 0 rfl ?_
      refine fg_11_0 hC h0 k_1082 dX12_copies_10 rfl hM (fun j1 hj1 hM => ?_)
      refine g_iload_n hC dX12_copies_13 rfl 2 rfl ?_
      refine g_iload hC dX12_copies_14 rfl 4 rfl ?_
      refine g_iadd hC dX12_copies_16 rfl ?_
      refine g_aload_n hC dX12_copies_17 rfl 0 rfl ?_
      refine fg_11_0 hC h0 k_1082 dX12_copies_18 rfl hM (fun j2 hj2 hM => ?_)
      refine g_iload_n hC dX12_copies_21 rfl 1 rfl ?_
      refine g_iload hC dX12_copies_22 rfl 4 rfl ?_
      refine g_iadd hC dX12_copies_24 rfl ?_
      refine g_iald hC hj2 dX12_copies_25 rfl hM (fun x3 hM => ?_)
      refine g_iast hC hj1 dX12_copies_26 rfl hM (fun σ4 hM => ?_)
      refine g_iinc (v := 1) hC (fun y5 => [(4, .int y5), (0, vr X a0), (1, .int a1), (2, .int a2), (3, .int a3)]) dX12_copies_27 rfl hM (j := 4) rfl ic_1 hml (by decide) (fun _ => rfl) (fun y5 hM => ?_)
      refine g_goto (tgt := 3) hC dX12_copies_30 rfl (by decide) ?_
      exact g_sub [1, 2, 3, 4, 0] (ih _ _ hM) rfl
def MX12_copies (σ : Sto) (ρ : Rho) (a0 : Nat) (a1 : Int32) (a2 : Int32) (a3 : Int32) : Option (Sto) :=
  bn ((0 : Int32)) fun y1 =>
  fixN (fun _ _ => none) (FX12_copies_3 ρ a0 a1 a2 a3) FU σ y1
set_option maxHeartbeats 4000000 in
set_option maxRecDepth 100000 in
theorem c_X12_copies (E : EX) {n : Nat} {σ : Sto} {ρ : Rho} (a0 : Nat) (h0 : Sh n a0 11) (a1 : Int32) (a2 : Int32) (a3 : Int32) (res : Sto) (hM : MX12_copies σ ρ a0 a1 a2 a3 = some res) : CTv E yX12_copies cX12_copies 5 0 0 0 [.ref (eb E + a0), .int a1, .int a2, .int a3] n σ ρ res ρ := by
  refine ct_v (by decide +kernel) (Nat.le_of_ble_eq_true rfl) (fun X hE hml hin hRm hC hR => ?_)
  subst hE
  show G X 0 0 n σ ρ 0 [(0, vr X a0), (1, .int a1), (2, .int a2), (3, .int a3)] []
  replace hC : Cx X cX12_copies RX12 0 := hC
  unfold MX12_copies at hM
  refine g_iconst (v := 0) hC dX12_copies_0 rfl ic_0 ?_
  refine g_istore hC (fun y1 => [(4, .int y1), (0, vr X a0), (1, .int a1), (2, .int a2), (3, .int a3)]) dX12_copies_1 rfl hM hml (by decide) (fun _ => rfl) (fun y1 hM => ?_)
  exact g_sub [1, 2, 3, 4, 0] ((bX12_copies_3 hC hml hR a0 a1 a2 a3 h0  FU) _ _ hM) rfl
def MX12_isPrime (a0 : Int32) : Option (Int32) :=
  if a0 = (3 : Int32) then
    zr ((1 : Int32)) (some (1 : Int32))
  else
    if a0 = (5 : Int32) then
      zr ((1 : Int32)) (some (1 : Int32))
    else
      if a0 = (7 : Int32) then
        zr ((1 : Int32)) (some (1 : Int32))
      else
        if a0 = (11 : Int32) then
          zr ((1 : Int32)) (some (1 : Int32))
        else
          if a0 = (13 : Int32) then
            zr ((1 : Int32)) (some (1 : Int32))
          else
            if a0 = (17 : Int32) then
              zr ((1 : Int32)) (some (1 : Int32))
            else
              if a0 = (19 : Int32) then
                zr ((1 : Int32)) (some (1 : Int32))
              else
                if a0 = (23 : Int32) then
                  zr ((1 : Int32)) (some (1 : Int32))
                else
                  zr ((0 : Int32)) (some (0 : Int32))
set_option maxHeartbeats 4000000 in
set_option maxRecDepth 100000 in
theorem c_X12_isPrime (E : EX) {n : Nat} {σ : Sto} {ρ : Rho} (a0 : Int32) (res : Int32) (hM : MX12_isPrime a0 = some res) : CTi E yX12_isPrime cX12_isPrime 1 (some .boolean) 0 [.int a0] n σ ρ res σ ρ := by
  refine ct_i (by decide +kernel) rfl (Nat.le_of_ble_eq_true rfl) (fun X hE hml hC hR => ?_)
  subst hE
  show G X 0 0 n σ ρ 0 [(0, .int a0)] []
  replace hC : Cx X cX12_isPrime RX12 0 := hC
  unfold MX12_isPrime at hM
  refine g_iload_n hC dX12_isPrime_0 rfl 0 rfl ?_
  refine g_iconst (v := 3) hC dX12_isPrime_1 rfl ic_3 ?_
  refine g_icmp_eq (tgt := 46) hC dX12_isPrime_2 rfl (by decide) hM (fun hM => ?_) (fun hM => ?_)
  · refine g_iconst (v := 1) hC dX12_isPrime_46 rfl ic_1 ?_
    refine g_goto (tgt := 51) hC dX12_isPrime_47 rfl (by decide) ?_
    exact g_retz hM dX12_isPrime_51 rfl (fun h => by cases h; exact hR)
  · refine g_iload_n hC dX12_isPrime_5 rfl 0 rfl ?_
    refine g_iconst (v := 5) hC dX12_isPrime_6 rfl ic_5 ?_
    refine g_icmp_eq (tgt := 46) hC dX12_isPrime_7 rfl (by decide) hM (fun hM => ?_) (fun hM => ?_)
    · refine g_iconst (v := 1) hC dX12_isPrime_46 rfl ic_1 ?_
      refine g_goto (tgt := 51) hC dX12_isPrime_47 rfl (by decide) ?_
      exact g_retz hM dX12_isPrime_51 rfl (fun h => by cases h; exact hR)
    · refine g_iload_n hC dX12_isPrime_10 rfl 0 rfl ?_
      refine g_bipush (v := 7) hC dX12_isPrime_11 rfl ib_7 ?_
      refine g_icmp_eq (tgt := 46) hC dX12_isPrime_13 rfl (by decide) hM (fun hM => ?_) (fun hM => ?_)
      · refine g_iconst (v := 1) hC dX12_isPrime_46 rfl ic_1 ?_
        refine g_goto (tgt := 51) hC dX12_isPrime_47 rfl (by decide) ?_
        exact g_retz hM dX12_isPrime_51 rfl (fun h => by cases h; exact hR)
      · refine g_iload_n hC dX12_isPrime_16 rfl 0 rfl ?_
        refine g_bipush (v := 11) hC dX12_isPrime_17 rfl ib_11 ?_
        refine g_icmp_eq (tgt := 46) hC dX12_isPrime_19 rfl (by decide) hM (fun hM => ?_) (fun hM => ?_)
        · refine g_iconst (v := 1) hC dX12_isPrime_46 rfl ic_1 ?_
          refine g_goto (tgt := 51) hC dX12_isPrime_47 rfl (by decide) ?_
          exact g_retz hM dX12_isPrime_51 rfl (fun h => by cases h; exact hR)
        · refine g_iload_n hC dX12_isPrime_22 rfl 0 rfl ?_
          refine g_bipush (v := 13) hC dX12_isPrime_23 rfl ib_13 ?_
          refine g_icmp_eq (tgt := 46) hC dX12_isPrime_25 rfl (by decide) hM (fun hM => ?_) (fun hM => ?_)
          · refine g_iconst (v := 1) hC dX12_isPrime_46 rfl ic_1 ?_
            refine g_goto (tgt := 51) hC dX12_isPrime_47 rfl (by decide) ?_
            exact g_retz hM dX12_isPrime_51 rfl (fun h => by cases h; exact hR)
          · refine g_iload_n hC dX12_isPrime_28 rfl 0 rfl ?_
            refine g_bipush (v := 17) hC dX12_isPrime_29 rfl ib_17 ?_
            refine g_icmp_eq (tgt := 46) hC dX12_isPrime_31 rfl (by decide) hM (fun hM => ?_) (fun hM => ?_)
            · refine g_iconst (v := 1) hC dX12_isPrime_46 rfl ic_1 ?_
              refine g_goto (tgt := 51) hC dX12_isPrime_47 rfl (by decide) ?_
              exact g_retz hM dX12_isPrime_51 rfl (fun h => by cases h; exact hR)
            · refine g_iload_n hC dX12_isPrime_34 rfl 0 rfl ?_
              refine g_bipush (v := 19) hC dX12_isPrime_35 rfl ib_19 ?_
              refine g_icmp_eq (tgt := 46) hC dX12_isPrime_37 rfl (by decide) hM (fun hM => ?_) (fun hM => ?_)
              · refine g_iconst (v := 1) hC dX12_isPrime_46 rfl ic_1 ?_
                refine g_goto (tgt := 51) hC dX12_isPrime_47 rfl (by decide) ?_
                exact g_retz hM dX12_isPrime_51 rfl (fun h => by cases h; exact hR)
              · refine g_iload_n hC dX12_isPrime_40 rfl 0 rfl ?_
                refine g_bipush (v := 23) hC dX12_isPrime_41 rfl ib_23 ?_
                refine g_icmp_ne (tgt := 50) hC dX12_isPrime_43 rfl (by decide) hM (fun hM => ?_) (fun hM => ?_)
                · refine g_iconst (v := 0) hC dX12_isPrime_50 rfl ic_0 ?_
                  exact g_retz hM dX12_isPrime_51 rfl (fun h => by cases h; exact hR)
                · refine g_iconst (v := 1) hC dX12_isPrime_46 rfl ic_1 ?_
                  refine g_goto (tgt := 51) hC dX12_isPrime_47 rfl (by decide) ?_
                  exact g_retz hM dX12_isPrime_51 rfl (fun h => by cases h; exact hR)
def MX12_rest (σ : Sto) (a0 : Nat) (a1 : Int32) : Option (Int32) :=
  Option.bind (rmi a1 ((σ a0 7))) fun z1 =>
  Option.bind (rmi ((z1 + (σ a0 7))) ((σ a0 7))) fun z2 =>
  some z2
set_option maxHeartbeats 4000000 in
set_option maxRecDepth 100000 in
theorem c_X12_rest (E : EX) {n : Nat} {ρ : Rho} {σ : Sto} (a0 : Nat) (h0 : Sh n a0 11) (a1 : Int32) (res : Int32) (hM : MX12_rest σ a0 a1 = some res) : CTi E yX12_rest cX12_rest 2 (some .int) 0 [.ref (eb E + a0), .int a1] n σ ρ res σ ρ := by
  refine ct_i (by decide +kernel) rfl (Nat.le_of_ble_eq_true rfl) (fun X hE hml hC hR => ?_)
  subst hE
  show G X 0 0 n σ ρ 0 [(0, vr X a0), (1, .int a1)] []
  replace hC : Cx X cX12_rest RX12 0 := hC
  unfold MX12_rest at hM
  refine g_iload_n hC dX12_rest_0 rfl 1 rfl ?_
  refine g_aload_n hC dX12_rest_1 rfl 0 rfl ?_
  refine fg_11_7 hC h0 k_1089 dX12_rest_2 rfl ?_
  refine g_irem hC dX12_rest_5 rfl hM (fun z1 hM => ?_)
  refine g_aload_n hC dX12_rest_6 rfl 0 rfl ?_
  refine fg_11_7 hC h0 k_1089 dX12_rest_7 rfl ?_
  refine g_iadd hC dX12_rest_10 rfl ?_
  refine g_aload_n hC dX12_rest_11 rfl 0 rfl ?_
  refine fg_11_7 hC h0 k_1089 dX12_rest_12 rfl ?_
  refine g_irem hC dX12_rest_15 rfl hM (fun z2 hM => ?_)
  cases hM
  exact g_reti hR dX12_rest_16 rfl
def FX12_inverse_2 (σ : Sto) (a0 : Nat) (a1 : Int32) (rec : Int32 → Option (Int32)) (v2 : Int32) : Option (Int32) :=
  Option.bind (rmi ((a1 * v2)) ((σ a0 7))) fun z1 =>
  if z1 = (1 : Int32) then
    some v2
  else
    bn (v2 + (1 : Int32)) fun y2 =>
    rec y2
set_option maxHeartbeats 4000000 in
set_option maxRecDepth 100000 in
theorem bX12_inverse_2 {X : CX} {n : Nat} {ρ : Rho} {σ : Sto} {res : Int32} (hC : Cx X cX12_inverse RX12 0) (hml : (xc X).maxLocals = 3) (hR : RtT (some .int) X cX12_inverse n res σ ρ) (a0 : Nat) (a1 : Int32) (h0 : Sh n a0 11) (fu : Nat) : ∀ (v2 : Int32), fixN (fun _ => none) (FX12_inverse_2 σ a0 a1) fu v2 = some res → G X 0 0 n σ ρ 2 [(0, vr X a0), (1, .int a1), (2, .int v2)] [] := by
  refine fixN_ind (P := fun (f : Int32 → Option (Int32)) => ∀ (v2 : Int32), f v2 = some res → G X 0 0 n σ ρ 2 [(0, vr X a0), (1, .int a1), (2, .int v2)] []) ?_ ?_ fu
  · intro v2 hM; cases hM
  · intro rec ih v2 hM
    unfold FX12_inverse_2 at hM
    refine g_iload_n hC dX12_inverse_2 rfl 1 rfl ?_
    refine g_iload_n hC dX12_inverse_3 rfl 2 rfl ?_
    refine g_imul hC dX12_inverse_4 rfl ?_
    refine g_aload_n hC dX12_inverse_5 rfl 0 rfl ?_
    refine fg_11_7 hC h0 k_1089 dX12_inverse_6 rfl ?_
    refine g_irem hC dX12_inverse_9 rfl hM (fun z1 hM => ?_)
    refine g_iconst (v := 1) hC dX12_inverse_10 rfl ic_1 ?_
    refine g_icmp_eq (tgt := 20) hC dX12_inverse_11 rfl (by decide) hM (fun hM => ?_) (fun hM => ?_)
    · refine g_iload_n hC dX12_inverse_20 rfl 2 rfl ?_
      cases hM
      exact g_reti hR dX12_inverse_21 rfl
    · refine g_iinc (v := 1) hC (fun y2 => [(2, .int y2), (0, vr X a0), (1, .int a1)]) dX12_inverse_14 rfl hM (j := 2) rfl ic_1 hml (by decide) (fun _ => rfl) (fun y2 hM => ?_)
      refine g_goto (tgt := 2) hC dX12_inverse_17 rfl (by decide) ?_
      exact g_sub [1, 2, 0] (ih _ hM) rfl
def MX12_inverse (σ : Sto) (a0 : Nat) (a1 : Int32) : Option (Int32) :=
  bn ((1 : Int32)) fun y1 =>
  fixN (fun _ => none) (FX12_inverse_2 σ a0 a1) FU y1
set_option maxHeartbeats 4000000 in
set_option maxRecDepth 100000 in
theorem c_X12_inverse (E : EX) {n : Nat} {ρ : Rho} {σ : Sto} (a0 : Nat) (h0 : Sh n a0 11) (a1 : Int32) (res : Int32) (hM : MX12_inverse σ a0 a1 = some res) : CTi E yX12_inverse cX12_inverse 3 (some .int) 0 [.ref (eb E + a0), .int a1] n σ ρ res σ ρ := by
  refine ct_i (by decide +kernel) rfl (Nat.le_of_ble_eq_true rfl) (fun X hE hml hC hR => ?_)
  subst hE
  show G X 0 0 n σ ρ 0 [(0, vr X a0), (1, .int a1)] []
  replace hC : Cx X cX12_inverse RX12 0 := hC
  unfold MX12_inverse at hM
  refine g_iconst (v := 1) hC dX12_inverse_0 rfl ic_1 ?_
  refine g_istore_n hC (fun y1 => [(2, .int y1), (0, vr X a0), (1, .int a1)]) dX12_inverse_1 rfl hM hml (by decide) (fun _ => rfl) (fun y1 hM => ?_)
  exact g_sub [1, 2, 0] ((bX12_inverse_2 hC hml hR a0 a1 h0  FU) _ hM) rfl
def MX12_places (σ : Sto) (a0 : Nat) : Option (Int32) :=
  some ((((σ a0 7) * (σ a0 7)) + (σ a0 7)) + (1 : Int32))
set_option maxHeartbeats 4000000 in
set_option maxRecDepth 100000 in
theorem c_X12_places (E : EX) {n : Nat} {ρ : Rho} {σ : Sto} (a0 : Nat) (h0 : Sh n a0 11) (res : Int32) (hM : MX12_places σ a0 = some res) : CTi E yX12_places cX12_places 1 (some .int) 0 [.ref (eb E + a0)] n σ ρ res σ ρ := by
  refine ct_i (by decide +kernel) rfl (Nat.le_of_ble_eq_true rfl) (fun X hE hml hC hR => ?_)
  subst hE
  show G X 0 0 n σ ρ 0 [(0, vr X a0)] []
  replace hC : Cx X cX12_places RX12 0 := hC
  unfold MX12_places at hM
  refine g_aload_n hC dX12_places_0 rfl 0 rfl ?_
  refine fg_11_7 hC h0 k_1089 dX12_places_1 rfl ?_
  refine g_aload_n hC dX12_places_4 rfl 0 rfl ?_
  refine fg_11_7 hC h0 k_1089 dX12_places_5 rfl ?_
  refine g_imul hC dX12_places_8 rfl ?_
  refine g_aload_n hC dX12_places_9 rfl 0 rfl ?_
  refine fg_11_7 hC h0 k_1089 dX12_places_10 rfl ?_
  refine g_iadd hC dX12_places_13 rfl ?_
  refine g_iconst (v := 1) hC dX12_places_14 rfl ic_1 ?_
  refine g_iadd hC dX12_places_15 rfl ?_
  cases hM
  exact g_reti hR dX12_places_16 rfl
def BX12_laysPlace_127 (a0 : Nat) (a1 : Int32) (σ : Sto) (t0 : Nat) (t1 : Int32) : Option (Sto) :=
  bn (su σ t0 10 t1) fun σ1 =>
  some σ1
set_option maxHeartbeats 4000000 in
set_option maxRecDepth 100000 in
theorem bX12_laysPlace_127 {X : CX} {n : Nat} {ρ : Rho} {res : Sto} (hC : Cx X cX12_laysPlace RX12 0) (hml : (xc X).maxLocals = 2) (hR : RtV X cX12_laysPlace 0 0 n res ρ) (a0 : Nat) (a1 : Int32) (h0 : Sh n a0 11) : ∀ (σ : Sto) (t0 : Nat) (t1 : Int32) (ht0 : Sh n t0 11), BX12_laysPlace_127 a0 a1 σ t0 t1 = some res → G X 0 0 n σ ρ 127 [(0, vr X a0), (1, .int a1)] [.int t1, vr X t0] := by
  intro σ t0 t1 ht0 hM
  unfold BX12_laysPlace_127 at hM
  refine fp_11_10 hC ht0 k_1092 dX12_laysPlace_127 rfl hM (fun σ1 hM => ?_)
  cases hM
  exact g_retv hR dX12_laysPlace_130 rfl
def BX12_laysPlace_68 (a0 : Nat) (a1 : Int32) (σ : Sto) (t0 : Nat) (t1 : Int32) : Option (Sto) :=
  bn (su σ t0 9 t1) fun σ1 =>
  if ((σ1 a0 7) * (σ1 a0 7)) ≤ a1 then
    if (((σ1 a0 7) * (σ1 a0 7)) + (σ1 a0 7)) ≤ a1 then
      BX12_laysPlace_127 a0 a1 σ1 a0 ((1 : Int32))
    else
      BX12_laysPlace_127 a0 a1 σ1 a0 ((a1 - ((σ1 a0 7) * (σ1 a0 7))))
  else
    Option.bind (rmi a1 ((σ1 a0 7))) fun z2 =>
    BX12_laysPlace_127 a0 a1 σ1 a0 z2
set_option maxHeartbeats 4000000 in
set_option maxRecDepth 100000 in
theorem bX12_laysPlace_68 {X : CX} {n : Nat} {ρ : Rho} {res : Sto} (hC : Cx X cX12_laysPlace RX12 0) (hml : (xc X).maxLocals = 2) (hR : RtV X cX12_laysPlace 0 0 n res ρ) (a0 : Nat) (a1 : Int32) (h0 : Sh n a0 11) : ∀ (σ : Sto) (t0 : Nat) (t1 : Int32) (ht0 : Sh n t0 11), BX12_laysPlace_68 a0 a1 σ t0 t1 = some res → G X 0 0 n σ ρ 68 [(0, vr X a0), (1, .int a1)] [.int t1, vr X t0] := by
  intro σ t0 t1 ht0 hM
  unfold BX12_laysPlace_68 at hM
  refine fp_11_9 hC ht0 k_1091 dX12_laysPlace_68 rfl hM (fun σ1 hM => ?_)
  refine g_aload_n hC dX12_laysPlace_71 rfl 0 rfl ?_
  refine g_iload_n hC dX12_laysPlace_72 rfl 1 rfl ?_
  refine g_aload_n hC dX12_laysPlace_73 rfl 0 rfl ?_
  refine fg_11_7 hC h0 k_1089 dX12_laysPlace_74 rfl ?_
  refine g_aload_n hC dX12_laysPlace_77 rfl 0 rfl ?_
  refine fg_11_7 hC h0 k_1089 dX12_laysPlace_78 rfl ?_
  refine g_imul hC dX12_laysPlace_81 rfl ?_
  refine g_icmp_ge (tgt := 94) hC dX12_laysPlace_82 rfl (by decide) hM (fun hM => ?_) (fun hM => ?_)
  · refine g_iload_n hC dX12_laysPlace_94 rfl 1 rfl ?_
    refine g_aload_n hC dX12_laysPlace_95 rfl 0 rfl ?_
    refine fg_11_7 hC h0 k_1089 dX12_laysPlace_96 rfl ?_
    refine g_aload_n hC dX12_laysPlace_99 rfl 0 rfl ?_
    refine fg_11_7 hC h0 k_1089 dX12_laysPlace_100 rfl ?_
    refine g_imul hC dX12_laysPlace_103 rfl ?_
    refine g_aload_n hC dX12_laysPlace_104 rfl 0 rfl ?_
    refine fg_11_7 hC h0 k_1089 dX12_laysPlace_105 rfl ?_
    refine g_iadd hC dX12_laysPlace_108 rfl ?_
    refine g_icmp_ge (tgt := 126) hC dX12_laysPlace_109 rfl (by decide) hM (fun hM => ?_) (fun hM => ?_)
    · refine g_iconst (v := 1) hC dX12_laysPlace_126 rfl ic_1 ?_
      exact g_sub [0, 1] ((bX12_laysPlace_127 hC hml hR a0 a1 h0 ) _ _ _ h0 hM) rfl
    · refine g_iload_n hC dX12_laysPlace_112 rfl 1 rfl ?_
      refine g_aload_n hC dX12_laysPlace_113 rfl 0 rfl ?_
      refine fg_11_7 hC h0 k_1089 dX12_laysPlace_114 rfl ?_
      refine g_aload_n hC dX12_laysPlace_117 rfl 0 rfl ?_
      refine fg_11_7 hC h0 k_1089 dX12_laysPlace_118 rfl ?_
      refine g_imul hC dX12_laysPlace_121 rfl ?_
      refine g_isub hC dX12_laysPlace_122 rfl ?_
      refine g_goto (tgt := 127) hC dX12_laysPlace_123 rfl (by decide) ?_
      exact g_sub [0, 1] ((bX12_laysPlace_127 hC hml hR a0 a1 h0 ) _ _ _ h0 hM) rfl
  · refine g_iload_n hC dX12_laysPlace_85 rfl 1 rfl ?_
    refine g_aload_n hC dX12_laysPlace_86 rfl 0 rfl ?_
    refine fg_11_7 hC h0 k_1089 dX12_laysPlace_87 rfl ?_
    refine g_irem hC dX12_laysPlace_90 rfl hM (fun z2 hM => ?_)
    refine g_goto (tgt := 127) hC dX12_laysPlace_91 rfl (by decide) ?_
    exact g_sub [0, 1] ((bX12_laysPlace_127 hC hml hR a0 a1 h0 ) _ _ _ h0 hM) rfl
def BX12_laysPlace_19 (a0 : Nat) (a1 : Int32) (σ : Sto) (t0 : Nat) (t1 : Int32) : Option (Sto) :=
  bn (su σ t0 8 t1) fun σ1 =>
  if ((σ1 a0 7) * (σ1 a0 7)) ≤ a1 then
    if (((σ1 a0 7) * (σ1 a0 7)) + (σ1 a0 7)) ≤ a1 then
      BX12_laysPlace_68 a0 a1 σ1 a0 ((0 : Int32))
    else
      BX12_laysPlace_68 a0 a1 σ1 a0 ((1 : Int32))
  else
    Option.bind (dvi a1 ((σ1 a0 7))) fun z2 =>
    BX12_laysPlace_68 a0 a1 σ1 a0 z2
set_option maxHeartbeats 4000000 in
set_option maxRecDepth 100000 in
theorem bX12_laysPlace_19 {X : CX} {n : Nat} {ρ : Rho} {res : Sto} (hC : Cx X cX12_laysPlace RX12 0) (hml : (xc X).maxLocals = 2) (hR : RtV X cX12_laysPlace 0 0 n res ρ) (a0 : Nat) (a1 : Int32) (h0 : Sh n a0 11) : ∀ (σ : Sto) (t0 : Nat) (t1 : Int32) (ht0 : Sh n t0 11), BX12_laysPlace_19 a0 a1 σ t0 t1 = some res → G X 0 0 n σ ρ 19 [(0, vr X a0), (1, .int a1)] [.int t1, vr X t0] := by
  intro σ t0 t1 ht0 hM
  unfold BX12_laysPlace_19 at hM
  refine fp_11_8 hC ht0 k_1090 dX12_laysPlace_19 rfl hM (fun σ1 hM => ?_)
  refine g_aload_n hC dX12_laysPlace_22 rfl 0 rfl ?_
  refine g_iload_n hC dX12_laysPlace_23 rfl 1 rfl ?_
  refine g_aload_n hC dX12_laysPlace_24 rfl 0 rfl ?_
  refine fg_11_7 hC h0 k_1089 dX12_laysPlace_25 rfl ?_
  refine g_aload_n hC dX12_laysPlace_28 rfl 0 rfl ?_
  refine fg_11_7 hC h0 k_1089 dX12_laysPlace_29 rfl ?_
  refine g_imul hC dX12_laysPlace_32 rfl ?_
  refine g_icmp_ge (tgt := 45) hC dX12_laysPlace_33 rfl (by decide) hM (fun hM => ?_) (fun hM => ?_)
  · refine g_iload_n hC dX12_laysPlace_45 rfl 1 rfl ?_
    refine g_aload_n hC dX12_laysPlace_46 rfl 0 rfl ?_
    refine fg_11_7 hC h0 k_1089 dX12_laysPlace_47 rfl ?_
    refine g_aload_n hC dX12_laysPlace_50 rfl 0 rfl ?_
    refine fg_11_7 hC h0 k_1089 dX12_laysPlace_51 rfl ?_
    refine g_imul hC dX12_laysPlace_54 rfl ?_
    refine g_aload_n hC dX12_laysPlace_55 rfl 0 rfl ?_
    refine fg_11_7 hC h0 k_1089 dX12_laysPlace_56 rfl ?_
    refine g_iadd hC dX12_laysPlace_59 rfl ?_
    refine g_icmp_ge (tgt := 67) hC dX12_laysPlace_60 rfl (by decide) hM (fun hM => ?_) (fun hM => ?_)
    · refine g_iconst (v := 0) hC dX12_laysPlace_67 rfl ic_0 ?_
      exact g_sub [0, 1] ((bX12_laysPlace_68 hC hml hR a0 a1 h0 ) _ _ _ h0 hM) rfl
    · refine g_iconst (v := 1) hC dX12_laysPlace_63 rfl ic_1 ?_
      refine g_goto (tgt := 68) hC dX12_laysPlace_64 rfl (by decide) ?_
      exact g_sub [0, 1] ((bX12_laysPlace_68 hC hml hR a0 a1 h0 ) _ _ _ h0 hM) rfl
  · refine g_iload_n hC dX12_laysPlace_36 rfl 1 rfl ?_
    refine g_aload_n hC dX12_laysPlace_37 rfl 0 rfl ?_
    refine fg_11_7 hC h0 k_1089 dX12_laysPlace_38 rfl ?_
    refine g_idiv hC dX12_laysPlace_41 rfl hM (fun z2 hM => ?_)
    refine g_goto (tgt := 68) hC dX12_laysPlace_42 rfl (by decide) ?_
    exact g_sub [0, 1] ((bX12_laysPlace_68 hC hml hR a0 a1 h0 ) _ _ _ h0 hM) rfl
def MX12_laysPlace (σ : Sto) (a0 : Nat) (a1 : Int32) : Option (Sto) :=
  if ((σ a0 7) * (σ a0 7)) ≤ a1 then
    BX12_laysPlace_19 a0 a1 σ a0 ((0 : Int32))
  else
    BX12_laysPlace_19 a0 a1 σ a0 ((1 : Int32))
set_option maxHeartbeats 4000000 in
set_option maxRecDepth 100000 in
theorem c_X12_laysPlace (E : EX) {n : Nat} {ρ : Rho} {σ : Sto} (a0 : Nat) (h0 : Sh n a0 11) (a1 : Int32) (res : Sto) (hM : MX12_laysPlace σ a0 a1 = some res) : CTv E yX12_laysPlace cX12_laysPlace 2 0 0 0 [.ref (eb E + a0), .int a1] n σ ρ res ρ := by
  refine ct_v (by decide +kernel) (Nat.le_of_ble_eq_true rfl) (fun X hE hml hin hRm hC hR => ?_)
  subst hE
  show G X 0 0 n σ ρ 0 [(0, vr X a0), (1, .int a1)] []
  replace hC : Cx X cX12_laysPlace RX12 0 := hC
  unfold MX12_laysPlace at hM
  refine g_aload_n hC dX12_laysPlace_0 rfl 0 rfl ?_
  refine g_iload_n hC dX12_laysPlace_1 rfl 1 rfl ?_
  refine g_aload_n hC dX12_laysPlace_2 rfl 0 rfl ?_
  refine fg_11_7 hC h0 k_1089 dX12_laysPlace_3 rfl ?_
  refine g_aload_n hC dX12_laysPlace_6 rfl 0 rfl ?_
  refine fg_11_7 hC h0 k_1089 dX12_laysPlace_7 rfl ?_
  refine g_imul hC dX12_laysPlace_10 rfl ?_
  refine g_icmp_ge (tgt := 18) hC dX12_laysPlace_11 rfl (by decide) hM (fun hM => ?_) (fun hM => ?_)
  · refine g_iconst (v := 0) hC dX12_laysPlace_18 rfl ic_0 ?_
    exact g_sub [0, 1] ((bX12_laysPlace_19 hC hml hR a0 a1 h0 ) _ _ _ h0 hM) rfl
  · refine g_iconst (v := 1) hC dX12_laysPlace_14 rfl ic_1 ?_
    refine g_goto (tgt := 19) hC dX12_laysPlace_15 rfl (by decide) ?_
    exact g_sub [0, 1] ((bX12_laysPlace_19 hC hml hR a0 a1 h0 ) _ _ _ h0 hM) rfl
def MX12_numberOf (σ : Sto) (a0 : Nat) (a1 : Int32) (a2 : Int32) (a3 : Int32) : Option (Int32) :=
  Option.bind (MX12_rest σ a0 a1) fun c1 =>
  bn c1 fun y2 =>
  Option.bind (MX12_rest σ a0 a2) fun c3 =>
  bn c3 fun y4 =>
  Option.bind (MX12_rest σ a0 a3) fun c5 =>
  bn c5 fun y6 =>
  if y2 = 0 then
    if y4 = 0 then
      if y6 = 0 then
        some (-1 : Int32)
      else
        some (((σ a0 7) * (σ a0 7)) + (σ a0 7))
    else
      Option.bind (MX12_inverse σ a0 y4) fun c7 =>
      Option.bind (rmi ((y6 * c7)) ((σ a0 7))) fun z8 =>
      some (((σ a0 7) * (σ a0 7)) + z8)
  else
    Option.bind (MX12_inverse σ a0 y2) fun c9 =>
    Option.bind (rmi ((y4 * c9)) ((σ a0 7))) fun z10 =>
    Option.bind (MX12_inverse σ a0 y2) fun c11 =>
    Option.bind (rmi ((y6 * c11)) ((σ a0 7))) fun z12 =>
    some (((σ a0 7) * z10) + z12)
set_option maxHeartbeats 4000000 in
set_option maxRecDepth 100000 in
theorem c_X12_numberOf (E : EX) {n : Nat} {ρ : Rho} {σ : Sto} (a0 : Nat) (h0 : Sh n a0 11) (a1 : Int32) (a2 : Int32) (a3 : Int32) (res : Int32) (hM : MX12_numberOf σ a0 a1 a2 a3 = some res) : CTi E yX12_numberOf cX12_numberOf 7 (some .int) 1 [.ref (eb E + a0), .int a1, .int a2, .int a3] n σ ρ res σ ρ := by
  refine ct_i (by decide +kernel) rfl (Nat.le_of_ble_eq_true rfl) (fun X hE hml hC hR => ?_)
  subst hE
  show G X 0 0 n σ ρ 0 [(0, vr X a0), (1, .int a1), (2, .int a2), (3, .int a3)] []
  replace hC : Cx X cX12_numberOf RX12 1 := hC
  unfold MX12_numberOf at hM
  refine g_aload_n hC dX12_numberOf_0 rfl 0 rfl ?_
  refine g_iload_n hC dX12_numberOf_1 rfl 1 rfl ?_
  refine g_callVi (As := [.int a1]) (st' := []) (k := a0) (L' := 0) hC Y_X12_rest I_X12_rest k_1203 ⟨by decide, by decide⟩ h0 (ci := 11) (by decide) rfl dX12_numberOf_2 rfl rfl rfl (Nat.le_of_ble_eq_true rfl) ⟨Nat.zero_le _, Nat.zero_le _⟩ hM (fun c hc => c_X12_rest (xE X) a0 h0 a1 c hc) (fun c1 hM => ?_)
  refine g_istore hC (fun y2 => [(4, .int y2), (0, vr X a0), (1, .int a1), (2, .int a2), (3, .int a3)]) dX12_numberOf_5 rfl hM hml (by decide) (fun _ => rfl) (fun y2 hM => ?_)
  refine g_aload_n hC dX12_numberOf_7 rfl 1 rfl ?_
  refine g_iload_n hC dX12_numberOf_8 rfl 3 rfl ?_
  refine g_callVi (As := [.int a2]) (st' := []) (k := a0) (L' := 0) hC Y_X12_rest I_X12_rest k_1203 ⟨by decide, by decide⟩ h0 (ci := 11) (by decide) rfl dX12_numberOf_9 rfl rfl rfl (Nat.le_of_ble_eq_true rfl) ⟨Nat.zero_le _, Nat.zero_le _⟩ hM (fun c hc => c_X12_rest (xE X) a0 h0 a2 c hc) (fun c3 hM => ?_)
  refine g_istore hC (fun y4 => [(5, .int y4), (4, .int y2), (0, vr X a0), (1, .int a1), (2, .int a2), (3, .int a3)]) dX12_numberOf_12 rfl hM hml (by decide) (fun _ => rfl) (fun y4 hM => ?_)
  refine g_aload_n hC dX12_numberOf_14 rfl 2 rfl ?_
  refine g_iload_n hC dX12_numberOf_15 rfl 5 rfl ?_
  refine g_callVi (As := [.int a3]) (st' := []) (k := a0) (L' := 0) hC Y_X12_rest I_X12_rest k_1203 ⟨by decide, by decide⟩ h0 (ci := 11) (by decide) rfl dX12_numberOf_16 rfl rfl rfl (Nat.le_of_ble_eq_true rfl) ⟨Nat.zero_le _, Nat.zero_le _⟩ hM (fun c hc => c_X12_rest (xE X) a0 h0 a3 c hc) (fun c5 hM => ?_)
  refine g_istore hC (fun y6 => [(6, .int y6), (5, .int y4), (4, .int y2), (0, vr X a0), (1, .int a1), (2, .int a2), (3, .int a3)]) dX12_numberOf_19 rfl hM hml (by decide) (fun _ => rfl) (fun y6 hM => ?_)
  refine g_iload hC dX12_numberOf_21 rfl 2 rfl ?_
  refine g_if_eq (tgt := 61) hC dX12_numberOf_23 rfl (by decide) hM (fun hM => ?_) (fun hM => ?_)
  · refine g_iload hC dX12_numberOf_61 rfl 1 rfl ?_
    refine g_if_eq (tgt := 91) hC dX12_numberOf_63 rfl (by decide) hM (fun hM => ?_) (fun hM => ?_)
    · refine g_iload hC dX12_numberOf_91 rfl 0 rfl ?_
      refine g_if_eq (tgt := 113) hC dX12_numberOf_93 rfl (by decide) hM (fun hM => ?_) (fun hM => ?_)
      · refine g_iconst (v := -1) hC dX12_numberOf_113 rfl ic_m1 ?_
        obtain rfl := Option.some.inj hM
        exact g_reti hR dX12_numberOf_114 rfl
      · refine g_aload_n hC dX12_numberOf_96 rfl 3 rfl ?_
        refine fg_11_7 hC h0 k_1089 dX12_numberOf_97 rfl ?_
        refine g_aload_n hC dX12_numberOf_100 rfl 3 rfl ?_
        refine fg_11_7 hC h0 k_1089 dX12_numberOf_101 rfl ?_
        refine g_imul hC dX12_numberOf_104 rfl ?_
        refine g_aload_n hC dX12_numberOf_105 rfl 3 rfl ?_
        refine fg_11_7 hC h0 k_1089 dX12_numberOf_106 rfl ?_
        refine g_iadd hC dX12_numberOf_109 rfl ?_
        refine g_goto (tgt := 114) hC dX12_numberOf_110 rfl (by decide) ?_
        cases hM
        exact g_reti hR dX12_numberOf_114 rfl
    · refine g_aload_n hC dX12_numberOf_66 rfl 3 rfl ?_
      refine fg_11_7 hC h0 k_1089 dX12_numberOf_67 rfl ?_
      refine g_aload_n hC dX12_numberOf_70 rfl 3 rfl ?_
      refine fg_11_7 hC h0 k_1089 dX12_numberOf_71 rfl ?_
      refine g_imul hC dX12_numberOf_74 rfl ?_
      refine g_iload hC dX12_numberOf_75 rfl 0 rfl ?_
      refine g_aload_n hC dX12_numberOf_77 rfl 3 rfl ?_
      refine g_iload hC dX12_numberOf_78 rfl 1 rfl ?_
      refine g_callVi (As := [.int y4]) (st' := [.int y6, .int (((σ a0 7) * (σ a0 7)))]) (k := a0) (L' := 0) hC Y_X12_inverse I_X12_inverse k_1219 ⟨by decide, by decide⟩ h0 (ci := 11) (by decide) rfl dX12_numberOf_80 rfl rfl rfl (Nat.le_of_ble_eq_true rfl) ⟨Nat.zero_le _, Nat.zero_le _⟩ hM (fun c hc => c_X12_inverse (xE X) a0 h0 y4 c hc) (fun c7 hM => ?_)
      refine g_imul hC dX12_numberOf_83 rfl ?_
      refine g_aload_n hC dX12_numberOf_84 rfl 3 rfl ?_
      refine fg_11_7 hC h0 k_1089 dX12_numberOf_85 rfl ?_
      refine g_irem hC dX12_numberOf_88 rfl hM (fun z8 hM => ?_)
      refine g_iadd hC dX12_numberOf_89 rfl ?_
      cases hM
      exact g_reti hR dX12_numberOf_90 rfl
  · refine g_aload_n hC dX12_numberOf_26 rfl 3 rfl ?_
    refine fg_11_7 hC h0 k_1089 dX12_numberOf_27 rfl ?_
    refine g_iload hC dX12_numberOf_30 rfl 1 rfl ?_
    refine g_aload_n hC dX12_numberOf_32 rfl 3 rfl ?_
    refine g_iload hC dX12_numberOf_33 rfl 2 rfl ?_
    refine g_callVi (As := [.int y2]) (st' := [.int y4, .int ((σ a0 7))]) (k := a0) (L' := 0) hC Y_X12_inverse I_X12_inverse k_1219 ⟨by decide, by decide⟩ h0 (ci := 11) (by decide) rfl dX12_numberOf_35 rfl rfl rfl (Nat.le_of_ble_eq_true rfl) ⟨Nat.zero_le _, Nat.zero_le _⟩ hM (fun c hc => c_X12_inverse (xE X) a0 h0 y2 c hc) (fun c9 hM => ?_)
    refine g_imul hC dX12_numberOf_38 rfl ?_
    refine g_aload_n hC dX12_numberOf_39 rfl 3 rfl ?_
    refine fg_11_7 hC h0 k_1089 dX12_numberOf_40 rfl ?_
    refine g_irem hC dX12_numberOf_43 rfl hM (fun z10 hM => ?_)
    refine g_imul hC dX12_numberOf_44 rfl ?_
    refine g_iload hC dX12_numberOf_45 rfl 0 rfl ?_
    refine g_aload_n hC dX12_numberOf_47 rfl 3 rfl ?_
    refine g_iload hC dX12_numberOf_48 rfl 2 rfl ?_
    refine g_callVi (As := [.int y2]) (st' := [.int y6, .int (((σ a0 7) * z10))]) (k := a0) (L' := 0) hC Y_X12_inverse I_X12_inverse k_1219 ⟨by decide, by decide⟩ h0 (ci := 11) (by decide) rfl dX12_numberOf_50 rfl rfl rfl (Nat.le_of_ble_eq_true rfl) ⟨Nat.zero_le _, Nat.zero_le _⟩ hM (fun c hc => c_X12_inverse (xE X) a0 h0 y2 c hc) (fun c11 hM => ?_)
    refine g_imul hC dX12_numberOf_53 rfl ?_
    refine g_aload_n hC dX12_numberOf_54 rfl 3 rfl ?_
    refine fg_11_7 hC h0 k_1089 dX12_numberOf_55 rfl ?_
    refine g_irem hC dX12_numberOf_58 rfl hM (fun z12 hM => ?_)
    refine g_iadd hC dX12_numberOf_59 rfl ?_
    cases hM
    exact g_reti hR dX12_numberOf_60 rfl
def MX12_isOnLine (σ : Sto) (a0 : Nat) (a1 : Int32) (a2 : Int32) : Option (Int32 × Sto) :=
  Option.bind (MX12_laysPlace σ a0 a2) fun c1 =>
  bn ((c1 a0 8)) fun y2 =>
  bn ((c1 a0 9)) fun y3 =>
  bn ((c1 a0 10)) fun y4 =>
  Option.bind (MX12_laysPlace c1 a0 a1) fun c5 =>
  Option.bind (rmi ((((y2 * (c5 a0 8)) + (y3 * (c5 a0 9))) + (y4 * (c5 a0 10)))) ((c5 a0 7))) fun z6 =>
  if z6 = 0 then
    zr ((1 : Int32)) (some ((1 : Int32), c5))
  else
    zr ((0 : Int32)) (some ((0 : Int32), c5))
set_option maxHeartbeats 4000000 in
set_option maxRecDepth 100000 in
theorem c_X12_isOnLine (E : EX) {n : Nat} {ρ : Rho} {σ : Sto} (a0 : Nat) (h0 : Sh n a0 11) (a1 : Int32) (a2 : Int32) (res : Int32 × Sto) (hM : MX12_isOnLine σ a0 a1 a2 = some res) : CTi E yX12_isOnLine cX12_isOnLine 6 (some .boolean) 1 [.ref (eb E + a0), .int a1, .int a2] n σ ρ res.1 res.2 ρ := by
  refine ct_i (by decide +kernel) rfl (Nat.le_of_ble_eq_true rfl) (fun X hE hml hC hR => ?_)
  subst hE
  show G X 0 0 n σ ρ 0 [(0, vr X a0), (1, .int a1), (2, .int a2)] []
  replace hC : Cx X cX12_isOnLine RX12 1 := hC
  unfold MX12_isOnLine at hM
  refine g_aload_n hC dX12_isOnLine_0 rfl 0 rfl ?_
  refine g_iload_n hC dX12_isOnLine_1 rfl 2 rfl ?_
  refine g_callVv0 (As := [.int a2]) (st' := []) (k := a0) (L' := 0) hC Y_X12_laysPlace I_X12_laysPlace k_1239 ⟨by decide, by decide⟩ h0 (ci := 11) (by decide) rfl dX12_isOnLine_2 rfl rfl rfl (Nat.le_of_ble_eq_true rfl) ⟨Nat.zero_le _, Nat.zero_le _⟩ hM (fun c hc => c_X12_laysPlace (xE X) a0 h0 a2 c hc) (fun c1 hM => ?_)
  refine g_aload_n hC dX12_isOnLine_5 rfl 0 rfl ?_
  refine fg_11_8 hC h0 k_1090 dX12_isOnLine_6 rfl ?_
  refine g_istore_n hC (fun y2 => [(3, .int y2), (0, vr X a0), (1, .int a1), (2, .int a2)]) dX12_isOnLine_9 rfl hM hml (by decide) (fun _ => rfl) (fun y2 hM => ?_)
  refine g_aload_n hC dX12_isOnLine_10 rfl 1 rfl ?_
  refine fg_11_9 hC h0 k_1091 dX12_isOnLine_11 rfl ?_
  refine g_istore hC (fun y3 => [(4, .int y3), (3, .int y2), (0, vr X a0), (1, .int a1), (2, .int a2)]) dX12_isOnLine_14 rfl hM hml (by decide) (fun _ => rfl) (fun y3 hM => ?_)
  refine g_aload_n hC dX12_isOnLine_16 rfl 2 rfl ?_
  refine fg_11_10 hC h0 k_1092 dX12_isOnLine_17 rfl ?_
  refine g_istore hC (fun y4 => [(5, .int y4), (4, .int y3), (3, .int y2), (0, vr X a0), (1, .int a1), (2, .int a2)]) dX12_isOnLine_20 rfl hM hml (by decide) (fun _ => rfl) (fun y4 hM => ?_)
  refine g_aload_n hC dX12_isOnLine_22 rfl 3 rfl ?_
  refine g_iload_n hC dX12_isOnLine_23 rfl 4 rfl ?_
  refine g_callVv0 (As := [.int a1]) (st' := []) (k := a0) (L' := 0) hC Y_X12_laysPlace I_X12_laysPlace k_1239 ⟨by decide, by decide⟩ h0 (ci := 11) (by decide) rfl dX12_isOnLine_24 rfl rfl rfl (Nat.le_of_ble_eq_true rfl) ⟨Nat.zero_le _, Nat.zero_le _⟩ hM (fun c hc => c_X12_laysPlace (xE X) a0 h0 a1 c hc) (fun c5 hM => ?_)
  refine g_iload_n hC dX12_isOnLine_27 rfl 2 rfl ?_
  refine g_aload_n hC dX12_isOnLine_28 rfl 3 rfl ?_
  refine fg_11_8 hC h0 k_1090 dX12_isOnLine_29 rfl ?_
  refine g_imul hC dX12_isOnLine_32 rfl ?_
  refine g_iload hC dX12_isOnLine_33 rfl 1 rfl ?_
  refine g_aload_n hC dX12_isOnLine_35 rfl 3 rfl ?_
  refine fg_11_9 hC h0 k_1091 dX12_isOnLine_36 rfl ?_
  refine g_imul hC dX12_isOnLine_39 rfl ?_
  refine g_iadd hC dX12_isOnLine_40 rfl ?_
  refine g_iload hC dX12_isOnLine_41 rfl 0 rfl ?_
  refine g_aload_n hC dX12_isOnLine_43 rfl 3 rfl ?_
  refine fg_11_10 hC h0 k_1092 dX12_isOnLine_44 rfl ?_
  refine g_imul hC dX12_isOnLine_47 rfl ?_
  refine g_iadd hC dX12_isOnLine_48 rfl ?_
  refine g_aload_n hC dX12_isOnLine_49 rfl 3 rfl ?_
  refine fg_11_7 hC h0 k_1089 dX12_isOnLine_50 rfl ?_
  refine g_irem hC dX12_isOnLine_53 rfl hM (fun z6 hM => ?_)
  refine g_if_ne (tgt := 61) hC dX12_isOnLine_54 rfl (by decide) hM (fun hM => ?_) (fun hM => ?_)
  · refine g_iconst (v := 0) hC dX12_isOnLine_61 rfl ic_0 ?_
    exact g_retz hM dX12_isOnLine_62 rfl (fun h => by cases h; exact hR)
  · refine g_iconst (v := 1) hC dX12_isOnLine_57 rfl ic_1 ?_
    refine g_goto (tgt := 62) hC dX12_isOnLine_58 rfl (by decide) ?_
    exact g_retz hM dX12_isOnLine_62 rfl (fun h => by cases h; exact hR)
def FX12_laysConic_15 (ρ : Rho) (a0 : Nat) (a1 : Int32) (a2 : Int32) (rec : Sto → Int32 → Option (Sto)) (σ : Sto) (v3 : Int32) : Option (Sto) :=
  if (6 : Int32) ≤ v3 then
    some σ
  else
    Option.bind (ρ a0 11) fun j1 =>
    Option.bind (ρ a0 0) fun j2 =>
    Option.bind (ag σ j2 (((a1 + ((6 : Int32) * a2)) + v3))) fun x3 =>
    Option.bind (MX12_rest σ a0 x3) fun c4 =>
    Option.bind (ap σ j1 v3 c4) fun σ5 =>
    bn (v3 + (1 : Int32)) fun y6 =>
    rec σ5 y6
set_option maxHeartbeats 4000000 in
set_option maxRecDepth 100000 in
theorem bX12_laysConic_15 {X : CX} {n : Nat} {ρ : Rho} {res : Sto} (hC : Cx X cX12_laysConic RX12 1) (hml : (xc X).maxLocals = 4) (hR : RtV X cX12_laysConic 0 0 n res ρ) (a0 : Nat) (a1 : Int32) (a2 : Int32) (h0 : Sh n a0 11) (fu : Nat) : ∀ (σ : Sto) (v3 : Int32), fixN (fun _ _ => none) (FX12_laysConic_15 ρ a0 a1 a2) fu σ v3 = some res → G X 0 0 n σ ρ 15 [(0, vr X a0), (1, .int a1), (2, .int a2), (3, .int v3)] [] := by
  refine fixN_ind (P := fun (f : Sto → Int32 → Option (Sto)) => ∀ (σ : Sto) (v3 : Int32), f σ v3 = some res → G X 0 0 n σ ρ 15 [(0, vr X a0), (1, .int a1), (2, .int a2), (3, .int v3)] []) ?_ ?_ fu
  · intro σ v3 hM; cases hM
  · intro rec ih σ v3 hM
    unfold FX12_laysConic_15 at hM
    refine g_iload_n hC dX12_laysConic_15 rfl 3 rfl ?_
    refine g_bipush (v := 6) hC dX12_laysConic_16 rfl ib_6 ?_
    refine g_icmp_ge (tgt := 50) hC dX12_laysConic_18 rfl (by decide) hM (fun hM => ?_) (fun hM => ?_)
    · cases hM
      exact g_retv hR dX12_laysConic_50 rfl
    · refine g_aload_n hC dX12_laysConic_21 rfl 0 rfl ?_
      refine fg_11_11 hC h0 k_1093 dX12_laysConic_22 rfl hM (fun j1 hj1 hM => ?_)
      refine g_iload_n hC dX12_laysConic_25 rfl 3 rfl ?_
      refine g_aload_n hC dX12_laysConic_26 rfl 0 rfl ?_
      refine g_aload_n hC dX12_laysConic_27 rfl 0 rfl ?_
      refine fg_11_0 hC h0 k_1082 dX12_laysConic_28 rfl hM (fun j2 hj2 hM => ?_)
      refine g_iload_n hC dX12_laysConic_31 rfl 1 rfl ?_
      refine g_bipush (v := 6) hC dX12_laysConic_32 rfl ib_6 ?_
      refine g_iload_n hC dX12_laysConic_34 rfl 2 rfl ?_
      refine g_imul hC dX12_laysConic_35 rfl ?_
      refine g_iadd hC dX12_laysConic_36 rfl ?_
      refine g_iload_n hC dX12_laysConic_37 rfl 3 rfl ?_
      refine g_iadd hC dX12_laysConic_38 rfl ?_
      refine g_iald hC hj2 dX12_laysConic_39 rfl hM (fun x3 hM => ?_)
      refine g_callVi (As := [.int x3]) (st' := [.int v3, vr X j1]) (k := a0) (L' := 0) hC Y_X12_rest I_X12_rest k_1203 ⟨by decide, by decide⟩ h0 (ci := 11) (by decide) rfl dX12_laysConic_40 rfl rfl rfl (Nat.le_of_ble_eq_true rfl) ⟨Nat.zero_le _, Nat.zero_le _⟩ hM (fun c hc => c_X12_rest (xE X) a0 h0 x3 c hc) (fun c4 hM => ?_)
      refine g_iast hC hj1 dX12_laysConic_43 rfl hM (fun σ5 hM => ?_)
      refine g_iinc (v := 1) hC (fun y6 => [(3, .int y6), (0, vr X a0), (1, .int a1), (2, .int a2)]) dX12_laysConic_44 rfl hM (j := 3) rfl ic_1 hml (by decide) (fun _ => rfl) (fun y6 hM => ?_)
      refine g_goto (tgt := 15) hC dX12_laysConic_47 rfl (by decide) ?_
      exact g_sub [1, 2, 3, 0] (ih _ _ hM) rfl
def MX12_laysConic (σ : Sto) (ρ : Rho) (a0 : Nat) (a1 : Int32) (a2 : Int32) : Option (Sto) :=
  Option.bind (ρ a0 0) fun j1 =>
  Option.bind (ag σ j1 ((a1 + (36 : Int32)))) fun x2 =>
  bn (su σ a0 7 x2) fun σ3 =>
  bn ((0 : Int32)) fun y4 =>
  fixN (fun _ _ => none) (FX12_laysConic_15 ρ a0 a1 a2) FU σ3 y4
set_option maxHeartbeats 4000000 in
set_option maxRecDepth 100000 in
theorem c_X12_laysConic (E : EX) {n : Nat} {σ : Sto} {ρ : Rho} (a0 : Nat) (h0 : Sh n a0 11) (a1 : Int32) (a2 : Int32) (res : Sto) (hM : MX12_laysConic σ ρ a0 a1 a2 = some res) : CTv E yX12_laysConic cX12_laysConic 4 1 0 0 [.ref (eb E + a0), .int a1, .int a2] n σ ρ res ρ := by
  refine ct_v (by decide +kernel) (Nat.le_of_ble_eq_true rfl) (fun X hE hml hin hRm hC hR => ?_)
  subst hE
  show G X 0 0 n σ ρ 0 [(0, vr X a0), (1, .int a1), (2, .int a2)] []
  replace hC : Cx X cX12_laysConic RX12 1 := hC
  unfold MX12_laysConic at hM
  refine g_aload_n hC dX12_laysConic_0 rfl 0 rfl ?_
  refine g_aload_n hC dX12_laysConic_1 rfl 0 rfl ?_
  refine fg_11_0 hC h0 k_1082 dX12_laysConic_2 rfl hM (fun j1 hj1 hM => ?_)
  refine g_iload_n hC dX12_laysConic_5 rfl 1 rfl ?_
  refine g_bipush (v := 36) hC dX12_laysConic_6 rfl ib_36 ?_
  refine g_iadd hC dX12_laysConic_8 rfl ?_
  refine g_iald hC hj1 dX12_laysConic_9 rfl hM (fun x2 hM => ?_)
  refine fp_11_7 hC h0 k_1089 dX12_laysConic_10 rfl hM (fun σ3 hM => ?_)
  refine g_iconst (v := 0) hC dX12_laysConic_13 rfl ic_0 ?_
  refine g_istore_n hC (fun y4 => [(3, .int y4), (0, vr X a0), (1, .int a1), (2, .int a2)]) dX12_laysConic_14 rfl hM hml (by decide) (fun _ => rfl) (fun y4 hM => ?_)
  exact g_sub [1, 2, 3, 0] ((bX12_laysConic_15 hC hml hR a0 a1 a2 h0  FU) _ _ hM) rfl
def BX12_isVoid_25 (σ : Sto) (ρ : Rho) (a0 : Nat) (v1 : Int32) : Option (Int32) :=
  if v1 = 0 then
    zr ((1 : Int32)) (some (1 : Int32))
  else
    zr ((0 : Int32)) (some (0 : Int32))
set_option maxHeartbeats 4000000 in
set_option maxRecDepth 100000 in
theorem bX12_isVoid_25 {X : CX} {n : Nat} {σ : Sto} {ρ : Rho} {res : Int32} (hC : Cx X cX12_isVoid RX12 0) (hml : (xc X).maxLocals = 3) (hR : RtT (some .boolean) X cX12_isVoid n res σ ρ) (a0 : Nat) (h0 : Sh n a0 11) : ∀ (v1 : Int32), BX12_isVoid_25 σ ρ a0 v1 = some res → G X 0 0 n σ ρ 25 [(0, vr X a0), (1, .int v1)] [] := by
  intro v1 hM
  unfold BX12_isVoid_25 at hM
  refine g_iload_n hC dX12_isVoid_25 rfl 1 rfl ?_
  refine g_if_ne (tgt := 33) hC dX12_isVoid_26 rfl (by decide) hM (fun hM => ?_) (fun hM => ?_)
  · refine g_iconst (v := 0) hC dX12_isVoid_33 rfl ic_0 ?_
    exact g_retz hM dX12_isVoid_34 rfl (fun h => by cases h; exact hR)
  · refine g_iconst (v := 1) hC dX12_isVoid_29 rfl ic_1 ?_
    refine g_goto (tgt := 34) hC dX12_isVoid_30 rfl (by decide) ?_
    exact g_retz hM dX12_isVoid_34 rfl (fun h => by cases h; exact hR)
def FX12_isVoid_4 (σ : Sto) (ρ : Rho) (a0 : Nat) (k25 : Int32 → Option (Int32)) (rec : Int32 → Int32 → Option (Int32)) (v1 : Int32) (v2 : Int32) : Option (Int32) :=
  if (6 : Int32) ≤ v2 then
    k25 v1
  else
    Option.bind (ρ a0 11) fun j1 =>
    Option.bind (ag σ j1 v2) fun x2 =>
    bn ((v1 + x2)) fun y3 =>
    bn (v2 + (1 : Int32)) fun y4 =>
    rec y3 y4
set_option maxHeartbeats 4000000 in
set_option maxRecDepth 100000 in
theorem bX12_isVoid_4 {X : CX} {n : Nat} {σ : Sto} {ρ : Rho} {res : Int32} (hC : Cx X cX12_isVoid RX12 0) (hml : (xc X).maxLocals = 3) (hR : RtT (some .boolean) X cX12_isVoid n res σ ρ) (a0 : Nat) (h0 : Sh n a0 11) (k25 : Int32 → Option (Int32)) (hk25 : ∀ (v1 : Int32), k25 v1 = some res → G X 0 0 n σ ρ 25 [(0, vr X a0), (1, .int v1)] []) (fu : Nat) : ∀ (v1 : Int32) (v2 : Int32), fixN (fun _ _ => none) (FX12_isVoid_4 σ ρ a0 k25) fu v1 v2 = some res → G X 0 0 n σ ρ 4 [(0, vr X a0), (1, .int v1), (2, .int v2)] [] := by
  refine fixN_ind (P := fun (f : Int32 → Int32 → Option (Int32)) => ∀ (v1 : Int32) (v2 : Int32), f v1 v2 = some res → G X 0 0 n σ ρ 4 [(0, vr X a0), (1, .int v1), (2, .int v2)] []) ?_ ?_ fu
  · intro v1 v2 hM; cases hM
  · intro rec ih v1 v2 hM
    unfold FX12_isVoid_4 at hM
    refine g_iload_n hC dX12_isVoid_4 rfl 2 rfl ?_
    refine g_bipush (v := 6) hC dX12_isVoid_5 rfl ib_6 ?_
    refine g_icmp_ge (tgt := 25) hC dX12_isVoid_7 rfl (by decide) hM (fun hM => ?_) (fun hM => ?_)
    · exact g_sub [0, 1] (hk25 _ hM) rfl
    · refine g_iload_n hC dX12_isVoid_10 rfl 1 rfl ?_
      refine g_aload_n hC dX12_isVoid_11 rfl 0 rfl ?_
      refine fg_11_11 hC h0 k_1093 dX12_isVoid_12 rfl hM (fun j1 hj1 hM => ?_)
      refine g_iload_n hC dX12_isVoid_15 rfl 2 rfl ?_
      refine g_iald hC hj1 dX12_isVoid_16 rfl hM (fun x2 hM => ?_)
      refine g_iadd hC dX12_isVoid_17 rfl ?_
      refine g_istore_n hC (fun y3 => [(1, .int y3), (0, vr X a0), (2, .int v2)]) dX12_isVoid_18 rfl hM hml (by decide) (fun _ => rfl) (fun y3 hM => ?_)
      refine g_iinc (v := 1) hC (fun y4 => [(2, .int y4), (1, .int y3), (0, vr X a0)]) dX12_isVoid_19 rfl hM (j := 2) rfl ic_1 hml (by decide) (fun _ => rfl) (fun y4 hM => ?_)
      refine g_goto (tgt := 4) hC dX12_isVoid_22 rfl (by decide) ?_
      exact g_sub [2, 1, 0] (ih _ _ hM) rfl
def MX12_isVoid (σ : Sto) (ρ : Rho) (a0 : Nat) : Option (Int32) :=
  bn ((0 : Int32)) fun y1 =>
  bn ((0 : Int32)) fun y2 =>
  fixN (fun _ _ => none) (FX12_isVoid_4 σ ρ a0 (BX12_isVoid_25 σ ρ a0)) FU y1 y2
set_option maxHeartbeats 4000000 in
set_option maxRecDepth 100000 in
theorem c_X12_isVoid (E : EX) {n : Nat} {σ : Sto} {ρ : Rho} (a0 : Nat) (h0 : Sh n a0 11) (res : Int32) (hM : MX12_isVoid σ ρ a0 = some res) : CTi E yX12_isVoid cX12_isVoid 3 (some .boolean) 0 [.ref (eb E + a0)] n σ ρ res σ ρ := by
  refine ct_i (by decide +kernel) rfl (Nat.le_of_ble_eq_true rfl) (fun X hE hml hC hR => ?_)
  subst hE
  show G X 0 0 n σ ρ 0 [(0, vr X a0)] []
  replace hC : Cx X cX12_isVoid RX12 0 := hC
  unfold MX12_isVoid at hM
  refine g_iconst (v := 0) hC dX12_isVoid_0 rfl ic_0 ?_
  refine g_istore_n hC (fun y1 => [(1, .int y1), (0, vr X a0)]) dX12_isVoid_1 rfl hM hml (by decide) (fun _ => rfl) (fun y1 hM => ?_)
  refine g_iconst (v := 0) hC dX12_isVoid_2 rfl ic_0 ?_
  refine g_istore_n hC (fun y2 => [(2, .int y2), (1, .int y1), (0, vr X a0)]) dX12_isVoid_3 rfl hM hml (by decide) (fun _ => rfl) (fun y2 hM => ?_)
  exact g_sub [2, 1, 0] ((bX12_isVoid_4 hC hml hR a0 h0 (BX12_isVoid_25 σ ρ a0) (bX12_isVoid_25 hC hml hR a0 h0 ) FU) _ _ hM) rfl
def MX12_isOn (σ : Sto) (ρ : Rho) (a0 : Nat) (a1 : Int32) : Option (Int32 × Sto) :=
  Option.bind (MX12_laysPlace σ a0 a1) fun c1 =>
  Option.bind (ρ a0 11) fun j2 =>
  Option.bind (ag c1 j2 ((0 : Int32))) fun x3 =>
  Option.bind (ρ a0 11) fun j4 =>
  Option.bind (ag c1 j4 ((1 : Int32))) fun x5 =>
  Option.bind (ρ a0 11) fun j6 =>
  Option.bind (ag c1 j6 ((2 : Int32))) fun x7 =>
  Option.bind (ρ a0 11) fun j8 =>
  Option.bind (ag c1 j8 ((3 : Int32))) fun x9 =>
  Option.bind (ρ a0 11) fun j10 =>
  Option.bind (ag c1 j10 ((4 : Int32))) fun x11 =>
  Option.bind (ρ a0 11) fun j12 =>
  Option.bind (ag c1 j12 ((5 : Int32))) fun x13 =>
  Option.bind (rmi ((((((((x3 * (c1 a0 8)) * (c1 a0 8)) + ((x5 * (c1 a0 9)) * (c1 a0 9))) + ((x7 * (c1 a0 10)) * (c1 a0 10))) + ((x9 * (c1 a0 9)) * (c1 a0 10))) + ((x11 * (c1 a0 10)) * (c1 a0 8))) + ((x13 * (c1 a0 8)) * (c1 a0 9)))) ((c1 a0 7))) fun z14 =>
  if z14 = 0 then
    zr ((1 : Int32)) (some ((1 : Int32), c1))
  else
    zr ((0 : Int32)) (some ((0 : Int32), c1))
set_option maxHeartbeats 4000000 in
set_option maxRecDepth 100000 in
theorem c_X12_isOn (E : EX) {n : Nat} {σ : Sto} {ρ : Rho} (a0 : Nat) (h0 : Sh n a0 11) (a1 : Int32) (res : Int32 × Sto) (hM : MX12_isOn σ ρ a0 a1 = some res) : CTi E yX12_isOn cX12_isOn 2 (some .boolean) 1 [.ref (eb E + a0), .int a1] n σ ρ res.1 res.2 ρ := by
  refine ct_i (by decide +kernel) rfl (Nat.le_of_ble_eq_true rfl) (fun X hE hml hC hR => ?_)
  subst hE
  show G X 0 0 n σ ρ 0 [(0, vr X a0), (1, .int a1)] []
  replace hC : Cx X cX12_isOn RX12 1 := hC
  unfold MX12_isOn at hM
  refine g_aload_n hC dX12_isOn_0 rfl 0 rfl ?_
  refine g_iload_n hC dX12_isOn_1 rfl 1 rfl ?_
  refine g_callVv0 (As := [.int a1]) (st' := []) (k := a0) (L' := 0) hC Y_X12_laysPlace I_X12_laysPlace k_1239 ⟨by decide, by decide⟩ h0 (ci := 11) (by decide) rfl dX12_isOn_2 rfl rfl rfl (Nat.le_of_ble_eq_true rfl) ⟨Nat.zero_le _, Nat.zero_le _⟩ hM (fun c hc => c_X12_laysPlace (xE X) a0 h0 a1 c hc) (fun c1 hM => ?_)
  refine g_aload_n hC dX12_isOn_5 rfl 0 rfl ?_
  refine fg_11_11 hC h0 k_1093 dX12_isOn_6 rfl hM (fun j2 hj2 hM => ?_)
  refine g_iconst (v := 0) hC dX12_isOn_9 rfl ic_0 ?_
  refine g_iald hC hj2 dX12_isOn_10 rfl hM (fun x3 hM => ?_)
  refine g_aload_n hC dX12_isOn_11 rfl 0 rfl ?_
  refine fg_11_8 hC h0 k_1090 dX12_isOn_12 rfl ?_
  refine g_imul hC dX12_isOn_15 rfl ?_
  refine g_aload_n hC dX12_isOn_16 rfl 0 rfl ?_
  refine fg_11_8 hC h0 k_1090 dX12_isOn_17 rfl ?_
  refine g_imul hC dX12_isOn_20 rfl ?_
  refine g_aload_n hC dX12_isOn_21 rfl 0 rfl ?_
  refine fg_11_11 hC h0 k_1093 dX12_isOn_22 rfl hM (fun j4 hj4 hM => ?_)
  refine g_iconst (v := 1) hC dX12_isOn_25 rfl ic_1 ?_
  refine g_iald hC hj4 dX12_isOn_26 rfl hM (fun x5 hM => ?_)
  refine g_aload_n hC dX12_isOn_27 rfl 0 rfl ?_
  refine fg_11_9 hC h0 k_1091 dX12_isOn_28 rfl ?_
  refine g_imul hC dX12_isOn_31 rfl ?_
  refine g_aload_n hC dX12_isOn_32 rfl 0 rfl ?_
  refine fg_11_9 hC h0 k_1091 dX12_isOn_33 rfl ?_
  refine g_imul hC dX12_isOn_36 rfl ?_
  refine g_iadd hC dX12_isOn_37 rfl ?_
  refine g_aload_n hC dX12_isOn_38 rfl 0 rfl ?_
  refine fg_11_11 hC h0 k_1093 dX12_isOn_39 rfl hM (fun j6 hj6 hM => ?_)
  refine g_iconst (v := 2) hC dX12_isOn_42 rfl ic_2 ?_
  refine g_iald hC hj6 dX12_isOn_43 rfl hM (fun x7 hM => ?_)
  refine g_aload_n hC dX12_isOn_44 rfl 0 rfl ?_
  refine fg_11_10 hC h0 k_1092 dX12_isOn_45 rfl ?_
  refine g_imul hC dX12_isOn_48 rfl ?_
  refine g_aload_n hC dX12_isOn_49 rfl 0 rfl ?_
  refine fg_11_10 hC h0 k_1092 dX12_isOn_50 rfl ?_
  refine g_imul hC dX12_isOn_53 rfl ?_
  refine g_iadd hC dX12_isOn_54 rfl ?_
  refine g_aload_n hC dX12_isOn_55 rfl 0 rfl ?_
  refine fg_11_11 hC h0 k_1093 dX12_isOn_56 rfl hM (fun j8 hj8 hM => ?_)
  refine g_iconst (v := 3) hC dX12_isOn_59 rfl ic_3 ?_
  refine g_iald hC hj8 dX12_isOn_60 rfl hM (fun x9 hM => ?_)
  refine g_aload_n hC dX12_isOn_61 rfl 0 rfl ?_
  refine fg_11_9 hC h0 k_1091 dX12_isOn_62 rfl ?_
  refine g_imul hC dX12_isOn_65 rfl ?_
  refine g_aload_n hC dX12_isOn_66 rfl 0 rfl ?_
  refine fg_11_10 hC h0 k_1092 dX12_isOn_67 rfl ?_
  refine g_imul hC dX12_isOn_70 rfl ?_
  refine g_iadd hC dX12_isOn_71 rfl ?_
  refine g_aload_n hC dX12_isOn_72 rfl 0 rfl ?_
  refine fg_11_11 hC h0 k_1093 dX12_isOn_73 rfl hM (fun j10 hj10 hM => ?_)
  refine g_iconst (v := 4) hC dX12_isOn_76 rfl ic_4 ?_
  refine g_iald hC hj10 dX12_isOn_77 rfl hM (fun x11 hM => ?_)
  refine g_aload_n hC dX12_isOn_78 rfl 0 rfl ?_
  refine fg_11_10 hC h0 k_1092 dX12_isOn_79 rfl ?_
  refine g_imul hC dX12_isOn_82 rfl ?_
  refine g_aload_n hC dX12_isOn_83 rfl 0 rfl ?_
  refine fg_11_8 hC h0 k_1090 dX12_isOn_84 rfl ?_
  refine g_imul hC dX12_isOn_87 rfl ?_
  refine g_iadd hC dX12_isOn_88 rfl ?_
  refine g_aload_n hC dX12_isOn_89 rfl 0 rfl ?_
  refine fg_11_11 hC h0 k_1093 dX12_isOn_90 rfl hM (fun j12 hj12 hM => ?_)
  refine g_iconst (v := 5) hC dX12_isOn_93 rfl ic_5 ?_
  refine g_iald hC hj12 dX12_isOn_94 rfl hM (fun x13 hM => ?_)
  refine g_aload_n hC dX12_isOn_95 rfl 0 rfl ?_
  refine fg_11_8 hC h0 k_1090 dX12_isOn_96 rfl ?_
  refine g_imul hC dX12_isOn_99 rfl ?_
  refine g_aload_n hC dX12_isOn_100 rfl 0 rfl ?_
  refine fg_11_9 hC h0 k_1091 dX12_isOn_101 rfl ?_
  refine g_imul hC dX12_isOn_104 rfl ?_
  refine g_iadd hC dX12_isOn_105 rfl ?_
  refine g_aload_n hC dX12_isOn_106 rfl 0 rfl ?_
  refine fg_11_7 hC h0 k_1089 dX12_isOn_107 rfl ?_
  refine g_irem hC dX12_isOn_110 rfl hM (fun z14 hM => ?_)
  refine g_if_ne (tgt := 118) hC dX12_isOn_111 rfl (by decide) hM (fun hM => ?_) (fun hM => ?_)
  · refine g_iconst (v := 0) hC dX12_isOn_118 rfl ic_0 ?_
    exact g_retz hM dX12_isOn_119 rfl (fun h => by cases h; exact hR)
  · refine g_iconst (v := 1) hC dX12_isOn_114 rfl ic_1 ?_
    refine g_goto (tgt := 119) hC dX12_isOn_115 rfl (by decide) ?_
    exact g_retz hM dX12_isOn_119 rfl (fun h => by cases h; exact hR)
