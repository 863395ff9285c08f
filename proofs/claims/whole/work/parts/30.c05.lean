def BX6_fallen_37 (ρ : Rho) (a0 : Nat) (rec : Sto → Int32 → Int32 → Option (Int32 × Sto)) (σ : Sto) (v1 : Int32) (v2 : Int32) : Option (Int32 × Sto) :=
  bn (v2 + (1 : Int32)) fun y1 =>
  rec σ v1 y1
set_option maxHeartbeats 4000000 in
set_option maxRecDepth 100000 in
theorem bX6_fallen_37 {X : CX} {n : Nat} {ρ : Rho} {res : Int32 × Sto} (hC : Cx X cX6_fallen RX6 5) (hml : (xc X).maxLocals = 3) (hR : RtT (some .int) X cX6_fallen n res.1 res.2 ρ) (a0 : Nat) (h0 : Sh n a0 5) (rec : Sto → Int32 → Int32 → Option (Int32 × Sto)) (ih : ∀ (σ : Sto) (v1 : Int32) (v2 : Int32), rec σ v1 v2 = some res → G X 0 0 n σ ρ 4 [(0, vr X a0), (1, .int v1), (2, .int v2)] []) : ∀ (σ : Sto) (v1 : Int32) (v2 : Int32), BX6_fallen_37 ρ a0 rec σ v1 v2 = some res → G X 0 0 n σ ρ 37 [(0, vr X a0), (1, .int v1), (2, .int v2)] [] := by
  intro σ v1 v2 hM
  unfold BX6_fallen_37 at hM
  refine g_iinc (v := 1) hC (fun y1 => [(2, .int y1), (0, vr X a0), (1, .int v1)]) dX6_fallen_37 rfl hM (j := 2) rfl ic_1 hml (by decide) (fun _ => rfl) (fun y1 hM => ?_)
  refine g_goto (tgt := 4) hC dX6_fallen_40 rfl (by decide) ?_
  exact g_sub [1, 2, 0] (ih _ _ _ hM) rfl
def FX6_fallen_4 (ρ : Rho) (a0 : Nat) (rec : Sto → Int32 → Int32 → Option (Int32 × Sto)) (σ : Sto) (v1 : Int32) (v2 : Int32) : Option (Int32 × Sto) :=
  Option.bind (ρ a0 0) fun j1 =>
  if (σ j1 1) < v2 then
    some (v1, σ)
  else
    Option.bind (MX6_takeMember σ ρ a0 v2) fun c2 =>
    if c2.1 = 0 then
      BX6_fallen_37 ρ a0 rec c2.2 v1 v2
    else
      Option.bind (ρ a0 2) fun j3 =>
      Option.bind (MX0_kind c2.2 ρ j3) fun c4 =>
      if c4 = (4 : Int32) then
        BX6_fallen_37 ρ a0 rec c2.2 v1 v2
      else
        bn (v1 + (1 : Int32)) fun y5 =>
        BX6_fallen_37 ρ a0 rec c2.2 y5 v2
set_option maxHeartbeats 4000000 in
set_option maxRecDepth 100000 in
theorem bX6_fallen_4 {X : CX} {n : Nat} {ρ : Rho} {res : Int32 × Sto} (hC : Cx X cX6_fallen RX6 5) (hml : (xc X).maxLocals = 3) (hR : RtT (some .int) X cX6_fallen n res.1 res.2 ρ) (a0 : Nat) (h0 : Sh n a0 5) (fu : Nat) : ∀ (σ : Sto) (v1 : Int32) (v2 : Int32), fixN (fun _ _ _ => none) (FX6_fallen_4 ρ a0) fu σ v1 v2 = some res → G X 0 0 n σ ρ 4 [(0, vr X a0), (1, .int v1), (2, .int v2)] [] := by
  refine fixN_ind (P := fun (f : Sto → Int32 → Int32 → Option (Int32 × Sto)) => ∀ (σ : Sto) (v1 : Int32) (v2 : Int32), f σ v1 v2 = some res → G X 0 0 n σ ρ 4 [(0, vr X a0), (1, .int v1), (2, .int v2)] []) ?_ ?_ fu
  · intro σ v1 v2 hM; cases hM
  · intro rec ih σ v1 v2 hM
    unfold FX6_fallen_4 at hM
    refine g_iload_n hC dX6_fallen_4 rfl 2 rfl ?_
    refine g_aload_n hC dX6_fallen_5 rfl 0 rfl ?_
    refine fg_5_0 hC h0 k_335 dX6_fallen_6 rfl hM (fun j1 hj1 hM => ?_)
    refine fg_0_1 hC hj1 k_327 dX6_fallen_9 rfl ?_
    refine g_icmp_gt (tgt := 43) hC dX6_fallen_12 rfl (by decide) hM (fun hM => ?_) (fun hM => ?_)
    · refine g_iload_n hC dX6_fallen_43 rfl 1 rfl ?_
      cases hM
      exact g_reti hR dX6_fallen_44 rfl
    · refine g_aload_n hC dX6_fallen_15 rfl 0 rfl ?_
      refine g_iload_n hC dX6_fallen_16 rfl 2 rfl ?_
      refine g_callVi (As := [.int v2]) (st' := []) (k := a0) (L' := 4) hC Y_X6_takeMember I_X6_takeMember k_1014 ⟨by decide, by decide⟩ h0 (ci := 5) (by decide) rfl dX6_fallen_17 rfl rfl rfl (Nat.le_of_ble_eq_true rfl) ⟨Nat.zero_le _, Nat.zero_le _⟩ hM (fun c hc => c_X6_takeMember (xE X) a0 h0 v2 c hc) (fun c2 hM => ?_)
      refine g_if_eq (tgt := 37) hC dX6_fallen_20 rfl (by decide) hM (fun hM => ?_) (fun hM => ?_)
      · exact g_sub [0, 1, 2] ((bX6_fallen_37 hC hml hR a0 h0 rec ih ) _ _ _ hM) rfl
      · refine g_aload_n hC dX6_fallen_23 rfl 0 rfl ?_
        refine fg_5_2 hC h0 k_337 dX6_fallen_24 rfl hM (fun j3 hj3 hM => ?_)
        refine g_callVi (As := []) (st' := []) (k := j3) (L' := 4) hC Y_X0_kind I_X0_kind k_1015 ⟨by decide, by decide⟩ hj3 (ci := 0) (by decide) rfl dX6_fallen_27 rfl rfl rfl (Nat.le_of_ble_eq_true rfl) ⟨Nat.zero_le _, Nat.zero_le _⟩ hM (fun c hc => c_X0_kind (xE X) j3 hj3 c hc) (fun c4 hM => ?_)
        refine g_iconst (v := 4) hC dX6_fallen_30 rfl ic_4 ?_
        refine g_icmp_eq (tgt := 37) hC dX6_fallen_31 rfl (by decide) hM (fun hM => ?_) (fun hM => ?_)
        · exact g_sub [0, 1, 2] ((bX6_fallen_37 hC hml hR a0 h0 rec ih ) _ _ _ hM) rfl
        · refine g_iinc (v := 1) hC (fun y5 => [(1, .int y5), (0, vr X a0), (2, .int v2)]) dX6_fallen_34 rfl hM (j := 1) rfl ic_1 hml (by decide) (fun _ => rfl) (fun y5 hM => ?_)
          exact g_sub [1, 0, 2] ((bX6_fallen_37 hC hml hR a0 h0 rec ih ) _ _ _ hM) rfl
def MX6_fallen (σ : Sto) (ρ : Rho) (a0 : Nat) : Option (Int32 × Sto) :=
  bn ((0 : Int32)) fun y1 =>
  bn ((0 : Int32)) fun y2 =>
  fixN (fun _ _ _ => none) (FX6_fallen_4 ρ a0) FU σ y1 y2
set_option maxHeartbeats 4000000 in
set_option maxRecDepth 100000 in
theorem c_X6_fallen (E : EX) {n : Nat} {σ : Sto} {ρ : Rho} (a0 : Nat) (h0 : Sh n a0 5) (res : Int32 × Sto) (hM : MX6_fallen σ ρ a0 = some res) : CTi E yX6_fallen cX6_fallen 3 (some .int) 5 [.ref (eb E + a0)] n σ ρ res.1 res.2 ρ := by
  refine ct_i (by decide +kernel) rfl (Nat.le_of_ble_eq_true rfl) (fun X hE hml hC hR => ?_)
  subst hE
  show G X 0 0 n σ ρ 0 [(0, vr X a0)] []
  replace hC : Cx X cX6_fallen RX6 5 := hC
  unfold MX6_fallen at hM
  refine g_iconst (v := 0) hC dX6_fallen_0 rfl ic_0 ?_
  refine g_istore_n hC (fun y1 => [(1, .int y1), (0, vr X a0)]) dX6_fallen_1 rfl hM hml (by decide) (fun _ => rfl) (fun y1 hM => ?_)
  refine g_iconst (v := 0) hC dX6_fallen_2 rfl ic_0 ?_
  refine g_istore_n hC (fun y2 => [(2, .int y2), (1, .int y1), (0, vr X a0)]) dX6_fallen_3 rfl hM hml (by decide) (fun _ => rfl) (fun y2 hM => ?_)
  exact g_sub [2, 1, 0] ((bX6_fallen_4 hC hml hR a0 h0  FU) _ _ _ hM) rfl
def MX6_isOfBase (σ : Sto) (ρ : Rho) (a0 : Nat) (a1 : Int32) : Option (Int32 × Sto) :=
  Option.bind (ρ a0 3) fun j1 =>
  Option.bind (ρ a0 0) fun j2 =>
  Option.bind (MX10_take σ j1 a1 ((σ j2 1))) fun c3 =>
  if c3.1 = 0 then
    zr ((0 : Int32)) (some ((0 : Int32), c3.2))
  else
    Option.bind (ρ a0 0) fun j4 =>
    Option.bind (ρ a0 3) fun j5 =>
    Option.bind (MX0_valueAt c3.2 ρ j4 j5) fun c6 =>
    if c6 = 0 then
      Option.bind (ρ a0 1) fun j7 =>
      Option.bind (ρ a0 3) fun j8 =>
      Option.bind (MX0_valueAt c3.2 ρ j7 j8) fun c9 =>
      if c9 = 0 then
        zr ((1 : Int32)) (some ((1 : Int32), c3.2))
      else
        zr ((0 : Int32)) (some ((0 : Int32), c3.2))
    else
      zr ((0 : Int32)) (some ((0 : Int32), c3.2))
set_option maxHeartbeats 4000000 in
set_option maxRecDepth 100000 in
theorem c_X6_isOfBase (E : EX) {n : Nat} {σ : Sto} {ρ : Rho} (a0 : Nat) (h0 : Sh n a0 5) (a1 : Int32) (res : Int32 × Sto) (hM : MX6_isOfBase σ ρ a0 a1 = some res) : CTi E yX6_isOfBase cX6_isOfBase 2 (some .boolean) 3 [.ref (eb E + a0), .int a1] n σ ρ res.1 res.2 ρ := by
  refine ct_i (by decide +kernel) rfl (Nat.le_of_ble_eq_true rfl) (fun X hE hml hC hR => ?_)
  subst hE
  show G X 0 0 n σ ρ 0 [(0, vr X a0), (1, .int a1)] []
  replace hC : Cx X cX6_isOfBase RX6 3 := hC
  unfold MX6_isOfBase at hM
  refine g_aload_n hC dX6_isOfBase_0 rfl 0 rfl ?_
  refine fg_5_3 hC h0 k_339 dX6_isOfBase_1 rfl hM (fun j1 hj1 hM => ?_)
  refine g_iload_n hC dX6_isOfBase_4 rfl 1 rfl ?_
  refine g_aload_n hC dX6_isOfBase_5 rfl 0 rfl ?_
  refine fg_5_0 hC h0 k_335 dX6_isOfBase_6 rfl hM (fun j2 hj2 hM => ?_)
  refine fg_0_1 hC hj2 k_327 dX6_isOfBase_9 rfl ?_
  refine g_callVi (As := [.int a1, .int ((σ j2 1))]) (st' := []) (k := j1) (L' := 1) hC Y_X10_take I_X10_take k_1004 ⟨by decide, by decide⟩ hj1 (ci := 9) (by decide) rfl dX6_isOfBase_12 rfl rfl rfl (Nat.le_of_ble_eq_true rfl) ⟨Nat.zero_le _, Nat.zero_le _⟩ hM (fun c hc => c_X10_take (xE X) j1 hj1 a1 ((σ j2 1)) c hc) (fun c3 hM => ?_)
  refine g_if_eq (tgt := 50) hC dX6_isOfBase_15 rfl (by decide) hM (fun hM => ?_) (fun hM => ?_)
  · refine g_iconst (v := 0) hC dX6_isOfBase_50 rfl ic_0 ?_
    exact g_retz hM dX6_isOfBase_51 rfl (fun h => by cases h; exact hR)
  · refine g_aload_n hC dX6_isOfBase_18 rfl 0 rfl ?_
    refine fg_5_0 hC h0 k_335 dX6_isOfBase_19 rfl hM (fun j4 hj4 hM => ?_)
    refine g_aload_n hC dX6_isOfBase_22 rfl 0 rfl ?_
    refine fg_5_3 hC h0 k_339 dX6_isOfBase_23 rfl hM (fun j5 hj5 hM => ?_)
    refine g_callVi (As := [vr X j5]) (st' := []) (k := j4) (L' := 2) hC Y_X0_valueAt I_X0_valueAt k_1005 ⟨by decide, by decide⟩ hj4 (ci := 0) (by decide) rfl dX6_isOfBase_26 rfl rfl rfl (Nat.le_of_ble_eq_true rfl) ⟨Nat.zero_le _, Nat.zero_le _⟩ hM (fun c hc => c_X0_valueAt (xE X) j4 hj4 j5 hj5 c hc) (fun c6 hM => ?_)
    refine g_if_ne (tgt := 50) hC dX6_isOfBase_29 rfl (by decide) hM (fun hM => ?_) (fun hM => ?_)
    · refine g_iconst (v := 0) hC dX6_isOfBase_50 rfl ic_0 ?_
      exact g_retz hM dX6_isOfBase_51 rfl (fun h => by cases h; exact hR)
    · refine g_aload_n hC dX6_isOfBase_32 rfl 0 rfl ?_
      refine fg_5_1 hC h0 k_336 dX6_isOfBase_33 rfl hM (fun j7 hj7 hM => ?_)
      refine g_aload_n hC dX6_isOfBase_36 rfl 0 rfl ?_
      refine fg_5_3 hC h0 k_339 dX6_isOfBase_37 rfl hM (fun j8 hj8 hM => ?_)
      refine g_callVi (As := [vr X j8]) (st' := []) (k := j7) (L' := 2) hC Y_X0_valueAt I_X0_valueAt k_1005 ⟨by decide, by decide⟩ hj7 (ci := 0) (by decide) rfl dX6_isOfBase_40 rfl rfl rfl (Nat.le_of_ble_eq_true rfl) ⟨Nat.zero_le _, Nat.zero_le _⟩ hM (fun c hc => c_X0_valueAt (xE X) j7 hj7 j8 hj8 c hc) (fun c9 hM => ?_)
      refine g_if_ne (tgt := 50) hC dX6_isOfBase_43 rfl (by decide) hM (fun hM => ?_) (fun hM => ?_)
      · refine g_iconst (v := 0) hC dX6_isOfBase_50 rfl ic_0 ?_
        exact g_retz hM dX6_isOfBase_51 rfl (fun h => by cases h; exact hR)
      · refine g_iconst (v := 1) hC dX6_isOfBase_46 rfl ic_1 ?_
        refine g_goto (tgt := 51) hC dX6_isOfBase_47 rfl (by decide) ?_
        exact g_retz hM dX6_isOfBase_51 rfl (fun h => by cases h; exact hR)
def BX6_sizeOfBase_29 (ρ : Rho) (a0 : Nat) (rec : Sto → Int32 → Int32 → Option (Int32 × Sto)) (σ : Sto) (v1 : Int32) (v2 : Int32) : Option (Int32 × Sto) :=
  bn (v2 + (1 : Int32)) fun y1 =>
  rec σ v1 y1
set_option maxHeartbeats 4000000 in
set_option maxRecDepth 100000 in
theorem bX6_sizeOfBase_29 {X : CX} {n : Nat} {ρ : Rho} {res : Int32 × Sto} (hC : Cx X cX6_sizeOfBase RX6 4) (hml : (xc X).maxLocals = 3) (hR : RtT (some .int) X cX6_sizeOfBase n res.1 res.2 ρ) (a0 : Nat) (h0 : Sh n a0 5) (rec : Sto → Int32 → Int32 → Option (Int32 × Sto)) (ih : ∀ (σ : Sto) (v1 : Int32) (v2 : Int32), rec σ v1 v2 = some res → G X 0 0 n σ ρ 4 [(0, vr X a0), (1, .int v1), (2, .int v2)] []) : ∀ (σ : Sto) (v1 : Int32) (v2 : Int32), BX6_sizeOfBase_29 ρ a0 rec σ v1 v2 = some res → G X 0 0 n σ ρ 29 [(0, vr X a0), (1, .int v1), (2, .int v2)] [] := by
  intro σ v1 v2 hM
  unfold BX6_sizeOfBase_29 at hM
  refine g_iinc (v := 1) hC (fun y1 => [(2, .int y1), (0, vr X a0), (1, .int v1)]) dX6_sizeOfBase_29 rfl hM (j := 2) rfl ic_1 hml (by decide) (fun _ => rfl) (fun y1 hM => ?_)
  refine g_goto (tgt := 4) hC dX6_sizeOfBase_32 rfl (by decide) ?_
  exact g_sub [1, 2, 0] (ih _ _ _ hM) rfl
def FX6_sizeOfBase_4 (ρ : Rho) (a0 : Nat) (rec : Sto → Int32 → Int32 → Option (Int32 × Sto)) (σ : Sto) (v1 : Int32) (v2 : Int32) : Option (Int32 × Sto) :=
  Option.bind (ρ a0 0) fun j1 =>
  Option.bind (MX2_points ((σ j1 1))) fun c2 =>
  if c2 ≤ v2 then
    some (v1, σ)
  else
    Option.bind (MX6_isOfBase σ ρ a0 v2) fun c3 =>
    if c3.1 = 0 then
      BX6_sizeOfBase_29 ρ a0 rec c3.2 v1 v2
    else
      bn (v1 + (1 : Int32)) fun y4 =>
      BX6_sizeOfBase_29 ρ a0 rec c3.2 y4 v2
set_option maxHeartbeats 4000000 in
set_option maxRecDepth 100000 in
theorem bX6_sizeOfBase_4 {X : CX} {n : Nat} {ρ : Rho} {res : Int32 × Sto} (hC : Cx X cX6_sizeOfBase RX6 4) (hml : (xc X).maxLocals = 3) (hR : RtT (some .int) X cX6_sizeOfBase n res.1 res.2 ρ) (a0 : Nat) (h0 : Sh n a0 5) (fu : Nat) : ∀ (σ : Sto) (v1 : Int32) (v2 : Int32), fixN (fun _ _ _ => none) (FX6_sizeOfBase_4 ρ a0) fu σ v1 v2 = some res → G X 0 0 n σ ρ 4 [(0, vr X a0), (1, .int v1), (2, .int v2)] [] := by
  refine fixN_ind (P := fun (f : Sto → Int32 → Int32 → Option (Int32 × Sto)) => ∀ (σ : Sto) (v1 : Int32) (v2 : Int32), f σ v1 v2 = some res → G X 0 0 n σ ρ 4 [(0, vr X a0), (1, .int v1), (2, .int v2)] []) ?_ ?_ fu
  · intro σ v1 v2 hM; cases hM
  · intro rec ih σ v1 v2 hM
    unfold FX6_sizeOfBase_4 at hM
    refine g_iload_n hC dX6_sizeOfBase_4 rfl 2 rfl ?_
    refine g_aload_n hC dX6_sizeOfBase_5 rfl 0 rfl ?_
    refine fg_5_0 hC h0 k_335 dX6_sizeOfBase_6 rfl hM (fun j1 hj1 hM => ?_)
    refine fg_0_1 hC hj1 k_327 dX6_sizeOfBase_9 rfl ?_
    refine g_callSi (As := [.int ((σ j1 1))]) (st' := [.int v2]) (L' := 0) hC Y_X2_points k_552 k_999 ⟨by decide, by decide⟩ dX6_sizeOfBase_12 rfl rfl rfl (Nat.le_of_ble_eq_true rfl) ⟨Nat.zero_le _, Nat.zero_le _⟩ hM (fun c hc => c_X2_points (xE X) ((σ j1 1)) c hc) (fun c2 hM => ?_)
    refine g_icmp_ge (tgt := 35) hC dX6_sizeOfBase_15 rfl (by decide) hM (fun hM => ?_) (fun hM => ?_)
    · refine g_iload_n hC dX6_sizeOfBase_35 rfl 1 rfl ?_
      cases hM
      exact g_reti hR dX6_sizeOfBase_36 rfl
    · refine g_aload_n hC dX6_sizeOfBase_18 rfl 0 rfl ?_
      refine g_iload_n hC dX6_sizeOfBase_19 rfl 2 rfl ?_
      refine g_callVi (As := [.int v2]) (st' := []) (k := a0) (L' := 3) hC Y_X6_isOfBase I_X6_isOfBase k_1000 ⟨by decide, by decide⟩ h0 (ci := 5) (by decide) rfl dX6_sizeOfBase_20 rfl rfl rfl (Nat.le_of_ble_eq_true rfl) ⟨Nat.zero_le _, Nat.zero_le _⟩ hM (fun c hc => c_X6_isOfBase (xE X) a0 h0 v2 c hc) (fun c3 hM => ?_)
      refine g_if_eq (tgt := 29) hC dX6_sizeOfBase_23 rfl (by decide) hM (fun hM => ?_) (fun hM => ?_)
      · exact g_sub [0, 1, 2] ((bX6_sizeOfBase_29 hC hml hR a0 h0 rec ih ) _ _ _ hM) rfl
      · refine g_iinc (v := 1) hC (fun y4 => [(1, .int y4), (0, vr X a0), (2, .int v2)]) dX6_sizeOfBase_26 rfl hM (j := 1) rfl ic_1 hml (by decide) (fun _ => rfl) (fun y4 hM => ?_)
        exact g_sub [1, 0, 2] ((bX6_sizeOfBase_29 hC hml hR a0 h0 rec ih ) _ _ _ hM) rfl
def MX6_sizeOfBase (σ : Sto) (ρ : Rho) (a0 : Nat) : Option (Int32 × Sto) :=
  bn ((0 : Int32)) fun y1 =>
  bn ((0 : Int32)) fun y2 =>
  fixN (fun _ _ _ => none) (FX6_sizeOfBase_4 ρ a0) FU σ y1 y2
set_option maxHeartbeats 4000000 in
set_option maxRecDepth 100000 in
theorem c_X6_sizeOfBase (E : EX) {n : Nat} {σ : Sto} {ρ : Rho} (a0 : Nat) (h0 : Sh n a0 5) (res : Int32 × Sto) (hM : MX6_sizeOfBase σ ρ a0 = some res) : CTi E yX6_sizeOfBase cX6_sizeOfBase 3 (some .int) 4 [.ref (eb E + a0)] n σ ρ res.1 res.2 ρ := by
  refine ct_i (by decide +kernel) rfl (Nat.le_of_ble_eq_true rfl) (fun X hE hml hC hR => ?_)
  subst hE
  show G X 0 0 n σ ρ 0 [(0, vr X a0)] []
  replace hC : Cx X cX6_sizeOfBase RX6 4 := hC
  unfold MX6_sizeOfBase at hM
  refine g_iconst (v := 0) hC dX6_sizeOfBase_0 rfl ic_0 ?_
  refine g_istore_n hC (fun y1 => [(1, .int y1), (0, vr X a0)]) dX6_sizeOfBase_1 rfl hM hml (by decide) (fun _ => rfl) (fun y1 hM => ?_)
  refine g_iconst (v := 0) hC dX6_sizeOfBase_2 rfl ic_0 ?_
  refine g_istore_n hC (fun y2 => [(2, .int y2), (1, .int y1), (0, vr X a0)]) dX6_sizeOfBase_3 rfl hM hml (by decide) (fun _ => rfl) (fun y2 hM => ?_)
  exact g_sub [2, 1, 0] ((bX6_sizeOfBase_4 hC hml hR a0 h0  FU) _ _ _ hM) rfl
def BX6_nthOfBase_35 (ρ : Rho) (a0 : Nat) (a1 : Int32) (rec : Sto → Int32 → Int32 → Option (Int32 × Sto)) (σ : Sto) (v2 : Int32) (v3 : Int32) : Option (Int32 × Sto) :=
  bn (v3 + (1 : Int32)) fun y1 =>
  rec σ v2 y1
set_option maxHeartbeats 4000000 in
set_option maxRecDepth 100000 in
theorem bX6_nthOfBase_35 {X : CX} {n : Nat} {ρ : Rho} {res : Int32 × Sto} (hC : Cx X cX6_nthOfBase RX6 4) (hml : (xc X).maxLocals = 4) (hR : RtT (some .int) X cX6_nthOfBase n res.1 res.2 ρ) (a0 : Nat) (a1 : Int32) (h0 : Sh n a0 5) (rec : Sto → Int32 → Int32 → Option (Int32 × Sto)) (ih : ∀ (σ : Sto) (v2 : Int32) (v3 : Int32), rec σ v2 v3 = some res → G X 0 0 n σ ρ 4 [(0, vr X a0), (1, .int a1), (2, .int v2), (3, .int v3)] []) : ∀ (σ : Sto) (v2 : Int32) (v3 : Int32), BX6_nthOfBase_35 ρ a0 a1 rec σ v2 v3 = some res → G X 0 0 n σ ρ 35 [(0, vr X a0), (1, .int a1), (2, .int v2), (3, .int v3)] [] := by
  intro σ v2 v3 hM
  unfold BX6_nthOfBase_35 at hM
  refine g_iinc (v := 1) hC (fun y1 => [(3, .int y1), (0, vr X a0), (1, .int a1), (2, .int v2)]) dX6_nthOfBase_35 rfl hM (j := 3) rfl ic_1 hml (by decide) (fun _ => rfl) (fun y1 hM => ?_)
  refine g_goto (tgt := 4) hC dX6_nthOfBase_38 rfl (by decide) ?_
  exact g_sub [1, 2, 3, 0] (ih _ _ _ hM) rfl
def FX6_nthOfBase_4 (ρ : Rho) (a0 : Nat) (a1 : Int32) (rec : Sto → Int32 → Int32 → Option (Int32 × Sto)) (σ : Sto) (v2 : Int32) (v3 : Int32) : Option (Int32 × Sto) :=
  Option.bind (ρ a0 0) fun j1 =>
  Option.bind (MX2_points ((σ j1 1))) fun c2 =>
  if c2 ≤ v3 then
    some ((-1 : Int32), σ)
  else
    Option.bind (MX6_isOfBase σ ρ a0 v3) fun c3 =>
    if c3.1 = 0 then
      BX6_nthOfBase_35 ρ a0 a1 rec c3.2 v2 v3
    else
      if v2 = 0 then
        some (v3, c3.2)
      else
        bn (v2 + (-1 : Int32)) fun y4 =>
        BX6_nthOfBase_35 ρ a0 a1 rec c3.2 y4 v3
set_option maxHeartbeats 4000000 in
set_option maxRecDepth 100000 in
theorem bX6_nthOfBase_4 {X : CX} {n : Nat} {ρ : Rho} {res : Int32 × Sto} (hC : Cx X cX6_nthOfBase RX6 4) (hml : (xc X).maxLocals = 4) (hR : RtT (some .int) X cX6_nthOfBase n res.1 res.2 ρ) (a0 : Nat) (a1 : Int32) (h0 : Sh n a0 5) (fu : Nat) : ∀ (σ : Sto) (v2 : Int32) (v3 : Int32), fixN (fun _ _ _ => none) (FX6_nthOfBase_4 ρ a0 a1) fu σ v2 v3 = some res → G X 0 0 n σ ρ 4 [(0, vr X a0), (1, .int a1), (2, .int v2), (3, .int v3)] [] := by
  refine fixN_ind (P := fun (f : Sto → Int32 → Int32 → Option (Int32 × Sto)) => ∀ (σ : Sto) (v2 : Int32) (v3 : Int32), f σ v2 v3 = some res → G X 0 0 n σ ρ 4 [(0, vr X a0), (1, .int a1), (2, .int v2), (3, .int v3)] []) ?_ ?_ fu
  · intro σ v2 v3 hM; cases hM
  · intro rec ih σ v2 v3 hM
    unfold FX6_nthOfBase_4 at hM
    refine g_iload_n hC dX6_nthOfBase_4 rfl 3 rfl ?_
    refine g_aload_n hC dX6_nthOfBase_5 rfl 0 rfl ?_
    refine fg_5_0 hC h0 k_335 dX6_nthOfBase_6 rfl hM (fun j1 hj1 hM => ?_)
    refine fg_0_1 hC hj1 k_327 dX6_nthOfBase_9 rfl ?_
    refine g_callSi (As := [.int ((σ j1 1))]) (st' := [.int v3]) (L' := 0) hC Y_X2_points k_552 k_999 ⟨by decide, by decide⟩ dX6_nthOfBase_12 rfl rfl rfl (Nat.le_of_ble_eq_true rfl) ⟨Nat.zero_le _, Nat.zero_le _⟩ hM (fun c hc => c_X2_points (xE X) ((σ j1 1)) c hc) (fun c2 hM => ?_)
    refine g_icmp_ge (tgt := 41) hC dX6_nthOfBase_15 rfl (by decide) hM (fun hM => ?_) (fun hM => ?_)
    · refine g_iconst (v := -1) hC dX6_nthOfBase_41 rfl ic_m1 ?_
      obtain rfl := Option.some.inj hM
      exact g_reti hR dX6_nthOfBase_42 rfl
    · refine g_aload_n hC dX6_nthOfBase_18 rfl 0 rfl ?_
      refine g_iload_n hC dX6_nthOfBase_19 rfl 3 rfl ?_
      refine g_callVi (As := [.int v3]) (st' := []) (k := a0) (L' := 3) hC Y_X6_isOfBase I_X6_isOfBase k_1000 ⟨by decide, by decide⟩ h0 (ci := 5) (by decide) rfl dX6_nthOfBase_20 rfl rfl rfl (Nat.le_of_ble_eq_true rfl) ⟨Nat.zero_le _, Nat.zero_le _⟩ hM (fun c hc => c_X6_isOfBase (xE X) a0 h0 v3 c hc) (fun c3 hM => ?_)
      refine g_if_eq (tgt := 35) hC dX6_nthOfBase_23 rfl (by decide) hM (fun hM => ?_) (fun hM => ?_)
      · exact g_sub [0, 1, 2, 3] ((bX6_nthOfBase_35 hC hml hR a0 a1 h0 rec ih ) _ _ _ hM) rfl
      · refine g_iload_n hC dX6_nthOfBase_26 rfl 2 rfl ?_
        refine g_if_ne (tgt := 32) hC dX6_nthOfBase_27 rfl (by decide) hM (fun hM => ?_) (fun hM => ?_)
        · refine g_iinc (v := -1) hC (fun y4 => [(2, .int y4), (0, vr X a0), (1, .int a1), (3, .int v3)]) dX6_nthOfBase_32 rfl hM (j := 2) rfl ic_m1 hml (by decide) (fun _ => rfl) (fun y4 hM => ?_)
          exact g_sub [1, 2, 0, 3] ((bX6_nthOfBase_35 hC hml hR a0 a1 h0 rec ih ) _ _ _ hM) rfl
        · refine g_iload_n hC dX6_nthOfBase_30 rfl 3 rfl ?_
          cases hM
          exact g_reti hR dX6_nthOfBase_31 rfl
def MX6_nthOfBase (σ : Sto) (ρ : Rho) (a0 : Nat) (a1 : Int32) : Option (Int32 × Sto) :=
  bn a1 fun y1 =>
  bn ((0 : Int32)) fun y2 =>
  fixN (fun _ _ _ => none) (FX6_nthOfBase_4 ρ a0 a1) FU σ y1 y2
set_option maxHeartbeats 4000000 in
set_option maxRecDepth 100000 in
theorem c_X6_nthOfBase (E : EX) {n : Nat} {σ : Sto} {ρ : Rho} (a0 : Nat) (h0 : Sh n a0 5) (a1 : Int32) (res : Int32 × Sto) (hM : MX6_nthOfBase σ ρ a0 a1 = some res) : CTi E yX6_nthOfBase cX6_nthOfBase 4 (some .int) 4 [.ref (eb E + a0), .int a1] n σ ρ res.1 res.2 ρ := by
  refine ct_i (by decide +kernel) rfl (Nat.le_of_ble_eq_true rfl) (fun X hE hml hC hR => ?_)
  subst hE
  show G X 0 0 n σ ρ 0 [(0, vr X a0), (1, .int a1)] []
  replace hC : Cx X cX6_nthOfBase RX6 4 := hC
  unfold MX6_nthOfBase at hM
  refine g_iload_n hC dX6_nthOfBase_0 rfl 1 rfl ?_
  refine g_istore_n hC (fun y1 => [(2, .int y1), (0, vr X a0), (1, .int a1)]) dX6_nthOfBase_1 rfl hM hml (by decide) (fun _ => rfl) (fun y1 hM => ?_)
  refine g_iconst (v := 0) hC dX6_nthOfBase_2 rfl ic_0 ?_
  refine g_istore_n hC (fun y2 => [(3, .int y2), (2, .int y1), (0, vr X a0), (1, .int a1)]) dX6_nthOfBase_3 rfl hM hml (by decide) (fun _ => rfl) (fun y2 hM => ?_)
  exact g_sub [2, 3, 1, 0] ((bX6_nthOfBase_4 hC hml hR a0 a1 h0  FU) _ _ _ hM) rfl
def MX10_numbered (σ : Sto) (a0 : Nat) (a1 : Int32) : Option (Int32) :=
  Option.bind (MX2_rest ((σ a0 0)) a1) fun c1 =>
  bn c1 fun y2 =>
  Option.bind (MX2_rest ((σ a0 1)) a1) fun c3 =>
  bn c3 fun y4 =>
  Option.bind (MX2_rest ((σ a0 2)) a1) fun c5 =>
  bn c5 fun y6 =>
  if y2 = 0 then
    if y4 = 0 then
      if y6 = 0 then
        some (-1 : Int32)
      else
        some ((a1 * a1) + a1)
    else
      Option.bind (MX2_inverse y4 a1) fun c7 =>
      Option.bind (MX2_rest ((y6 * c7)) a1) fun c8 =>
      some ((a1 * a1) + c8)
  else
    Option.bind (MX2_inverse y2 a1) fun c9 =>
    bn c9 fun y10 =>
    Option.bind (MX2_rest ((y4 * y10)) a1) fun c11 =>
    Option.bind (MX2_rest ((y6 * y10)) a1) fun c12 =>
    some ((a1 * c11) + c12)
set_option maxHeartbeats 4000000 in
set_option maxRecDepth 100000 in
theorem c_X10_numbered (E : EX) {n : Nat} {ρ : Rho} {σ : Sto} (a0 : Nat) (h0 : Sh n a0 9) (a1 : Int32) (res : Int32) (hM : MX10_numbered σ a0 a1 = some res) : CTi E yX10_numbered cX10_numbered 6 (some .int) 3 [.ref (eb E + a0), .int a1] n σ ρ res σ ρ := by
  refine ct_i (by decide +kernel) rfl (Nat.le_of_ble_eq_true rfl) (fun X hE hml hC hR => ?_)
  subst hE
  show G X 0 0 n σ ρ 0 [(0, vr X a0), (1, .int a1)] []
  replace hC : Cx X cX10_numbered RX10 3 := hC
  unfold MX10_numbered at hM
  refine g_aload_n hC dX10_numbered_0 rfl 0 rfl ?_
  refine fg_9_0 hC h0 k_263 dX10_numbered_1 rfl ?_
  refine g_iload_n hC dX10_numbered_4 rfl 1 rfl ?_
  refine g_callSi (As := [.int ((σ a0 0)), .int a1]) (st' := []) (L' := 1) hC Y_X2_rest k_699 k_835 ⟨by decide, by decide⟩ dX10_numbered_5 rfl rfl rfl (Nat.le_of_ble_eq_true rfl) ⟨Nat.zero_le _, Nat.zero_le _⟩ hM (fun c hc => c_X2_rest (xE X) ((σ a0 0)) a1 c hc) (fun c1 hM => ?_)
  refine g_istore_n hC (fun y2 => [(2, .int y2), (0, vr X a0), (1, .int a1)]) dX10_numbered_8 rfl hM hml (by decide) (fun _ => rfl) (fun y2 hM => ?_)
  refine g_aload_n hC dX10_numbered_9 rfl 1 rfl ?_
  refine fg_9_1 hC h0 k_265 dX10_numbered_10 rfl ?_
  refine g_iload_n hC dX10_numbered_13 rfl 2 rfl ?_
  refine g_callSi (As := [.int ((σ a0 1)), .int a1]) (st' := []) (L' := 1) hC Y_X2_rest k_699 k_835 ⟨by decide, by decide⟩ dX10_numbered_14 rfl rfl rfl (Nat.le_of_ble_eq_true rfl) ⟨Nat.zero_le _, Nat.zero_le _⟩ hM (fun c hc => c_X2_rest (xE X) ((σ a0 1)) a1 c hc) (fun c3 hM => ?_)
  refine g_istore_n hC (fun y4 => [(3, .int y4), (2, .int y2), (0, vr X a0), (1, .int a1)]) dX10_numbered_17 rfl hM hml (by decide) (fun _ => rfl) (fun y4 hM => ?_)
  refine g_aload_n hC dX10_numbered_18 rfl 2 rfl ?_
  refine fg_9_2 hC h0 k_267 dX10_numbered_19 rfl ?_
  refine g_iload_n hC dX10_numbered_22 rfl 3 rfl ?_
  refine g_callSi (As := [.int ((σ a0 2)), .int a1]) (st' := []) (L' := 1) hC Y_X2_rest k_699 k_835 ⟨by decide, by decide⟩ dX10_numbered_23 rfl rfl rfl (Nat.le_of_ble_eq_true rfl) ⟨Nat.zero_le _, Nat.zero_le _⟩ hM (fun c hc => c_X2_rest (xE X) ((σ a0 2)) a1 c hc) (fun c5 hM => ?_)
  refine g_istore hC (fun y6 => [(4, .int y6), (3, .int y4), (2, .int y2), (0, vr X a0), (1, .int a1)]) dX10_numbered_26 rfl hM hml (by decide) (fun _ => rfl) (fun y6 hM => ?_)
  refine g_iload_n hC dX10_numbered_28 rfl 2 rfl ?_
  refine g_if_eq (tgt := 60) hC dX10_numbered_29 rfl (by decide) hM (fun hM => ?_) (fun hM => ?_)
  · refine g_iload_n hC dX10_numbered_60 rfl 1 rfl ?_
    refine g_if_eq (tgt := 81) hC dX10_numbered_61 rfl (by decide) hM (fun hM => ?_) (fun hM => ?_)
    · refine g_iload hC dX10_numbered_81 rfl 0 rfl ?_
      refine g_if_eq (tgt := 94) hC dX10_numbered_83 rfl (by decide) hM (fun hM => ?_) (fun hM => ?_)
      · refine g_iconst (v := -1) hC dX10_numbered_94 rfl ic_m1 ?_
        obtain rfl := Option.some.inj hM
        exact g_reti hR dX10_numbered_95 rfl
      · refine g_iload_n hC dX10_numbered_86 rfl 4 rfl ?_
        refine g_iload_n hC dX10_numbered_87 rfl 4 rfl ?_
        refine g_imul hC dX10_numbered_88 rfl ?_
        refine g_iload_n hC dX10_numbered_89 rfl 4 rfl ?_
        refine g_iadd hC dX10_numbered_90 rfl ?_
        refine g_goto (tgt := 95) hC dX10_numbered_91 rfl (by decide) ?_
        cases hM
        exact g_reti hR dX10_numbered_95 rfl
    · refine g_iload_n hC dX10_numbered_64 rfl 4 rfl ?_
      refine g_iload_n hC dX10_numbered_65 rfl 4 rfl ?_
      refine g_imul hC dX10_numbered_66 rfl ?_
      refine g_iload hC dX10_numbered_67 rfl 0 rfl ?_
      refine g_iload_n hC dX10_numbered_69 rfl 1 rfl ?_
      refine g_iload_n hC dX10_numbered_70 rfl 4 rfl ?_
      refine g_callSi (As := [.int y4, .int a1]) (st' := [.int y6, .int ((a1 * a1))]) (L' := 2) hC Y_X2_inverse k_784 k_898 ⟨by decide, by decide⟩ dX10_numbered_71 rfl rfl rfl (Nat.le_of_ble_eq_true rfl) ⟨Nat.zero_le _, Nat.zero_le _⟩ hM (fun c hc => c_X2_inverse (xE X) y4 a1 c hc) (fun c7 hM => ?_)
      refine g_imul hC dX10_numbered_74 rfl ?_
      refine g_iload_n hC dX10_numbered_75 rfl 4 rfl ?_
      refine g_callSi (As := [.int ((y6 * c7)), .int a1]) (st' := [.int ((a1 * a1))]) (L' := 1) hC Y_X2_rest k_699 k_835 ⟨by decide, by decide⟩ dX10_numbered_76 rfl rfl rfl (Nat.le_of_ble_eq_true rfl) ⟨Nat.zero_le _, Nat.zero_le _⟩ hM (fun c hc => c_X2_rest (xE X) ((y6 * c7)) a1 c hc) (fun c8 hM => ?_)
      refine g_iadd hC dX10_numbered_79 rfl ?_
      cases hM
      exact g_reti hR dX10_numbered_80 rfl
  · refine g_iload_n hC dX10_numbered_32 rfl 2 rfl ?_
    refine g_iload_n hC dX10_numbered_33 rfl 4 rfl ?_
    refine g_callSi (As := [.int y2, .int a1]) (st' := []) (L' := 2) hC Y_X2_inverse k_784 k_898 ⟨by decide, by decide⟩ dX10_numbered_34 rfl rfl rfl (Nat.le_of_ble_eq_true rfl) ⟨Nat.zero_le _, Nat.zero_le _⟩ hM (fun c hc => c_X2_inverse (xE X) y2 a1 c hc) (fun c9 hM => ?_)
    refine g_istore hC (fun y10 => [(5, .int y10), (4, .int y6), (3, .int y4), (2, .int y2), (0, vr X a0), (1, .int a1)]) dX10_numbered_37 rfl hM hml (by decide) (fun _ => rfl) (fun y10 hM => ?_)
    refine g_iload_n hC dX10_numbered_39 rfl 5 rfl ?_
    refine g_iload_n hC dX10_numbered_40 rfl 2 rfl ?_
    refine g_iload hC dX10_numbered_41 rfl 0 rfl ?_
    refine g_imul hC dX10_numbered_43 rfl ?_
    refine g_iload_n hC dX10_numbered_44 rfl 5 rfl ?_
    refine g_callSi (As := [.int ((y4 * y10)), .int a1]) (st' := [.int a1]) (L' := 1) hC Y_X2_rest k_699 k_835 ⟨by decide, by decide⟩ dX10_numbered_45 rfl rfl rfl (Nat.le_of_ble_eq_true rfl) ⟨Nat.zero_le _, Nat.zero_le _⟩ hM (fun c hc => c_X2_rest (xE X) ((y4 * y10)) a1 c hc) (fun c11 hM => ?_)
    refine g_imul hC dX10_numbered_48 rfl ?_
    refine g_iload hC dX10_numbered_49 rfl 1 rfl ?_
    refine g_iload hC dX10_numbered_51 rfl 0 rfl ?_
    refine g_imul hC dX10_numbered_53 rfl ?_
    refine g_iload_n hC dX10_numbered_54 rfl 5 rfl ?_
    refine g_callSi (As := [.int ((y6 * y10)), .int a1]) (st' := [.int ((a1 * c11))]) (L' := 1) hC Y_X2_rest k_699 k_835 ⟨by decide, by decide⟩ dX10_numbered_55 rfl rfl rfl (Nat.le_of_ble_eq_true rfl) ⟨Nat.zero_le _, Nat.zero_le _⟩ hM (fun c hc => c_X2_rest (xE X) ((y6 * y10)) a1 c hc) (fun c12 hM => ?_)
    refine g_iadd hC dX10_numbered_58 rfl ?_
    cases hM
    exact g_reti hR dX10_numbered_59 rfl
def MX6_polarAtSpot (σ : Sto) (ρ : Rho) (a0 : Nat) (a1 : Nat) : Option (Int32 × Sto) :=
  Option.bind (ρ a0 3) fun j1 =>
  Option.bind (ρ a0 4) fun j2 =>
  Option.bind (MX0_polarOf σ ρ a1 j1 j2) fun c3 =>
  Option.bind (ρ a0 4) fun j4 =>
  Option.bind (MX10_numbered c3 j4 ((c3 a1 1))) fun c5 =>
  some (c5, c3)
set_option maxHeartbeats 4000000 in
set_option maxRecDepth 100000 in
theorem c_X6_polarAtSpot (E : EX) {n : Nat} {σ : Sto} {ρ : Rho} (a0 : Nat) (h0 : Sh n a0 5) (a1 : Nat) (h1 : Sh n a1 0) (res : Int32 × Sto) (hM : MX6_polarAtSpot σ ρ a0 a1 = some res) : CTi E yX6_polarAtSpot cX6_polarAtSpot 2 (some .int) 4 [.ref (eb E + a0), .ref (eb E + a1)] n σ ρ res.1 res.2 ρ := by
  refine ct_i (by decide +kernel) rfl (Nat.le_of_ble_eq_true rfl) (fun X hE hml hC hR => ?_)
  subst hE
  show G X 0 0 n σ ρ 0 [(0, vr X a0), (1, vr X a1)] []
  replace hC : Cx X cX6_polarAtSpot RX6 4 := hC
  unfold MX6_polarAtSpot at hM
  refine g_aload_n hC dX6_polarAtSpot_0 rfl 1 rfl ?_
  refine g_aload_n hC dX6_polarAtSpot_1 rfl 0 rfl ?_
  refine fg_5_3 hC h0 k_339 dX6_polarAtSpot_2 rfl hM (fun j1 hj1 hM => ?_)
  refine g_aload_n hC dX6_polarAtSpot_5 rfl 0 rfl ?_
  refine fg_5_4 hC h0 k_340 dX6_polarAtSpot_6 rfl hM (fun j2 hj2 hM => ?_)
  refine g_callVv0 (As := [vr X j1, vr X j2]) (st' := []) (k := a1) (L' := 1) hC Y_X0_polarOf I_X0_polarOf k_1024 ⟨by decide, by decide⟩ h1 (ci := 0) (by decide) rfl dX6_polarAtSpot_9 rfl rfl rfl (Nat.le_of_ble_eq_true rfl) ⟨Nat.zero_le _, Nat.zero_le _⟩ hM (fun c hc => c_X0_polarOf (xE X) a1 h1 j1 hj1 j2 hj2 c hc) (fun c3 hM => ?_)
  refine g_aload_n hC dX6_polarAtSpot_12 rfl 0 rfl ?_
  refine fg_5_4 hC h0 k_340 dX6_polarAtSpot_13 rfl hM (fun j4 hj4 hM => ?_)
  refine g_aload_n hC dX6_polarAtSpot_16 rfl 1 rfl ?_
  refine fg_0_1 hC h1 k_327 dX6_polarAtSpot_17 rfl ?_
  refine g_callVi (As := [.int ((c3 a1 1))]) (st' := []) (k := j4) (L' := 3) hC Y_X10_numbered I_X10_numbered k_1025 ⟨by decide, by decide⟩ hj4 (ci := 9) (by decide) rfl dX6_polarAtSpot_20 rfl rfl rfl (Nat.le_of_ble_eq_true rfl) ⟨Nat.zero_le _, Nat.zero_le _⟩ hM (fun c hc => c_X10_numbered (xE X) j4 hj4 ((c3 a1 1)) c hc) (fun c5 hM => ?_)
  cases hM
  exact g_reti hR dX6_polarAtSpot_23 rfl
def BX6_touching_72 (ρ : Rho) (a0 : Nat) (rec : Sto → Int32 → Int32 → Option (Int32 × Sto)) (σ : Sto) (v1 : Int32) (v2 : Int32) : Option (Int32 × Sto) :=
  bn (v2 + (1 : Int32)) fun y1 =>
  rec σ v1 y1
set_option maxHeartbeats 4000000 in
set_option maxRecDepth 100000 in
theorem bX6_touching_72 {X : CX} {n : Nat} {ρ : Rho} {res : Int32 × Sto} (hC : Cx X cX6_touching RX6 5) (hml : (xc X).maxLocals = 3) (hR : RtT (some .int) X cX6_touching n res.1 res.2 ρ) (a0 : Nat) (h0 : Sh n a0 5) (rec : Sto → Int32 → Int32 → Option (Int32 × Sto)) (ih : ∀ (σ : Sto) (v1 : Int32) (v2 : Int32), rec σ v1 v2 = some res → G X 0 0 n σ ρ 28 [(0, vr X a0), (1, .int v1), (2, .int v2)] []) : ∀ (σ : Sto) (v1 : Int32) (v2 : Int32), BX6_touching_72 ρ a0 rec σ v1 v2 = some res → G X 0 0 n σ ρ 72 [(0, vr X a0), (1, .int v1), (2, .int v2)] [] := by
  intro σ v1 v2 hM
  unfold BX6_touching_72 at hM
  refine g_iinc (v := 1) hC (fun y1 => [(2, .int y1), (0, vr X a0), (1, .int v1)]) dX6_touching_72 rfl hM (j := 2) rfl ic_1 hml (by decide) (fun _ => rfl) (fun y1 hM => ?_)
  refine g_goto (tgt := 28) hC dX6_touching_75 rfl (by decide) ?_
  exact g_sub [1, 2, 0] (ih _ _ _ hM) rfl
def FX6_touching_28 (ρ : Rho) (a0 : Nat) (rec : Sto → Int32 → Int32 → Option (Int32 × Sto)) (σ : Sto) (v1 : Int32) (v2 : Int32) : Option (Int32 × Sto) :=
  Option.bind (ρ a0 0) fun j1 =>
  Option.bind (MX2_points ((σ j1 1))) fun c2 =>
  if c2 ≤ v2 then
    some (v1, σ)
  else
    Option.bind (MX6_isOfBase σ ρ a0 v2) fun c3 =>
    if c3.1 = 0 then
      BX6_touching_72 ρ a0 rec c3.2 v1 v2
    else
      Option.bind (ρ a0 0) fun j4 =>
      Option.bind (MX6_polarAtSpot c3.2 ρ a0 j4) fun c5 =>
      Option.bind (ρ a0 1) fun j6 =>
      Option.bind (MX6_polarAtSpot c5.2 ρ a0 j6) fun c7 =>
      if c5.1 = c7.1 then
        bn (v1 + (1 : Int32)) fun y8 =>
        BX6_touching_72 ρ a0 rec c7.2 y8 v2
      else
        BX6_touching_72 ρ a0 rec c7.2 v1 v2
set_option maxHeartbeats 4000000 in
set_option maxRecDepth 100000 in
theorem bX6_touching_28 {X : CX} {n : Nat} {ρ : Rho} {res : Int32 × Sto} (hC : Cx X cX6_touching RX6 5) (hml : (xc X).maxLocals = 3) (hR : RtT (some .int) X cX6_touching n res.1 res.2 ρ) (a0 : Nat) (h0 : Sh n a0 5) (fu : Nat) : ∀ (σ : Sto) (v1 : Int32) (v2 : Int32), fixN (fun _ _ _ => none) (FX6_touching_28 ρ a0) fu σ v1 v2 = some res → G X 0 0 n σ ρ 28 [(0, vr X a0), (1, .int v1), (2, .int v2)] [] := by
  refine fixN_ind (P := fun (f : Sto → Int32 → Int32 → Option (Int32 × Sto)) => ∀ (σ : Sto) (v1 : Int32) (v2 : Int32), f σ v1 v2 = some res → G X 0 0 n σ ρ 28 [(0, vr X a0), (1, .int v1), (2, .int v2)] []) ?_ ?_ fu
  · intro σ v1 v2 hM; cases hM
  · intro rec ih σ v1 v2 hM
    unfold FX6_touching_28 at hM
    refine g_iload_n hC dX6_touching_28 rfl 2 rfl ?_
    refine g_aload_n hC dX6_touching_29 rfl 0 rfl ?_
    refine fg_5_0 hC h0 k_335 dX6_touching_30 rfl hM (fun j1 hj1 hM => ?_)
    refine fg_0_1 hC hj1 k_327 dX6_touching_33 rfl ?_
    refine g_callSi (As := [.int ((σ j1 1))]) (st' := [.int v2]) (L' := 0) hC Y_X2_points k_552 k_999 ⟨by decide, by decide⟩ dX6_touching_36 rfl rfl rfl (Nat.le_of_ble_eq_true rfl) ⟨Nat.zero_le _, Nat.zero_le _⟩ hM (fun c hc => c_X2_points (xE X) ((σ j1 1)) c hc) (fun c2 hM => ?_)
    refine g_icmp_ge (tgt := 78) hC dX6_touching_39 rfl (by decide) hM (fun hM => ?_) (fun hM => ?_)
    · refine g_iload_n hC dX6_touching_78 rfl 1 rfl ?_
      cases hM
      exact g_reti hR dX6_touching_79 rfl
    · refine g_aload_n hC dX6_touching_42 rfl 0 rfl ?_
      refine g_iload_n hC dX6_touching_43 rfl 2 rfl ?_
      refine g_callVi (As := [.int v2]) (st' := []) (k := a0) (L' := 3) hC Y_X6_isOfBase I_X6_isOfBase k_1000 ⟨by decide, by decide⟩ h0 (ci := 5) (by decide) rfl dX6_touching_44 rfl rfl rfl (Nat.le_of_ble_eq_true rfl) ⟨Nat.zero_le _, Nat.zero_le _⟩ hM (fun c hc => c_X6_isOfBase (xE X) a0 h0 v2 c hc) (fun c3 hM => ?_)
      refine g_if_eq (tgt := 72) hC dX6_touching_47 rfl (by decide) hM (fun hM => ?_) (fun hM => ?_)
      · exact g_sub [0, 1, 2] ((bX6_touching_72 hC hml hR a0 h0 rec ih ) _ _ _ hM) rfl
      · refine g_aload_n hC dX6_touching_50 rfl 0 rfl ?_
        refine g_aload_n hC dX6_touching_51 rfl 0 rfl ?_
        refine fg_5_0 hC h0 k_335 dX6_touching_52 rfl hM (fun j4 hj4 hM => ?_)
        refine g_callVi (As := [vr X j4]) (st' := []) (k := a0) (L' := 4) hC Y_X6_polarAtSpot I_X6_polarAtSpot k_1020 ⟨by decide, by decide⟩ h0 (ci := 5) (by decide) rfl dX6_touching_55 rfl rfl rfl (Nat.le_of_ble_eq_true rfl) ⟨Nat.zero_le _, Nat.zero_le _⟩ hM (fun c hc => c_X6_polarAtSpot (xE X) a0 h0 j4 hj4 c hc) (fun c5 hM => ?_)
        refine g_aload_n hC dX6_touching_58 rfl 0 rfl ?_
        refine g_aload_n hC dX6_touching_59 rfl 0 rfl ?_
        refine fg_5_1 hC h0 k_336 dX6_touching_60 rfl hM (fun j6 hj6 hM => ?_)
        refine g_callVi (As := [vr X j6]) (st' := [.int c5.1]) (k := a0) (L' := 4) hC Y_X6_polarAtSpot I_X6_polarAtSpot k_1020 ⟨by decide, by decide⟩ h0 (ci := 5) (by decide) rfl dX6_touching_63 rfl rfl rfl (Nat.le_of_ble_eq_true rfl) ⟨Nat.zero_le _, Nat.zero_le _⟩ hM (fun c hc => c_X6_polarAtSpot (xE X) a0 h0 j6 hj6 c hc) (fun c7 hM => ?_)
        refine g_icmp_ne (tgt := 72) hC dX6_touching_66 rfl (by decide) hM (fun hM => ?_) (fun hM => ?_)
        · exact g_sub [0, 1, 2] ((bX6_touching_72 hC hml hR a0 h0 rec ih ) _ _ _ hM) rfl
        · refine g_iinc (v := 1) hC (fun y8 => [(1, .int y8), (0, vr X a0), (2, .int v2)]) dX6_touching_69 rfl hM (j := 1) rfl ic_1 hml (by decide) (fun _ => rfl) (fun y8 hM => ?_)
          exact g_sub [1, 0, 2] ((bX6_touching_72 hC hml hR a0 h0 rec ih ) _ _ _ hM) rfl
def MX6_touching (σ : Sto) (ρ : Rho) (a0 : Nat) : Option (Int32 × Sto) :=
  Option.bind (ρ a0 0) fun j1 =>
  Option.bind (MX0_kind σ ρ j1) fun c2 =>
  if c2 = (4 : Int32) then
    Option.bind (ρ a0 1) fun j3 =>
    Option.bind (MX0_kind σ ρ j3) fun c4 =>
    if c4 = (4 : Int32) then
      bn ((0 : Int32)) fun y5 =>
      bn ((0 : Int32)) fun y6 =>
      fixN (fun _ _ _ => none) (FX6_touching_28 ρ a0) FU σ y5 y6
    else
      some ((-1 : Int32), σ)
  else
    some ((-1 : Int32), σ)
set_option maxHeartbeats 4000000 in
set_option maxRecDepth 100000 in
theorem c_X6_touching (E : EX) {n : Nat} {σ : Sto} {ρ : Rho} (a0 : Nat) (h0 : Sh n a0 5) (res : Int32 × Sto) (hM : MX6_touching σ ρ a0 = some res) : CTi E yX6_touching cX6_touching 3 (some .int) 5 [.ref (eb E + a0)] n σ ρ res.1 res.2 ρ := by
  refine ct_i (by decide +kernel) rfl (Nat.le_of_ble_eq_true rfl) (fun X hE hml hC hR => ?_)
  subst hE
  show G X 0 0 n σ ρ 0 [(0, vr X a0)] []
  replace hC : Cx X cX6_touching RX6 5 := hC
  unfold MX6_touching at hM
  refine g_aload_n hC dX6_touching_0 rfl 0 rfl ?_
  refine fg_5_0 hC h0 k_335 dX6_touching_1 rfl hM (fun j1 hj1 hM => ?_)
  refine g_callVi (As := []) (st' := []) (k := j1) (L' := 4) hC Y_X0_kind I_X0_kind k_1015 ⟨by decide, by decide⟩ hj1 (ci := 0) (by decide) rfl dX6_touching_4 rfl rfl rfl (Nat.le_of_ble_eq_true rfl) ⟨Nat.zero_le _, Nat.zero_le _⟩ hM (fun c hc => c_X0_kind (xE X) j1 hj1 c hc) (fun c2 hM => ?_)
  refine g_iconst (v := 4) hC dX6_touching_7 rfl ic_4 ?_
  refine g_icmp_ne (tgt := 22) hC dX6_touching_8 rfl (by decide) hM (fun hM => ?_) (fun hM => ?_)
  · refine g_iconst (v := -1) hC dX6_touching_22 rfl ic_m1 ?_
    obtain rfl := Option.some.inj hM
    exact g_reti hR dX6_touching_23 rfl
  · refine g_aload_n hC dX6_touching_11 rfl 0 rfl ?_
    refine fg_5_1 hC h0 k_336 dX6_touching_12 rfl hM (fun j3 hj3 hM => ?_)
    refine g_callVi (As := []) (st' := []) (k := j3) (L' := 4) hC Y_X0_kind I_X0_kind k_1015 ⟨by decide, by decide⟩ hj3 (ci := 0) (by decide) rfl dX6_touching_15 rfl rfl rfl (Nat.le_of_ble_eq_true rfl) ⟨Nat.zero_le _, Nat.zero_le _⟩ hM (fun c hc => c_X0_kind (xE X) j3 hj3 c hc) (fun c4 hM => ?_)
    refine g_iconst (v := 4) hC dX6_touching_18 rfl ic_4 ?_
    refine g_icmp_eq (tgt := 24) hC dX6_touching_19 rfl (by decide) hM (fun hM => ?_) (fun hM => ?_)
    · refine g_iconst (v := 0) hC dX6_touching_24 rfl ic_0 ?_
      refine g_istore_n hC (fun y5 => [(1, .int y5), (0, vr X a0)]) dX6_touching_25 rfl hM hml (by decide) (fun _ => rfl) (fun y5 hM => ?_)
      refine g_iconst (v := 0) hC dX6_touching_26 rfl ic_0 ?_
      refine g_istore_n hC (fun y6 => [(2, .int y6), (1, .int y5), (0, vr X a0)]) dX6_touching_27 rfl hM hml (by decide) (fun _ => rfl) (fun y6 hM => ?_)
      exact g_sub [2, 1, 0] ((bX6_touching_28 hC hml hR a0 h0  FU) _ _ _ hM) rfl
    · refine g_iconst (v := -1) hC dX6_touching_22 rfl ic_m1 ?_
      obtain rfl := Option.some.inj hM
      exact g_reti hR dX6_touching_23 rfl
def BX6_firstThrough_34 (ρ : Rho) (a0 : Nat) (a1 : Nat) (rec : Sto → Int32 → Option (Int32 × Sto)) (σ : Sto) (v2 : Int32) : Option (Int32 × Sto) :=
  bn (v2 + (1 : Int32)) fun y1 =>
  rec σ y1
set_option maxHeartbeats 4000000 in
set_option maxRecDepth 100000 in
theorem bX6_firstThrough_34 {X : CX} {n : Nat} {ρ : Rho} {res : Int32 × Sto} (hC : Cx X cX6_firstThrough RX6 5) (hml : (xc X).maxLocals = 3) (hR : RtT (some .int) X cX6_firstThrough n res.1 res.2 ρ) (a0 : Nat) (a1 : Nat) (h0 : Sh n a0 5) (h1 : Sh n a1 9) (rec : Sto → Int32 → Option (Int32 × Sto)) (ih : ∀ (σ : Sto) (v2 : Int32), rec σ v2 = some res → G X 0 0 n σ ρ 2 [(0, vr X a0), (1, vr X a1), (2, .int v2)] []) : ∀ (σ : Sto) (v2 : Int32), BX6_firstThrough_34 ρ a0 a1 rec σ v2 = some res → G X 0 0 n σ ρ 34 [(0, vr X a0), (1, vr X a1), (2, .int v2)] [] := by
  intro σ v2 hM
  unfold BX6_firstThrough_34 at hM
  refine g_iinc (v := 1) hC (fun y1 => [(2, .int y1), (0, vr X a0), (1, vr X a1)]) dX6_firstThrough_34 rfl hM (j := 2) rfl ic_1 hml (by decide) (fun _ => rfl) (fun y1 hM => ?_)
  refine g_goto (tgt := 2) hC dX6_firstThrough_37 rfl (by decide) ?_
  exact g_sub [1, 2, 0] (ih _ _ hM) rfl
def FX6_firstThrough_2 (ρ : Rho) (a0 : Nat) (a1 : Nat) (rec : Sto → Int32 → Option (Int32 × Sto)) (σ : Sto) (v2 : Int32) : Option (Int32 × Sto) :=
  Option.bind (ρ a0 0) fun j1 =>
  if (σ j1 1) < v2 then
    some ((-1 : Int32), σ)
  else
    Option.bind (MX6_takeMember σ ρ a0 v2) fun c2 =>
    if c2.1 = 0 then
      BX6_firstThrough_34 ρ a0 a1 rec c2.2 v2
    else
      Option.bind (ρ a0 2) fun j3 =>
      Option.bind (MX0_valueAt c2.2 ρ j3 a1) fun c4 =>
      if c4 = 0 then
        some (v2, c2.2)
      else
        BX6_firstThrough_34 ρ a0 a1 rec c2.2 v2
set_option maxHeartbeats 4000000 in
set_option maxRecDepth 100000 in
theorem bX6_firstThrough_2 {X : CX} {n : Nat} {ρ : Rho} {res : Int32 × Sto} (hC : Cx X cX6_firstThrough RX6 5) (hml : (xc X).maxLocals = 3) (hR : RtT (some .int) X cX6_firstThrough n res.1 res.2 ρ) (a0 : Nat) (a1 : Nat) (h0 : Sh n a0 5) (h1 : Sh n a1 9) (fu : Nat) : ∀ (σ : Sto) (v2 : Int32), fixN (fun _ _ => none) (FX6_firstThrough_2 ρ a0 a1) fu σ v2 = some res → G X 0 0 n σ ρ 2 [(0, vr X a0), (1, vr X a1), (2, .int v2)] [] := by
  refine fixN_ind (P := fun (f : Sto → Int32 → Option (Int32 × Sto)) => ∀ (σ : Sto) (v2 : Int32), f σ v2 = some res → G X 0 0 n σ ρ 2 [(0, vr X a0), (1, vr X a1), (2, .int v2)] []) ?_ ?_ fu
  · intro σ v2 hM; cases hM
  · intro rec ih σ v2 hM
    unfold FX6_firstThrough_2 at hM
    refine g_iload_n hC dX6_firstThrough_2 rfl 2 rfl ?_
    refine g_aload_n hC dX6_firstThrough_3 rfl 0 rfl ?_
    refine fg_5_0 hC h0 k_335 dX6_firstThrough_4 rfl hM (fun j1 hj1 hM => ?_)
    refine fg_0_1 hC hj1 k_327 dX6_firstThrough_7 rfl ?_
    refine g_icmp_gt (tgt := 40) hC dX6_firstThrough_10 rfl (by decide) hM (fun hM => ?_) (fun hM => ?_)
    · refine g_iconst (v := -1) hC dX6_firstThrough_40 rfl ic_m1 ?_
      obtain rfl := Option.some.inj hM
      exact g_reti hR dX6_firstThrough_41 rfl
    · refine g_aload_n hC dX6_firstThrough_13 rfl 0 rfl ?_
      refine g_iload_n hC dX6_firstThrough_14 rfl 2 rfl ?_
      refine g_callVi (As := [.int v2]) (st' := []) (k := a0) (L' := 4) hC Y_X6_takeMember I_X6_takeMember k_1014 ⟨by decide, by decide⟩ h0 (ci := 5) (by decide) rfl dX6_firstThrough_15 rfl rfl rfl (Nat.le_of_ble_eq_true rfl) ⟨Nat.zero_le _, Nat.zero_le _⟩ hM (fun c hc => c_X6_takeMember (xE X) a0 h0 v2 c hc) (fun c2 hM => ?_)
      refine g_if_eq (tgt := 34) hC dX6_firstThrough_18 rfl (by decide) hM (fun hM => ?_) (fun hM => ?_)
      · exact g_sub [0, 1, 2] ((bX6_firstThrough_34 hC hml hR a0 a1 h0 h1 rec ih ) _ _ hM) rfl
      · refine g_aload_n hC dX6_firstThrough_21 rfl 0 rfl ?_
        refine fg_5_2 hC h0 k_337 dX6_firstThrough_22 rfl hM (fun j3 hj3 hM => ?_)
        refine g_aload_n hC dX6_firstThrough_25 rfl 1 rfl ?_
        refine g_callVi (As := [vr X a1]) (st' := []) (k := j3) (L' := 2) hC Y_X0_valueAt I_X0_valueAt k_1005 ⟨by decide, by decide⟩ hj3 (ci := 0) (by decide) rfl dX6_firstThrough_26 rfl rfl rfl (Nat.le_of_ble_eq_true rfl) ⟨Nat.zero_le _, Nat.zero_le _⟩ hM (fun c hc => c_X0_valueAt (xE X) j3 hj3 a1 h1 c hc) (fun c4 hM => ?_)
        refine g_if_ne (tgt := 34) hC dX6_firstThrough_29 rfl (by decide) hM (fun hM => ?_) (fun hM => ?_)
        · exact g_sub [0, 1, 2] ((bX6_firstThrough_34 hC hml hR a0 a1 h0 h1 rec ih ) _ _ hM) rfl
        · refine g_iload_n hC dX6_firstThrough_32 rfl 2 rfl ?_
          cases hM
          exact g_reti hR dX6_firstThrough_33 rfl
def MX6_firstThrough (σ : Sto) (ρ : Rho) (a0 : Nat) (a1 : Nat) : Option (Int32 × Sto) :=
  bn ((0 : Int32)) fun y1 =>
  fixN (fun _ _ => none) (FX6_firstThrough_2 ρ a0 a1) FU σ y1
set_option maxHeartbeats 4000000 in
set_option maxRecDepth 100000 in
theorem c_X6_firstThrough (E : EX) {n : Nat} {σ : Sto} {ρ : Rho} (a0 : Nat) (h0 : Sh n a0 5) (a1 : Nat) (h1 : Sh n a1 9) (res : Int32 × Sto) (hM : MX6_firstThrough σ ρ a0 a1 = some res) : CTi E yX6_firstThrough cX6_firstThrough 3 (some .int) 5 [.ref (eb E + a0), .ref (eb E + a1)] n σ ρ res.1 res.2 ρ := by
  refine ct_i (by decide +kernel) rfl (Nat.le_of_ble_eq_true rfl) (fun X hE hml hC hR => ?_)
  subst hE
  show G X 0 0 n σ ρ 0 [(0, vr X a0), (1, vr X a1)] []
  replace hC : Cx X cX6_firstThrough RX6 5 := hC
  unfold MX6_firstThrough at hM
  refine g_iconst (v := 0) hC dX6_firstThrough_0 rfl ic_0 ?_
  refine g_istore_n hC (fun y1 => [(2, .int y1), (0, vr X a0), (1, vr X a1)]) dX6_firstThrough_1 rfl hM hml (by decide) (fun _ => rfl) (fun y1 hM => ?_)
  exact g_sub [1, 2, 0] ((bX6_firstThrough_2 hC hml hR a0 a1 h0 h1  FU) _ _ hM) rfl
def MX9_byteAt (σ : Sto) (ρ : Rho) (a0 : Nat) (a1 : Int32) : Option (Int32) :=
  if a1 < 0 then
    some (-1 : Int32)
  else
    if (σ a0 1) ≤ a1 then
      some (-1 : Int32)
    else
      if (500 : Int32) ≤ a1 then
        some (-1 : Int32)
      else
        Option.bind (ρ a0 0) fun j1 =>
        Option.bind (ag σ j1 a1) fun x2 =>
        some (x2 &&& (255 : Int32))
set_option maxHeartbeats 4000000 in
set_option maxRecDepth 100000 in
theorem c_X9_byteAt (E : EX) {n : Nat} {σ : Sto} {ρ : Rho} (a0 : Nat) (h0 : Sh n a0 8) (a1 : Int32) (res : Int32) (hM : MX9_byteAt σ ρ a0 a1 = some res) : CTi E yX9_byteAt cX9_byteAt 2 (some .int) 0 [.ref (eb E + a0), .int a1] n σ ρ res σ ρ := by
  refine ct_i (by decide +kernel) rfl (Nat.le_of_ble_eq_true rfl) (fun X hE hml hC hR => ?_)
  subst hE
  show G X 0 0 n σ ρ 0 [(0, vr X a0), (1, .int a1)] []
  replace hC : Cx X cX9_byteAt RX9 0 := hC
  unfold MX9_byteAt at hM
  refine g_iload_n hC dX9_byteAt_0 rfl 1 rfl ?_
  refine g_if_lt (tgt := 32) hC dX9_byteAt_1 rfl (by decide) hM (fun hM => ?_) (fun hM => ?_)
  · refine g_iconst (v := -1) hC dX9_byteAt_32 rfl ic_m1 ?_
    obtain rfl := Option.some.inj hM
    exact g_reti hR dX9_byteAt_33 rfl
  · refine g_iload_n hC dX9_byteAt_4 rfl 1 rfl ?_
    refine g_aload_n hC dX9_byteAt_5 rfl 0 rfl ?_
    refine fg_8_1 hC h0 k_163 dX9_byteAt_6 rfl ?_
    refine g_icmp_ge (tgt := 32) hC dX9_byteAt_9 rfl (by decide) hM (fun hM => ?_) (fun hM => ?_)
    · refine g_iconst (v := -1) hC dX9_byteAt_32 rfl ic_m1 ?_
      obtain rfl := Option.some.inj hM
      exact g_reti hR dX9_byteAt_33 rfl
    · refine g_iload_n hC dX9_byteAt_12 rfl 1 rfl ?_
      refine g_sipush (v := 500) hC dX9_byteAt_13 rfl is_500 ?_
      refine g_icmp_ge (tgt := 32) hC dX9_byteAt_16 rfl (by decide) hM (fun hM => ?_) (fun hM => ?_)
      · refine g_iconst (v := -1) hC dX9_byteAt_32 rfl ic_m1 ?_
        obtain rfl := Option.some.inj hM
        exact g_reti hR dX9_byteAt_33 rfl
      · refine g_aload_n hC dX9_byteAt_19 rfl 0 rfl ?_
        refine fg_8_0 hC h0 k_162 dX9_byteAt_20 rfl hM (fun j1 hj1 hM => ?_)
        refine g_iload_n hC dX9_byteAt_23 rfl 1 rfl ?_
        refine g_bald hC hj1 dX9_byteAt_24 rfl hM (fun x2 hM => ?_)
        refine g_sipush (v := 255) hC dX9_byteAt_25 rfl is_255 ?_
        refine g_iand hC dX9_byteAt_28 rfl ?_
        refine g_goto (tgt := 33) hC dX9_byteAt_29 rfl (by decide) ?_
        cases hM
        exact g_reti hR dX9_byteAt_33 rfl
def BX7_skipBlanks_31 (ρ : Rho) (a0 : Nat) (a1 : Nat) (rec : Sto → Int32 → Option (Sto)) (σ : Sto) (v2 : Int32) : Option (Sto) :=
  bn (su σ a0 5 (((σ a0 5) + (1 : Int32)))) fun σ1 =>
  bn (v2 + (1 : Int32)) fun y2 =>
  rec σ1 y2
set_option maxHeartbeats 4000000 in
set_option maxRecDepth 100000 in
theorem bX7_skipBlanks_31 {X : CX} {n : Nat} {ρ : Rho} {res : Sto} (hC : Cx X cX7_skipBlanks RX7 1) (hml : (xc X).maxLocals = 4) (hR : RtV X cX7_skipBlanks 0 0 n res ρ) (a0 : Nat) (a1 : Nat) (h0 : Sh n a0 6) (h1 : Sh n a1 8) (rec : Sto → Int32 → Option (Sto)) (ih : ∀ (σ : Sto) (v2 : Int32), rec σ v2 = some res → G X 0 0 n σ ρ 2 [(0, vr X a0), (1, vr X a1), (2, .int v2)] []) : ∀ (σ : Sto) (v2 : Int32), BX7_skipBlanks_31 ρ a0 a1 rec σ v2 = some res → G X 0 0 n σ ρ 31 [(0, vr X a0), (1, vr X a1), (2, .int v2)] [] := by
  intro σ v2 hM
  unfold BX7_skipBlanks_31 at hM
  refine g_aload_n hC dX7_skipBlanks_31 rfl 0 rfl ?_
  refine g_dup hC dX7_skipBlanks_32 rfl rfl ?_
  refine fg_6_5 hC h0 k_284 dX7_skipBlanks_33 rfl ?_
  refine g_iconst (v := 1) hC dX7_skipBlanks_36 rfl ic_1 ?_
  refine g_iadd hC dX7_skipBlanks_37 rfl ?_
  refine fp_6_5 hC h0 k_284 dX7_skipBlanks_38 rfl hM (fun σ1 hM => ?_)
  refine g_iinc (v := 1) hC (fun y2 => [(2, .int y2), (0, vr X a0), (1, vr X a1)]) dX7_skipBlanks_41 rfl hM (j := 2) rfl ic_1 hml (by decide) (fun _ => rfl) (fun y2 hM => ?_)
  refine g_goto (tgt := 2) hC dX7_skipBlanks_44 rfl (by decide) ?_
  exact g_sub [1, 2, 0] (ih _ _ hM) rfl
def FX7_skipBlanks_2 (ρ : Rho) (a0 : Nat) (a1 : Nat) (rec : Sto → Int32 → Option (Sto)) (σ : Sto) (v2 : Int32) : Option (Sto) :=
  if (500 : Int32) ≤ v2 then
    some σ
  else
    Option.bind (MX9_byteAt σ ρ a1 ((σ a0 5))) fun c1 =>
    bn c1 fun y2 =>
    if y2 = (32 : Int32) then
      BX7_skipBlanks_31 ρ a0 a1 rec σ v2
    else
      if y2 = (10 : Int32) then
        BX7_skipBlanks_31 ρ a0 a1 rec σ v2
      else
        some σ
set_option maxHeartbeats 4000000 in
set_option maxRecDepth 100000 in
theorem bX7_skipBlanks_2 {X : CX} {n : Nat} {ρ : Rho} {res : Sto} (hC : Cx X cX7_skipBlanks RX7 1) (hml : (xc X).maxLocals = 4) (hR : RtV X cX7_skipBlanks 0 0 n res ρ) (a0 : Nat) (a1 : Nat) (h0 : Sh n a0 6) (h1 : Sh n a1 8) (fu : Nat) : ∀ (σ : Sto) (v2 : Int32), fixN (fun _ _ => none) (FX7_skipBlanks_2 ρ a0 a1) fu σ v2 = some res → G X 0 0 n σ ρ 2 [(0, vr X a0), (1, vr X a1), (2, .int v2)] [] := by
  refine fixN_ind (P := fun (f : Sto → Int32 → Option (Sto)) => ∀ (σ : Sto) (v2 : Int32), f σ v2 = some res → G X 0 0 n σ ρ 2 [(0, vr X a0), (1, vr X a1), (2, .int v2)] []) ?_ ?_ fu
  · intro σ v2 hM; cases hM
  · intro rec ih σ v2 hM
    unfold FX7_skipBlanks_2 at hM
    refine g_iload_n hC dX7_skipBlanks_2 rfl 2 rfl ?_
    refine g_sipush (v := 500) hC dX7_skipBlanks_3 rfl is_500 ?_
    refine g_icmp_ge (tgt := 47) hC dX7_skipBlanks_6 rfl (by decide) hM (fun hM => ?_) (fun hM => ?_)
    · cases hM
      exact g_retv hR dX7_skipBlanks_47 rfl
    · refine g_aload_n hC dX7_skipBlanks_9 rfl 1 rfl ?_
      refine g_aload_n hC dX7_skipBlanks_10 rfl 0 rfl ?_
      refine fg_6_5 hC h0 k_284 dX7_skipBlanks_11 rfl ?_
      refine g_callVi (As := [.int ((σ a0 5))]) (st' := []) (k := a1) (L' := 0) hC Y_X9_byteAt I_X9_byteAt k_452 ⟨by decide, by decide⟩ h1 (ci := 8) (by decide) rfl dX7_skipBlanks_14 rfl rfl rfl (Nat.le_of_ble_eq_true rfl) ⟨Nat.zero_le _, Nat.zero_le _⟩ hM (fun c hc => c_X9_byteAt (xE X) a1 h1 ((σ a0 5)) c hc) (fun c1 hM => ?_)
      refine g_istore_n hC (fun y2 => [(3, .int y2), (0, vr X a0), (1, vr X a1), (2, .int v2)]) dX7_skipBlanks_17 rfl hM hml (by decide) (fun _ => rfl) (fun y2 hM => ?_)
      refine g_iload_n hC dX7_skipBlanks_18 rfl 0 rfl ?_
      refine g_bipush (v := 32) hC dX7_skipBlanks_19 rfl ib_32 ?_
      refine g_icmp_eq (tgt := 31) hC dX7_skipBlanks_21 rfl (by decide) hM (fun hM => ?_) (fun hM => ?_)
      · exact g_sub [1, 2, 3] ((bX7_skipBlanks_31 hC hml hR a0 a1 h0 h1 rec ih ) _ _ hM) rfl
      · refine g_iload_n hC dX7_skipBlanks_24 rfl 0 rfl ?_
        refine g_bipush (v := 10) hC dX7_skipBlanks_25 rfl ib_10 ?_
        refine g_icmp_eq (tgt := 31) hC dX7_skipBlanks_27 rfl (by decide) hM (fun hM => ?_) (fun hM => ?_)
        · exact g_sub [1, 2, 3] ((bX7_skipBlanks_31 hC hml hR a0 a1 h0 h1 rec ih ) _ _ hM) rfl
        · cases hM
          exact g_retv hR dX7_skipBlanks_30 rfl
def MX7_skipBlanks (σ : Sto) (ρ : Rho) (a0 : Nat) (a1 : Nat) : Option (Sto) :=
  bn ((0 : Int32)) fun y1 =>
  fixN (fun _ _ => none) (FX7_skipBlanks_2 ρ a0 a1) FU σ y1
set_option maxHeartbeats 4000000 in
set_option maxRecDepth 100000 in
theorem c_X7_skipBlanks (E : EX) {n : Nat} {σ : Sto} {ρ : Rho} (a0 : Nat) (h0 : Sh n a0 6) (a1 : Nat) (h1 : Sh n a1 8) (res : Sto) (hM : MX7_skipBlanks σ ρ a0 a1 = some res) : CTv E yX7_skipBlanks cX7_skipBlanks 4 1 0 0 [.ref (eb E + a0), .ref (eb E + a1)] n σ ρ res ρ := by
  refine ct_v (by decide +kernel) (Nat.le_of_ble_eq_true rfl) (fun X hE hml hin hRm hC hR => ?_)
  subst hE
  show G X 0 0 n σ ρ 0 [(0, vr X a0), (1, vr X a1)] []
  replace hC : Cx X cX7_skipBlanks RX7 1 := hC
  unfold MX7_skipBlanks at hM
  refine g_iconst (v := 0) hC dX7_skipBlanks_0 rfl ic_0 ?_
  refine g_istore_n hC (fun y1 => [(2, .int y1), (0, vr X a0), (1, vr X a1)]) dX7_skipBlanks_1 rfl hM hml (by decide) (fun _ => rfl) (fun y1 hM => ?_)
  exact g_sub [1, 2, 0] ((bX7_skipBlanks_2 hC hml hR a0 a1 h0 h1  FU) _ _ hM) rfl
def MX7_isLetter (a0 : Int32) : Option (Int32) :=
  if a0 < (97 : Int32) then
    zr ((0 : Int32)) (some (0 : Int32))
  else
    if (122 : Int32) < a0 then
      zr ((0 : Int32)) (some (0 : Int32))
    else
      zr ((1 : Int32)) (some (1 : Int32))
set_option maxHeartbeats 4000000 in
set_option maxRecDepth 100000 in
theorem c_X7_isLetter (E : EX) {n : Nat} {σ : Sto} {ρ : Rho} (a0 : Int32) (res : Int32) (hM : MX7_isLetter a0 = some res) : CTi E yX7_isLetter cX7_isLetter 1 (some .boolean) 0 [.int a0] n σ ρ res σ ρ := by
  refine ct_i (by decide +kernel) rfl (Nat.le_of_ble_eq_true rfl) (fun X hE hml hC hR => ?_)
  subst hE
  show G X 0 0 n σ ρ 0 [(0, .int a0)] []
  replace hC : Cx X cX7_isLetter RX7 0 := hC
  unfold MX7_isLetter at hM
  refine g_iload_n hC dX7_isLetter_0 rfl 0 rfl ?_
  refine g_bipush (v := 97) hC dX7_isLetter_1 rfl ib_97 ?_
  refine g_icmp_lt (tgt := 16) hC dX7_isLetter_3 rfl (by decide) hM (fun hM => ?_) (fun hM => ?_)
  · refine g_iconst (v := 0) hC dX7_isLetter_16 rfl ic_0 ?_
    exact g_retz hM dX7_isLetter_17 rfl (fun h => by cases h; exact hR)
  · refine g_iload_n hC dX7_isLetter_6 rfl 0 rfl ?_
    refine g_bipush (v := 122) hC dX7_isLetter_7 rfl ib_122 ?_
    refine g_icmp_gt (tgt := 16) hC dX7_isLetter_9 rfl (by decide) hM (fun hM => ?_) (fun hM => ?_)
    · refine g_iconst (v := 0) hC dX7_isLetter_16 rfl ic_0 ?_
      exact g_retz hM dX7_isLetter_17 rfl (fun h => by cases h; exact hR)
    · refine g_iconst (v := 1) hC dX7_isLetter_12 rfl ic_1 ?_
      refine g_goto (tgt := 17) hC dX7_isLetter_13 rfl (by decide) ?_
      exact g_retz hM dX7_isLetter_17 rfl (fun h => by cases h; exact hR)
def FX7_takeWord_7 (ρ : Rho) (a0 : Nat) (a1 : Nat) (rec : Sto → Int32 → Option (Sto)) (σ : Sto) (v2 : Int32) : Option (Sto) :=
  if (500 : Int32) ≤ v2 then
    some σ
  else
    Option.bind (MX9_byteAt σ ρ a1 ((σ a0 5))) fun c1 =>
    Option.bind (MX7_isLetter c1) fun c2 =>
    if c2 = 0 then
      some σ
    else
      bn (su σ a0 5 (((σ a0 5) + (1 : Int32)))) fun σ3 =>
      bn (v2 + (1 : Int32)) fun y4 =>
      rec σ3 y4
set_option maxHeartbeats 4000000 in
set_option maxRecDepth 100000 in
theorem bX7_takeWord_7 {X : CX} {n : Nat} {ρ : Rho} {res : Sto} (hC : Cx X cX7_takeWord RX7 1) (hml : (xc X).maxLocals = 3) (hR : RtV X cX7_takeWord 0 0 n res ρ) (a0 : Nat) (a1 : Nat) (h0 : Sh n a0 6) (h1 : Sh n a1 8) (fu : Nat) : ∀ (σ : Sto) (v2 : Int32), fixN (fun _ _ => none) (FX7_takeWord_7 ρ a0 a1) fu σ v2 = some res → G X 0 0 n σ ρ 7 [(0, vr X a0), (1, vr X a1), (2, .int v2)] [] := by
  refine fixN_ind (P := fun (f : Sto → Int32 → Option (Sto)) => ∀ (σ : Sto) (v2 : Int32), f σ v2 = some res → G X 0 0 n σ ρ 7 [(0, vr X a0), (1, vr X a1), (2, .int v2)] []) ?_ ?_ fu
  · intro σ v2 hM; cases hM
  · intro rec ih σ v2 hM
    unfold FX7_takeWord_7 at hM
    refine g_iload_n hC dX7_takeWord_7 rfl 2 rfl ?_
    refine g_sipush (v := 500) hC dX7_takeWord_8 rfl is_500 ?_
    refine g_icmp_ge (tgt := 44) hC dX7_takeWord_11 rfl (by decide) hM (fun hM => ?_) (fun hM => ?_)
    · cases hM
      exact g_retv hR dX7_takeWord_44 rfl
    · refine g_aload_n hC dX7_takeWord_14 rfl 1 rfl ?_
      refine g_aload_n hC dX7_takeWord_15 rfl 0 rfl ?_
      refine fg_6_5 hC h0 k_284 dX7_takeWord_16 rfl ?_
      refine g_callVi (As := [.int ((σ a0 5))]) (st' := []) (k := a1) (L' := 0) hC Y_X9_byteAt I_X9_byteAt k_452 ⟨by decide, by decide⟩ h1 (ci := 8) (by decide) rfl dX7_takeWord_19 rfl rfl rfl (Nat.le_of_ble_eq_true rfl) ⟨Nat.zero_le _, Nat.zero_le _⟩ hM (fun c hc => c_X9_byteAt (xE X) a1 h1 ((σ a0 5)) c hc) (fun c1 hM => ?_)
      refine g_callSi (As := [.int c1]) (st' := []) (L' := 0) hC Y_X7_isLetter k_457 k_456 ⟨by decide, by decide⟩ dX7_takeWord_22 rfl rfl rfl (Nat.le_of_ble_eq_true rfl) ⟨Nat.zero_le _, Nat.zero_le _⟩ hM (fun c hc => c_X7_isLetter (xE X) c1 c hc) (fun c2 hM => ?_)
      refine g_if_eq (tgt := 44) hC dX7_takeWord_25 rfl (by decide) hM (fun hM => ?_) (fun hM => ?_)
      · cases hM
        exact g_retv hR dX7_takeWord_44 rfl
      · refine g_aload_n hC dX7_takeWord_28 rfl 0 rfl ?_
        refine g_dup hC dX7_takeWord_29 rfl rfl ?_
        refine fg_6_5 hC h0 k_284 dX7_takeWord_30 rfl ?_
        refine g_iconst (v := 1) hC dX7_takeWord_33 rfl ic_1 ?_
        refine g_iadd hC dX7_takeWord_34 rfl ?_
        refine fp_6_5 hC h0 k_284 dX7_takeWord_35 rfl hM (fun σ3 hM => ?_)
        refine g_iinc (v := 1) hC (fun y4 => [(2, .int y4), (0, vr X a0), (1, vr X a1)]) dX7_takeWord_38 rfl hM (j := 2) rfl ic_1 hml (by decide) (fun _ => rfl) (fun y4 hM => ?_)
        refine g_goto (tgt := 7) hC dX7_takeWord_41 rfl (by decide) ?_
        exact g_sub [1, 2, 0] (ih _ _ hM) rfl
def MX7_takeWord (σ : Sto) (ρ : Rho) (a0 : Nat) (a1 : Nat) : Option (Sto) :=
  bn (su σ a0 6 ((1 : Int32))) fun σ1 =>
  bn ((0 : Int32)) fun y2 =>
  fixN (fun _ _ => none) (FX7_takeWord_7 ρ a0 a1) FU σ1 y2
set_option maxHeartbeats 4000000 in
set_option maxRecDepth 100000 in
theorem c_X7_takeWord (E : EX) {n : Nat} {σ : Sto} {ρ : Rho} (a0 : Nat) (h0 : Sh n a0 6) (a1 : Nat) (h1 : Sh n a1 8) (res : Sto) (hM : MX7_takeWord σ ρ a0 a1 = some res) : CTv E yX7_takeWord cX7_takeWord 3 1 0 0 [.ref (eb E + a0), .ref (eb E + a1)] n σ ρ res ρ := by
  refine ct_v (by decide +kernel) (Nat.le_of_ble_eq_true rfl) (fun X hE hml hin hRm hC hR => ?_)
  subst hE
  show G X 0 0 n σ ρ 0 [(0, vr X a0), (1, vr X a1)] []
  replace hC : Cx X cX7_takeWord RX7 1 := hC
  unfold MX7_takeWord at hM
  refine g_aload_n hC dX7_takeWord_0 rfl 0 rfl ?_
  refine g_iconst (v := 1) hC dX7_takeWord_1 rfl ic_1 ?_
  refine fp_6_6 hC h0 k_285 dX7_takeWord_2 rfl hM (fun σ1 hM => ?_)
  refine g_iconst (v := 0) hC dX7_takeWord_5 rfl ic_0 ?_
  refine g_istore_n hC (fun y2 => [(2, .int y2), (0, vr X a0), (1, vr X a1)]) dX7_takeWord_6 rfl hM hml (by decide) (fun _ => rfl) (fun y2 hM => ?_)
  exact g_sub [1, 2, 0] ((bX7_takeWord_7 hC hml hR a0 a1 h0 h1  FU) _ _ hM) rfl
def MX7_isDigit (a0 : Int32) : Option (Int32) :=
  if a0 < (48 : Int32) then
    zr ((0 : Int32)) (some (0 : Int32))
  else
    if (57 : Int32) < a0 then
      zr ((0 : Int32)) (some (0 : Int32))
    else
      zr ((1 : Int32)) (some (1 : Int32))
set_option maxHeartbeats 4000000 in
set_option maxRecDepth 100000 in
theorem c_X7_isDigit (E : EX) {n : Nat} {σ : Sto} {ρ : Rho} (a0 : Int32) (res : Int32) (hM : MX7_isDigit a0 = some res) : CTi E yX7_isDigit cX7_isDigit 1 (some .boolean) 0 [.int a0] n σ ρ res σ ρ := by
  refine ct_i (by decide +kernel) rfl (Nat.le_of_ble_eq_true rfl) (fun X hE hml hC hR => ?_)
  subst hE
  show G X 0 0 n σ ρ 0 [(0, .int a0)] []
  replace hC : Cx X cX7_isDigit RX7 0 := hC
  unfold MX7_isDigit at hM
  refine g_iload_n hC dX7_isDigit_0 rfl 0 rfl ?_
  refine g_bipush (v := 48) hC dX7_isDigit_1 rfl ib_48 ?_
  refine g_icmp_lt (tgt := 16) hC dX7_isDigit_3 rfl (by decide) hM (fun hM => ?_) (fun hM => ?_)
  · refine g_iconst (v := 0) hC dX7_isDigit_16 rfl ic_0 ?_
    exact g_retz hM dX7_isDigit_17 rfl (fun h => by cases h; exact hR)
  · refine g_iload_n hC dX7_isDigit_6 rfl 0 rfl ?_
    refine g_bipush (v := 57) hC dX7_isDigit_7 rfl ib_57 ?_
    refine g_icmp_gt (tgt := 16) hC dX7_isDigit_9 rfl (by decide) hM (fun hM => ?_) (fun hM => ?_)
    · refine g_iconst (v := 0) hC dX7_isDigit_16 rfl ic_0 ?_
      exact g_retz hM dX7_isDigit_17 rfl (fun h => by cases h; exact hR)
    · refine g_iconst (v := 1) hC dX7_isDigit_12 rfl ic_1 ?_
      refine g_goto (tgt := 17) hC dX7_isDigit_13 rfl (by decide) ?_
      exact g_retz hM dX7_isDigit_17 rfl (fun h => by cases h; exact hR)
