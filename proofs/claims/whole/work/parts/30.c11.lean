def BX11_nthLineOn_76 (ρ : Rho) (a0 : Nat) (a1 : Int32) (rec : Sto → Int32 → Int32 → Int32 → Option (Int32 × Sto)) (σ : Sto) (v2 : Int32) (v3 : Int32) (v4 : Int32) : Option (Int32 × Sto) :=
  bn (v4 + (1 : Int32)) fun y1 =>
  rec σ v2 v3 y1
set_option maxHeartbeats 4000000 in
set_option maxRecDepth 100000 in
theorem bX11_nthLineOn_76 {X : CX} {n : Nat} {ρ : Rho} {res : Int32 × Sto} (hC : Cx X cX11_nthLineOn RX11 6) (hml : (xc X).maxLocals = 5) (hR : RtT (some .int) X cX11_nthLineOn n res.1 res.2 ρ) (a0 : Nat) (a1 : Int32) (h0 : Sh n a0 10) (rec : Sto → Int32 → Int32 → Int32 → Option (Int32 × Sto)) (ih : ∀ (σ : Sto) (v2 : Int32) (v3 : Int32) (v4 : Int32), rec σ v2 v3 v4 = some res → G X 0 0 n σ ρ 29 [(0, vr X a0), (1, .int a1), (2, .int v2), (3, .int v3), (4, .int v4)] []) : ∀ (σ : Sto) (v2 : Int32) (v3 : Int32) (v4 : Int32), BX11_nthLineOn_76 ρ a0 a1 rec σ v2 v3 v4 = some res → G X 0 0 n σ ρ 76 [(0, vr X a0), (1, .int a1), (2, .int v2), (3, .int v3), (4, .int v4)] [] := by
  intro σ v2 v3 v4 hM
  unfold BX11_nthLineOn_76 at hM
  refine g_iinc (v := 1) hC (fun y1 => [(4, .int y1), (0, vr X a0), (1, .int a1), (2, .int v2), (3, .int v3)]) dX11_nthLineOn_76 rfl hM (j := 4) rfl ic_1 hml (by decide) (fun _ => rfl) (fun y1 hM => ?_)
  refine g_goto (tgt := 29) hC dX11_nthLineOn_79 rfl (by decide) ?_
  exact g_sub [1, 2, 3, 4, 0] (ih _ _ _ _ hM) rfl
def FX11_nthLineOn_29 (ρ : Rho) (a0 : Nat) (a1 : Int32) (rec : Sto → Int32 → Int32 → Int32 → Option (Int32 × Sto)) (σ : Sto) (v2 : Int32) (v3 : Int32) (v4 : Int32) : Option (Int32 × Sto) :=
  Option.bind (MX2_points v2) fun c1 =>
  if c1 ≤ v4 then
    some ((-1 : Int32), σ)
  else
    Option.bind (ρ a0 11) fun j2 =>
    Option.bind (MX10_take σ j2 v4 v2) fun c3 =>
    if c3.1 = 0 then
      BX11_nthLineOn_76 ρ a0 a1 rec c3.2 v2 v3 v4
    else
      Option.bind (ρ a0 7) fun j4 =>
      Option.bind (ρ a0 11) fun j5 =>
      Option.bind (MX0_crossings c3.2 ρ j4 j5) fun c6 =>
      if c6 ≤ (2 : Int32) then
        BX11_nthLineOn_76 ρ a0 a1 rec c3.2 v2 v3 v4
      else
        if v3 = 0 then
          some (v4, c3.2)
        else
          bn (v3 + (-1 : Int32)) fun y7 =>
          BX11_nthLineOn_76 ρ a0 a1 rec c3.2 v2 y7 v4
set_option maxHeartbeats 4000000 in
set_option maxRecDepth 100000 in
theorem bX11_nthLineOn_29 {X : CX} {n : Nat} {ρ : Rho} {res : Int32 × Sto} (hC : Cx X cX11_nthLineOn RX11 6) (hml : (xc X).maxLocals = 5) (hR : RtT (some .int) X cX11_nthLineOn n res.1 res.2 ρ) (a0 : Nat) (a1 : Int32) (h0 : Sh n a0 10) (fu : Nat) : ∀ (σ : Sto) (v2 : Int32) (v3 : Int32) (v4 : Int32), fixN (fun _ _ _ _ => none) (FX11_nthLineOn_29 ρ a0 a1) fu σ v2 v3 v4 = some res → G X 0 0 n σ ρ 29 [(0, vr X a0), (1, .int a1), (2, .int v2), (3, .int v3), (4, .int v4)] [] := by
  refine fixN_ind (P := fun (f : Sto → Int32 → Int32 → Int32 → Option (Int32 × Sto)) => ∀ (σ : Sto) (v2 : Int32) (v3 : Int32) (v4 : Int32), f σ v2 v3 v4 = some res → G X 0 0 n σ ρ 29 [(0, vr X a0), (1, .int a1), (2, .int v2), (3, .int v3), (4, .int v4)] []) ?_ ?_ fu
  · intro σ v2 v3 v4 hM; cases hM
  · intro rec ih σ v2 v3 v4 hM
    unfold FX11_nthLineOn_29 at hM
    refine g_iload hC dX11_nthLineOn_29 rfl 4 rfl ?_
    refine g_iload_n hC dX11_nthLineOn_31 rfl 2 rfl ?_
    refine g_callSi (As := [.int v2]) (st' := [.int v4]) (L' := 0) hC Y_X2_points k_552 k_813 ⟨by decide, by decide⟩ dX11_nthLineOn_32 rfl rfl rfl (Nat.le_of_ble_eq_true rfl) ⟨Nat.zero_le _, Nat.zero_le _⟩ hM (fun c hc => c_X2_points (xE X) v2 c hc) (fun c1 hM => ?_)
    refine g_icmp_ge (tgt := 82) hC dX11_nthLineOn_35 rfl (by decide) hM (fun hM => ?_) (fun hM => ?_)
    · refine g_iconst (v := -1) hC dX11_nthLineOn_82 rfl ic_m1 ?_
      obtain rfl := Option.some.inj hM
      exact g_reti hR dX11_nthLineOn_83 rfl
    · refine g_aload_n hC dX11_nthLineOn_38 rfl 0 rfl ?_
      refine fg_10_11 hC h0 k_391 dX11_nthLineOn_39 rfl hM (fun j2 hj2 hM => ?_)
      refine g_iload hC dX11_nthLineOn_42 rfl 4 rfl ?_
      refine g_iload_n hC dX11_nthLineOn_44 rfl 2 rfl ?_
      refine g_callVi (As := [.int v4, .int v2]) (st' := []) (k := j2) (L' := 1) hC Y_X10_take I_X10_take k_790 ⟨by decide, by decide⟩ hj2 (ci := 9) (by decide) rfl dX11_nthLineOn_45 rfl rfl rfl (Nat.le_of_ble_eq_true rfl) ⟨Nat.zero_le _, Nat.zero_le _⟩ hM (fun c hc => c_X10_take (xE X) j2 hj2 v4 v2 c hc) (fun c3 hM => ?_)
      refine g_if_eq (tgt := 76) hC dX11_nthLineOn_48 rfl (by decide) hM (fun hM => ?_) (fun hM => ?_)
      · exact g_sub [0, 1, 2, 3, 4] ((bX11_nthLineOn_76 hC hml hR a0 a1 h0 rec ih ) _ _ _ _ hM) rfl
      · refine g_aload_n hC dX11_nthLineOn_51 rfl 0 rfl ?_
        refine fg_10_7 hC h0 k_387 dX11_nthLineOn_52 rfl hM (fun j4 hj4 hM => ?_)
        refine g_aload_n hC dX11_nthLineOn_55 rfl 0 rfl ?_
        refine fg_10_11 hC h0 k_391 dX11_nthLineOn_56 rfl hM (fun j5 hj5 hM => ?_)
        refine g_callVi (As := [vr X j5]) (st' := []) (k := j4) (L' := 4) hC Y_X0_crossings I_X0_crossings k_925 ⟨by decide, by decide⟩ hj4 (ci := 0) (by decide) rfl dX11_nthLineOn_59 rfl rfl rfl (Nat.le_of_ble_eq_true rfl) ⟨Nat.zero_le _, Nat.zero_le _⟩ hM (fun c hc => c_X0_crossings (xE X) j4 hj4 j5 hj5 c hc) (fun c6 hM => ?_)
        refine g_iconst (v := 2) hC dX11_nthLineOn_62 rfl ic_2 ?_
        refine g_icmp_le (tgt := 76) hC dX11_nthLineOn_63 rfl (by decide) hM (fun hM => ?_) (fun hM => ?_)
        · exact g_sub [0, 1, 2, 3, 4] ((bX11_nthLineOn_76 hC hml hR a0 a1 h0 rec ih ) _ _ _ _ hM) rfl
        · refine g_iload_n hC dX11_nthLineOn_66 rfl 3 rfl ?_
          refine g_if_ne (tgt := 73) hC dX11_nthLineOn_67 rfl (by decide) hM (fun hM => ?_) (fun hM => ?_)
          · refine g_iinc (v := -1) hC (fun y7 => [(3, .int y7), (0, vr X a0), (1, .int a1), (2, .int v2), (4, .int v4)]) dX11_nthLineOn_73 rfl hM (j := 3) rfl ic_m1 hml (by decide) (fun _ => rfl) (fun y7 hM => ?_)
            exact g_sub [1, 2, 3, 0, 4] ((bX11_nthLineOn_76 hC hml hR a0 a1 h0 rec ih ) _ _ _ _ hM) rfl
          · refine g_iload hC dX11_nthLineOn_70 rfl 4 rfl ?_
            cases hM
            exact g_reti hR dX11_nthLineOn_72 rfl
def MX11_nthLineOn (σ : Sto) (ρ : Rho) (a0 : Nat) (a1 : Int32) : Option (Int32 × Sto) :=
  Option.bind (ρ a0 0) fun j1 =>
  Option.bind (ρ j1 0) fun j2 =>
  bn ((σ j2 0)) fun y3 =>
  bn a1 fun y4 =>
  Option.bind (ρ a0 7) fun j5 =>
  Option.bind (MX0_lines σ ρ j5) fun c6 =>
  if a1 < c6 then
    bn ((0 : Int32)) fun y7 =>
    fixN (fun _ _ _ _ => none) (FX11_nthLineOn_29 ρ a0 a1) FU σ y3 y4 y7
  else
    some ((-1 : Int32), σ)
set_option maxHeartbeats 4000000 in
set_option maxRecDepth 100000 in
theorem c_X11_nthLineOn (E : EX) {n : Nat} {σ : Sto} {ρ : Rho} (a0 : Nat) (h0 : Sh n a0 10) (a1 : Int32) (res : Int32 × Sto) (hM : MX11_nthLineOn σ ρ a0 a1 = some res) : CTi E yX11_nthLineOn cX11_nthLineOn 5 (some .int) 6 [.ref (eb E + a0), .int a1] n σ ρ res.1 res.2 ρ := by
  refine ct_i (by decide +kernel) rfl (Nat.le_of_ble_eq_true rfl) (fun X hE hml hC hR => ?_)
  subst hE
  show G X 0 0 n σ ρ 0 [(0, vr X a0), (1, .int a1)] []
  replace hC : Cx X cX11_nthLineOn RX11 6 := hC
  unfold MX11_nthLineOn at hM
  refine g_aload_n hC dX11_nthLineOn_0 rfl 0 rfl ?_
  refine fg_10_0 hC h0 k_380 dX11_nthLineOn_1 rfl hM (fun j1 hj1 hM => ?_)
  refine fg_3_0 hC hj1 k_172 dX11_nthLineOn_4 rfl hM (fun j2 hj2 hM => ?_)
  refine fg_7_0 hC hj2 k_138 dX11_nthLineOn_7 rfl ?_
  refine g_istore_n hC (fun y3 => [(2, .int y3), (0, vr X a0), (1, .int a1)]) dX11_nthLineOn_10 rfl hM hml (by decide) (fun _ => rfl) (fun y3 hM => ?_)
  refine g_iload_n hC dX11_nthLineOn_11 rfl 2 rfl ?_
  refine g_istore_n hC (fun y4 => [(3, .int y4), (2, .int y3), (0, vr X a0), (1, .int a1)]) dX11_nthLineOn_12 rfl hM hml (by decide) (fun _ => rfl) (fun y4 hM => ?_)
  refine g_iload_n hC dX11_nthLineOn_13 rfl 3 rfl ?_
  refine g_aload_n hC dX11_nthLineOn_14 rfl 2 rfl ?_
  refine fg_10_7 hC h0 k_387 dX11_nthLineOn_15 rfl hM (fun j5 hj5 hM => ?_)
  refine g_callVi (As := []) (st' := [.int a1]) (k := j5) (L' := 5) hC Y_X0_lines I_X0_lines k_877 ⟨by decide, by decide⟩ hj5 (ci := 0) (by decide) rfl dX11_nthLineOn_18 rfl rfl rfl (Nat.le_of_ble_eq_true rfl) ⟨Nat.zero_le _, Nat.zero_le _⟩ hM (fun c hc => c_X0_lines (xE X) j5 hj5 c hc) (fun c6 hM => ?_)
  refine g_icmp_lt (tgt := 26) hC dX11_nthLineOn_21 rfl (by decide) hM (fun hM => ?_) (fun hM => ?_)
  · refine g_iconst (v := 0) hC dX11_nthLineOn_26 rfl ic_0 ?_
    refine g_istore hC (fun y7 => [(4, .int y7), (3, .int y4), (2, .int y3), (0, vr X a0), (1, .int a1)]) dX11_nthLineOn_27 rfl hM hml (by decide) (fun _ => rfl) (fun y7 hM => ?_)
    exact g_sub [3, 4, 2, 1, 0] ((bX11_nthLineOn_29 hC hml hR a0 a1 h0  FU) _ _ _ _ hM) rfl
  · refine g_iconst (v := -1) hC dX11_nthLineOn_24 rfl ic_m1 ?_
    obtain rfl := Option.some.inj hM
    exact g_reti hR dX11_nthLineOn_25 rfl
def BX11_nthPointOn_62 (ρ : Rho) (a0 : Nat) (a1 : Int32) (rec : Sto → Int32 → Int32 → Int32 → Option (Int32 × Sto)) (σ : Sto) (v2 : Int32) (v3 : Int32) (v4 : Int32) : Option (Int32 × Sto) :=
  bn (v4 + (1 : Int32)) fun y1 =>
  rec σ v2 v3 y1
set_option maxHeartbeats 4000000 in
set_option maxRecDepth 100000 in
theorem bX11_nthPointOn_62 {X : CX} {n : Nat} {ρ : Rho} {res : Int32 × Sto} (hC : Cx X cX11_nthPointOn RX11 3) (hml : (xc X).maxLocals = 5) (hR : RtT (some .int) X cX11_nthPointOn n res.1 res.2 ρ) (a0 : Nat) (a1 : Int32) (h0 : Sh n a0 10) (rec : Sto → Int32 → Int32 → Int32 → Option (Int32 × Sto)) (ih : ∀ (σ : Sto) (v2 : Int32) (v3 : Int32) (v4 : Int32), rec σ v2 v3 v4 = some res → G X 0 0 n σ ρ 16 [(0, vr X a0), (1, .int a1), (2, .int v2), (3, .int v3), (4, .int v4)] []) : ∀ (σ : Sto) (v2 : Int32) (v3 : Int32) (v4 : Int32), BX11_nthPointOn_62 ρ a0 a1 rec σ v2 v3 v4 = some res → G X 0 0 n σ ρ 62 [(0, vr X a0), (1, .int a1), (2, .int v2), (3, .int v3), (4, .int v4)] [] := by
  intro σ v2 v3 v4 hM
  unfold BX11_nthPointOn_62 at hM
  refine g_iinc (v := 1) hC (fun y1 => [(4, .int y1), (0, vr X a0), (1, .int a1), (2, .int v2), (3, .int v3)]) dX11_nthPointOn_62 rfl hM (j := 4) rfl ic_1 hml (by decide) (fun _ => rfl) (fun y1 hM => ?_)
  refine g_goto (tgt := 16) hC dX11_nthPointOn_65 rfl (by decide) ?_
  exact g_sub [1, 2, 3, 4, 0] (ih _ _ _ _ hM) rfl
def FX11_nthPointOn_16 (ρ : Rho) (a0 : Nat) (a1 : Int32) (rec : Sto → Int32 → Int32 → Int32 → Option (Int32 × Sto)) (σ : Sto) (v2 : Int32) (v3 : Int32) (v4 : Int32) : Option (Int32 × Sto) :=
  Option.bind (MX2_points v2) fun c1 =>
  if c1 ≤ v4 then
    some ((-1 : Int32), σ)
  else
    Option.bind (ρ a0 11) fun j2 =>
    Option.bind (MX10_take σ j2 v4 v2) fun c3 =>
    if c3.1 = 0 then
      BX11_nthPointOn_62 ρ a0 a1 rec c3.2 v2 v3 v4
    else
      Option.bind (ρ a0 7) fun j4 =>
      Option.bind (ρ a0 11) fun j5 =>
      Option.bind (MX0_valueAt c3.2 ρ j4 j5) fun c6 =>
      if c6 = 0 then
        if v3 = 0 then
          some (v4, c3.2)
        else
          bn (v3 + (-1 : Int32)) fun y7 =>
          BX11_nthPointOn_62 ρ a0 a1 rec c3.2 v2 y7 v4
      else
        BX11_nthPointOn_62 ρ a0 a1 rec c3.2 v2 v3 v4
set_option maxHeartbeats 4000000 in
set_option maxRecDepth 100000 in
theorem bX11_nthPointOn_16 {X : CX} {n : Nat} {ρ : Rho} {res : Int32 × Sto} (hC : Cx X cX11_nthPointOn RX11 3) (hml : (xc X).maxLocals = 5) (hR : RtT (some .int) X cX11_nthPointOn n res.1 res.2 ρ) (a0 : Nat) (a1 : Int32) (h0 : Sh n a0 10) (fu : Nat) : ∀ (σ : Sto) (v2 : Int32) (v3 : Int32) (v4 : Int32), fixN (fun _ _ _ _ => none) (FX11_nthPointOn_16 ρ a0 a1) fu σ v2 v3 v4 = some res → G X 0 0 n σ ρ 16 [(0, vr X a0), (1, .int a1), (2, .int v2), (3, .int v3), (4, .int v4)] [] := by
  refine fixN_ind (P := fun (f : Sto → Int32 → Int32 → Int32 → Option (Int32 × Sto)) => ∀ (σ : Sto) (v2 : Int32) (v3 : Int32) (v4 : Int32), f σ v2 v3 v4 = some res → G X 0 0 n σ ρ 16 [(0, vr X a0), (1, .int a1), (2, .int v2), (3, .int v3), (4, .int v4)] []) ?_ ?_ fu
  · intro σ v2 v3 v4 hM; cases hM
  · intro rec ih σ v2 v3 v4 hM
    unfold FX11_nthPointOn_16 at hM
    refine g_iload hC dX11_nthPointOn_16 rfl 4 rfl ?_
    refine g_iload_n hC dX11_nthPointOn_18 rfl 2 rfl ?_
    refine g_callSi (As := [.int v2]) (st' := [.int v4]) (L' := 0) hC Y_X2_points k_552 k_813 ⟨by decide, by decide⟩ dX11_nthPointOn_19 rfl rfl rfl (Nat.le_of_ble_eq_true rfl) ⟨Nat.zero_le _, Nat.zero_le _⟩ hM (fun c hc => c_X2_points (xE X) v2 c hc) (fun c1 hM => ?_)
    refine g_icmp_ge (tgt := 68) hC dX11_nthPointOn_22 rfl (by decide) hM (fun hM => ?_) (fun hM => ?_)
    · refine g_iconst (v := -1) hC dX11_nthPointOn_68 rfl ic_m1 ?_
      obtain rfl := Option.some.inj hM
      exact g_reti hR dX11_nthPointOn_69 rfl
    · refine g_aload_n hC dX11_nthPointOn_25 rfl 0 rfl ?_
      refine fg_10_11 hC h0 k_391 dX11_nthPointOn_26 rfl hM (fun j2 hj2 hM => ?_)
      refine g_iload hC dX11_nthPointOn_29 rfl 4 rfl ?_
      refine g_iload_n hC dX11_nthPointOn_31 rfl 2 rfl ?_
      refine g_callVi (As := [.int v4, .int v2]) (st' := []) (k := j2) (L' := 1) hC Y_X10_take I_X10_take k_790 ⟨by decide, by decide⟩ hj2 (ci := 9) (by decide) rfl dX11_nthPointOn_32 rfl rfl rfl (Nat.le_of_ble_eq_true rfl) ⟨Nat.zero_le _, Nat.zero_le _⟩ hM (fun c hc => c_X10_take (xE X) j2 hj2 v4 v2 c hc) (fun c3 hM => ?_)
      refine g_if_eq (tgt := 62) hC dX11_nthPointOn_35 rfl (by decide) hM (fun hM => ?_) (fun hM => ?_)
      · exact g_sub [0, 1, 2, 3, 4] ((bX11_nthPointOn_62 hC hml hR a0 a1 h0 rec ih ) _ _ _ _ hM) rfl
      · refine g_aload_n hC dX11_nthPointOn_38 rfl 0 rfl ?_
        refine fg_10_7 hC h0 k_387 dX11_nthPointOn_39 rfl hM (fun j4 hj4 hM => ?_)
        refine g_aload_n hC dX11_nthPointOn_42 rfl 0 rfl ?_
        refine fg_10_11 hC h0 k_391 dX11_nthPointOn_43 rfl hM (fun j5 hj5 hM => ?_)
        refine g_callVi (As := [vr X j5]) (st' := []) (k := j4) (L' := 2) hC Y_X0_valueAt I_X0_valueAt k_915 ⟨by decide, by decide⟩ hj4 (ci := 0) (by decide) rfl dX11_nthPointOn_46 rfl rfl rfl (Nat.le_of_ble_eq_true rfl) ⟨Nat.zero_le _, Nat.zero_le _⟩ hM (fun c hc => c_X0_valueAt (xE X) j4 hj4 j5 hj5 c hc) (fun c6 hM => ?_)
        refine g_if_ne (tgt := 62) hC dX11_nthPointOn_49 rfl (by decide) hM (fun hM => ?_) (fun hM => ?_)
        · exact g_sub [0, 1, 2, 3, 4] ((bX11_nthPointOn_62 hC hml hR a0 a1 h0 rec ih ) _ _ _ _ hM) rfl
        · refine g_iload_n hC dX11_nthPointOn_52 rfl 3 rfl ?_
          refine g_if_ne (tgt := 59) hC dX11_nthPointOn_53 rfl (by decide) hM (fun hM => ?_) (fun hM => ?_)
          · refine g_iinc (v := -1) hC (fun y7 => [(3, .int y7), (0, vr X a0), (1, .int a1), (2, .int v2), (4, .int v4)]) dX11_nthPointOn_59 rfl hM (j := 3) rfl ic_m1 hml (by decide) (fun _ => rfl) (fun y7 hM => ?_)
            exact g_sub [1, 2, 3, 0, 4] ((bX11_nthPointOn_62 hC hml hR a0 a1 h0 rec ih ) _ _ _ _ hM) rfl
          · refine g_iload hC dX11_nthPointOn_56 rfl 4 rfl ?_
            cases hM
            exact g_reti hR dX11_nthPointOn_58 rfl
def MX11_nthPointOn (σ : Sto) (ρ : Rho) (a0 : Nat) (a1 : Int32) : Option (Int32 × Sto) :=
  Option.bind (ρ a0 0) fun j1 =>
  Option.bind (ρ j1 0) fun j2 =>
  bn ((σ j2 0)) fun y3 =>
  bn a1 fun y4 =>
  bn ((0 : Int32)) fun y5 =>
  fixN (fun _ _ _ _ => none) (FX11_nthPointOn_16 ρ a0 a1) FU σ y3 y4 y5
set_option maxHeartbeats 4000000 in
set_option maxRecDepth 100000 in
theorem c_X11_nthPointOn (E : EX) {n : Nat} {σ : Sto} {ρ : Rho} (a0 : Nat) (h0 : Sh n a0 10) (a1 : Int32) (res : Int32 × Sto) (hM : MX11_nthPointOn σ ρ a0 a1 = some res) : CTi E yX11_nthPointOn cX11_nthPointOn 5 (some .int) 3 [.ref (eb E + a0), .int a1] n σ ρ res.1 res.2 ρ := by
  refine ct_i (by decide +kernel) rfl (Nat.le_of_ble_eq_true rfl) (fun X hE hml hC hR => ?_)
  subst hE
  show G X 0 0 n σ ρ 0 [(0, vr X a0), (1, .int a1)] []
  replace hC : Cx X cX11_nthPointOn RX11 3 := hC
  unfold MX11_nthPointOn at hM
  refine g_aload_n hC dX11_nthPointOn_0 rfl 0 rfl ?_
  refine fg_10_0 hC h0 k_380 dX11_nthPointOn_1 rfl hM (fun j1 hj1 hM => ?_)
  refine fg_3_0 hC hj1 k_172 dX11_nthPointOn_4 rfl hM (fun j2 hj2 hM => ?_)
  refine fg_7_0 hC hj2 k_138 dX11_nthPointOn_7 rfl ?_
  refine g_istore_n hC (fun y3 => [(2, .int y3), (0, vr X a0), (1, .int a1)]) dX11_nthPointOn_10 rfl hM hml (by decide) (fun _ => rfl) (fun y3 hM => ?_)
  refine g_iload_n hC dX11_nthPointOn_11 rfl 2 rfl ?_
  refine g_istore_n hC (fun y4 => [(3, .int y4), (2, .int y3), (0, vr X a0), (1, .int a1)]) dX11_nthPointOn_12 rfl hM hml (by decide) (fun _ => rfl) (fun y4 hM => ?_)
  refine g_iconst (v := 0) hC dX11_nthPointOn_13 rfl ic_0 ?_
  refine g_istore hC (fun y5 => [(4, .int y5), (3, .int y4), (2, .int y3), (0, vr X a0), (1, .int a1)]) dX11_nthPointOn_14 rfl hM hml (by decide) (fun _ => rfl) (fun y5 hM => ?_)
  exact g_sub [3, 4, 2, 1, 0] ((bX11_nthPointOn_16 hC hml hR a0 a1 h0  FU) _ _ _ _ hM) rfl
def MX11_on (σ : Sto) (ρ : Rho) (a0 : Nat) (a1 : Int32) (a2 : Int32) (a3 : Int32) : Option (Int32 × Sto) :=
  Option.bind (MX11_isConic a1) fun c1 =>
  if c1 = 0 then
    some ((-1 : Int32), σ)
  else
    if 0 ≤ a2 then
      Option.bind (ρ a0 7) fun j2 =>
      Option.bind (ρ a0 0) fun j3 =>
      Option.bind (ρ j3 0) fun j4 =>
      Option.bind (MX0_take σ ρ j2 j4 a1) fun c5 =>
      if a3 = 0 then
        Option.bind (MX11_nthPointOn c5 ρ a0 a2) fun c6 =>
        some (c6.1, c6.2)
      else
        Option.bind (MX11_nthLineOn c5 ρ a0 a2) fun c7 =>
        some (c7.1, c7.2)
    else
      some ((-1 : Int32), σ)
set_option maxHeartbeats 4000000 in
set_option maxRecDepth 100000 in
theorem c_X11_on (E : EX) {n : Nat} {σ : Sto} {ρ : Rho} (a0 : Nat) (h0 : Sh n a0 10) (a1 : Int32) (a2 : Int32) (a3 : Int32) (res : Int32 × Sto) (hM : MX11_on σ ρ a0 a1 a2 a3 = some res) : CTi E yX11_on cX11_on 4 (some .int) 7 [.ref (eb E + a0), .int a1, .int a2, .int a3] n σ ρ res.1 res.2 ρ := by
  refine ct_i (by decide +kernel) rfl (Nat.le_of_ble_eq_true rfl) (fun X hE hml hC hR => ?_)
  subst hE
  show G X 0 0 n σ ρ 0 [(0, vr X a0), (1, .int a1), (2, .int a2), (3, .int a3)] []
  replace hC : Cx X cX11_on RX11 7 := hC
  unfold MX11_on at hM
  refine g_iload_n hC dX11_on_0 rfl 1 rfl ?_
  refine g_callSi (As := [.int a1]) (st' := []) (L' := 0) hC Y_X11_isConic k_559 k_658 ⟨by decide, by decide⟩ dX11_on_1 rfl rfl rfl (Nat.le_of_ble_eq_true rfl) ⟨Nat.zero_le _, Nat.zero_le _⟩ hM (fun c hc => c_X11_isConic (xE X) a1 c hc) (fun c1 hM => ?_)
  refine g_if_eq (tgt := 11) hC dX11_on_4 rfl (by decide) hM (fun hM => ?_) (fun hM => ?_)
  · refine g_iconst (v := -1) hC dX11_on_11 rfl ic_m1 ?_
    obtain rfl := Option.some.inj hM
    exact g_reti hR dX11_on_12 rfl
  · refine g_iload_n hC dX11_on_7 rfl 2 rfl ?_
    refine g_if_ge (tgt := 13) hC dX11_on_8 rfl (by decide) hM (fun hM => ?_) (fun hM => ?_)
    · refine g_aload_n hC dX11_on_13 rfl 0 rfl ?_
      refine fg_10_7 hC h0 k_387 dX11_on_14 rfl hM (fun j2 hj2 hM => ?_)
      refine g_aload_n hC dX11_on_17 rfl 0 rfl ?_
      refine fg_10_0 hC h0 k_380 dX11_on_18 rfl hM (fun j3 hj3 hM => ?_)
      refine fg_3_0 hC hj3 k_172 dX11_on_21 rfl hM (fun j4 hj4 hM => ?_)
      refine g_iload_n hC dX11_on_24 rfl 1 rfl ?_
      refine g_callVv0 (As := [vr X j4, .int a1]) (st' := []) (k := j2) (L' := 3) hC Y_X0_take I_X0_take k_689 ⟨by decide, by decide⟩ hj2 (ci := 0) (by decide) rfl dX11_on_25 rfl rfl rfl (Nat.le_of_ble_eq_true rfl) ⟨Nat.zero_le _, Nat.zero_le _⟩ hM (fun c hc => c_X0_take (xE X) j2 hj2 j4 hj4 a1 c hc) (fun c5 hM => ?_)
      refine g_iload_n hC dX11_on_28 rfl 3 rfl ?_
      refine g_if_eq (tgt := 40) hC dX11_on_29 rfl (by decide) hM (fun hM => ?_) (fun hM => ?_)
      · refine g_aload_n hC dX11_on_40 rfl 0 rfl ?_
        refine g_iload_n hC dX11_on_41 rfl 2 rfl ?_
        refine g_callVi (As := [.int a2]) (st' := []) (k := a0) (L' := 3) hC Y_X11_nthPointOn I_X11_nthPointOn k_941 ⟨by decide, by decide⟩ h0 (ci := 10) (by decide) rfl dX11_on_42 rfl rfl rfl (Nat.le_of_ble_eq_true rfl) ⟨Nat.zero_le _, Nat.zero_le _⟩ hM (fun c hc => c_X11_nthPointOn (xE X) a0 h0 a2 c hc) (fun c6 hM => ?_)
        cases hM
        exact g_reti hR dX11_on_45 rfl
      · refine g_aload_n hC dX11_on_32 rfl 0 rfl ?_
        refine g_iload_n hC dX11_on_33 rfl 2 rfl ?_
        refine g_callVi (As := [.int a2]) (st' := []) (k := a0) (L' := 6) hC Y_X11_nthLineOn I_X11_nthLineOn k_937 ⟨by decide, by decide⟩ h0 (ci := 10) (by decide) rfl dX11_on_34 rfl rfl rfl (Nat.le_of_ble_eq_true rfl) ⟨Nat.zero_le _, Nat.zero_le _⟩ hM (fun c hc => c_X11_nthLineOn (xE X) a0 h0 a2 c hc) (fun c7 hM => ?_)
        refine g_goto (tgt := 45) hC dX11_on_37 rfl (by decide) ?_
        cases hM
        exact g_reti hR dX11_on_45 rfl
    · refine g_iconst (v := -1) hC dX11_on_11 rfl ic_m1 ?_
      obtain rfl := Option.some.inj hM
      exact g_reti hR dX11_on_12 rfl
def MX11_polar (σ : Sto) (ρ : Rho) (a0 : Nat) (a1 : Int32) (a2 : Int32) : Option (Int32 × Sto) :=
  Option.bind (MX11_takeBoth σ ρ a0 a1 a2) fun c1 =>
  if c1.1 = 0 then
    some ((-1 : Int32), c1.2)
  else
    Option.bind (ρ a0 7) fun j2 =>
    Option.bind (ρ a0 11) fun j3 =>
    Option.bind (ρ a0 13) fun j4 =>
    Option.bind (MX0_polarOf c1.2 ρ j2 j3 j4) fun c5 =>
    Option.bind (ρ a0 13) fun j6 =>
    Option.bind (ρ a0 0) fun j7 =>
    Option.bind (ρ j7 0) fun j8 =>
    Option.bind (MX10_numbered c5 j6 ((c5 j8 0))) fun c9 =>
    some (c9, c5)
set_option maxHeartbeats 4000000 in
set_option maxRecDepth 100000 in
theorem c_X11_polar (E : EX) {n : Nat} {σ : Sto} {ρ : Rho} (a0 : Nat) (h0 : Sh n a0 10) (a1 : Int32) (a2 : Int32) (res : Int32 × Sto) (hM : MX11_polar σ ρ a0 a1 a2 = some res) : CTi E yX11_polar cX11_polar 3 (some .int) 5 [.ref (eb E + a0), .int a1, .int a2] n σ ρ res.1 res.2 ρ := by
  refine ct_i (by decide +kernel) rfl (Nat.le_of_ble_eq_true rfl) (fun X hE hml hC hR => ?_)
  subst hE
  show G X 0 0 n σ ρ 0 [(0, vr X a0), (1, .int a1), (2, .int a2)] []
  replace hC : Cx X cX11_polar RX11 5 := hC
  unfold MX11_polar at hM
  refine g_aload_n hC dX11_polar_0 rfl 0 rfl ?_
  refine g_iload_n hC dX11_polar_1 rfl 1 rfl ?_
  refine g_iload_n hC dX11_polar_2 rfl 2 rfl ?_
  refine g_callVi (As := [.int a1, .int a2]) (st' := []) (k := a0) (L' := 4) hC Y_X11_takeBoth I_X11_takeBoth k_911 ⟨by decide, by decide⟩ h0 (ci := 10) (by decide) rfl dX11_polar_3 rfl rfl rfl (Nat.le_of_ble_eq_true rfl) ⟨Nat.zero_le _, Nat.zero_le _⟩ hM (fun c hc => c_X11_takeBoth (xE X) a0 h0 a1 a2 c hc) (fun c1 hM => ?_)
  refine g_if_ne (tgt := 11) hC dX11_polar_6 rfl (by decide) hM (fun hM => ?_) (fun hM => ?_)
  · refine g_aload_n hC dX11_polar_11 rfl 0 rfl ?_
    refine fg_10_7 hC h0 k_387 dX11_polar_12 rfl hM (fun j2 hj2 hM => ?_)
    refine g_aload_n hC dX11_polar_15 rfl 0 rfl ?_
    refine fg_10_11 hC h0 k_391 dX11_polar_16 rfl hM (fun j3 hj3 hM => ?_)
    refine g_aload_n hC dX11_polar_19 rfl 0 rfl ?_
    refine fg_10_13 hC h0 k_393 dX11_polar_20 rfl hM (fun j4 hj4 hM => ?_)
    refine g_callVv0 (As := [vr X j3, vr X j4]) (st' := []) (k := j2) (L' := 1) hC Y_X0_polarOf I_X0_polarOf k_920 ⟨by decide, by decide⟩ hj2 (ci := 0) (by decide) rfl dX11_polar_23 rfl rfl rfl (Nat.le_of_ble_eq_true rfl) ⟨Nat.zero_le _, Nat.zero_le _⟩ hM (fun c hc => c_X0_polarOf (xE X) j2 hj2 j3 hj3 j4 hj4 c hc) (fun c5 hM => ?_)
    refine g_aload_n hC dX11_polar_26 rfl 0 rfl ?_
    refine fg_10_13 hC h0 k_393 dX11_polar_27 rfl hM (fun j6 hj6 hM => ?_)
    refine g_aload_n hC dX11_polar_30 rfl 0 rfl ?_
    refine fg_10_0 hC h0 k_380 dX11_polar_31 rfl hM (fun j7 hj7 hM => ?_)
    refine fg_3_0 hC hj7 k_172 dX11_polar_34 rfl hM (fun j8 hj8 hM => ?_)
    refine fg_7_0 hC hj8 k_138 dX11_polar_37 rfl ?_
    refine g_callVi (As := [.int ((c5 j8 0))]) (st' := []) (k := j6) (L' := 3) hC Y_X10_numbered I_X10_numbered k_894 ⟨by decide, by decide⟩ hj6 (ci := 9) (by decide) rfl dX11_polar_40 rfl rfl rfl (Nat.le_of_ble_eq_true rfl) ⟨Nat.zero_le _, Nat.zero_le _⟩ hM (fun c hc => c_X10_numbered (xE X) j6 hj6 ((c5 j8 0)) c hc) (fun c9 hM => ?_)
    cases hM
    exact g_reti hR dX11_polar_43 rfl
  · refine g_iconst (v := -1) hC dX11_polar_9 rfl ic_m1 ?_
    obtain rfl := Option.some.inj hM
    exact g_reti hR dX11_polar_10 rfl
def MX11_pole (σ : Sto) (ρ : Rho) (a0 : Nat) (a1 : Int32) (a2 : Int32) : Option (Int32 × Sto) :=
  Option.bind (MX11_takeBoth σ ρ a0 a1 a2) fun c1 =>
  if c1.1 = 0 then
    some ((-1 : Int32), c1.2)
  else
    Option.bind (ρ a0 7) fun j2 =>
    Option.bind (MX0_kind c1.2 ρ j2) fun c3 =>
    if c3 = (4 : Int32) then
      Option.bind (ρ a0 8) fun j4 =>
      Option.bind (ρ a0 7) fun j5 =>
      Option.bind (MX0_becomeDual c1.2 ρ j4 j5) fun c6 =>
      Option.bind (ρ a0 8) fun j7 =>
      Option.bind (ρ a0 11) fun j8 =>
      Option.bind (ρ a0 12) fun j9 =>
      Option.bind (MX0_polarOf c6 ρ j7 j8 j9) fun c10 =>
      Option.bind (ρ a0 12) fun j11 =>
      Option.bind (ρ a0 0) fun j12 =>
      Option.bind (ρ j12 0) fun j13 =>
      Option.bind (MX10_numbered c10 j11 ((c10 j13 0))) fun c14 =>
      some (c14, c10)
    else
      some ((-1 : Int32), c1.2)
set_option maxHeartbeats 4000000 in
set_option maxRecDepth 100000 in
theorem c_X11_pole (E : EX) {n : Nat} {σ : Sto} {ρ : Rho} (a0 : Nat) (h0 : Sh n a0 10) (a1 : Int32) (a2 : Int32) (res : Int32 × Sto) (hM : MX11_pole σ ρ a0 a1 a2 = some res) : CTi E yX11_pole cX11_pole 3 (some .int) 5 [.ref (eb E + a0), .int a1, .int a2] n σ ρ res.1 res.2 ρ := by
  refine ct_i (by decide +kernel) rfl (Nat.le_of_ble_eq_true rfl) (fun X hE hml hC hR => ?_)
  subst hE
  show G X 0 0 n σ ρ 0 [(0, vr X a0), (1, .int a1), (2, .int a2)] []
  replace hC : Cx X cX11_pole RX11 5 := hC
  unfold MX11_pole at hM
  refine g_aload_n hC dX11_pole_0 rfl 0 rfl ?_
  refine g_iload_n hC dX11_pole_1 rfl 1 rfl ?_
  refine g_iload_n hC dX11_pole_2 rfl 2 rfl ?_
  refine g_callVi (As := [.int a1, .int a2]) (st' := []) (k := a0) (L' := 4) hC Y_X11_takeBoth I_X11_takeBoth k_911 ⟨by decide, by decide⟩ h0 (ci := 10) (by decide) rfl dX11_pole_3 rfl rfl rfl (Nat.le_of_ble_eq_true rfl) ⟨Nat.zero_le _, Nat.zero_le _⟩ hM (fun c hc => c_X11_takeBoth (xE X) a0 h0 a1 a2 c hc) (fun c1 hM => ?_)
  refine g_if_eq (tgt := 20) hC dX11_pole_6 rfl (by decide) hM (fun hM => ?_) (fun hM => ?_)
  · refine g_iconst (v := -1) hC dX11_pole_20 rfl ic_m1 ?_
    obtain rfl := Option.some.inj hM
    exact g_reti hR dX11_pole_21 rfl
  · refine g_aload_n hC dX11_pole_9 rfl 0 rfl ?_
    refine fg_10_7 hC h0 k_387 dX11_pole_10 rfl hM (fun j2 hj2 hM => ?_)
    refine g_callVi (As := []) (st' := []) (k := j2) (L' := 4) hC Y_X0_kind I_X0_kind k_704 ⟨by decide, by decide⟩ hj2 (ci := 0) (by decide) rfl dX11_pole_13 rfl rfl rfl (Nat.le_of_ble_eq_true rfl) ⟨Nat.zero_le _, Nat.zero_le _⟩ hM (fun c hc => c_X0_kind (xE X) j2 hj2 c hc) (fun c3 hM => ?_)
    refine g_iconst (v := 4) hC dX11_pole_16 rfl ic_4 ?_
    refine g_icmp_eq (tgt := 22) hC dX11_pole_17 rfl (by decide) hM (fun hM => ?_) (fun hM => ?_)
    · refine g_aload_n hC dX11_pole_22 rfl 0 rfl ?_
      refine fg_10_8 hC h0 k_388 dX11_pole_23 rfl hM (fun j4 hj4 hM => ?_)
      refine g_aload_n hC dX11_pole_26 rfl 0 rfl ?_
      refine fg_10_7 hC h0 k_387 dX11_pole_27 rfl hM (fun j5 hj5 hM => ?_)
      refine g_callVv0 (As := [vr X j5]) (st' := []) (k := j4) (L' := 3) hC Y_X0_becomeDual I_X0_becomeDual k_730 ⟨by decide, by decide⟩ hj4 (ci := 0) (by decide) rfl dX11_pole_30 rfl rfl rfl (Nat.le_of_ble_eq_true rfl) ⟨Nat.zero_le _, Nat.zero_le _⟩ hM (fun c hc => c_X0_becomeDual (xE X) j4 hj4 j5 hj5 c hc) (fun c6 hM => ?_)
      refine g_aload_n hC dX11_pole_33 rfl 0 rfl ?_
      refine fg_10_8 hC h0 k_388 dX11_pole_34 rfl hM (fun j7 hj7 hM => ?_)
      refine g_aload_n hC dX11_pole_37 rfl 0 rfl ?_
      refine fg_10_11 hC h0 k_391 dX11_pole_38 rfl hM (fun j8 hj8 hM => ?_)
      refine g_aload_n hC dX11_pole_41 rfl 0 rfl ?_
      refine fg_10_12 hC h0 k_392 dX11_pole_42 rfl hM (fun j9 hj9 hM => ?_)
      refine g_callVv0 (As := [vr X j8, vr X j9]) (st' := []) (k := j7) (L' := 1) hC Y_X0_polarOf I_X0_polarOf k_920 ⟨by decide, by decide⟩ hj7 (ci := 0) (by decide) rfl dX11_pole_45 rfl rfl rfl (Nat.le_of_ble_eq_true rfl) ⟨Nat.zero_le _, Nat.zero_le _⟩ hM (fun c hc => c_X0_polarOf (xE X) j7 hj7 j8 hj8 j9 hj9 c hc) (fun c10 hM => ?_)
      refine g_aload_n hC dX11_pole_48 rfl 0 rfl ?_
      refine fg_10_12 hC h0 k_392 dX11_pole_49 rfl hM (fun j11 hj11 hM => ?_)
      refine g_aload_n hC dX11_pole_52 rfl 0 rfl ?_
      refine fg_10_0 hC h0 k_380 dX11_pole_53 rfl hM (fun j12 hj12 hM => ?_)
      refine fg_3_0 hC hj12 k_172 dX11_pole_56 rfl hM (fun j13 hj13 hM => ?_)
      refine fg_7_0 hC hj13 k_138 dX11_pole_59 rfl ?_
      refine g_callVi (As := [.int ((c10 j13 0))]) (st' := []) (k := j11) (L' := 3) hC Y_X10_numbered I_X10_numbered k_894 ⟨by decide, by decide⟩ hj11 (ci := 9) (by decide) rfl dX11_pole_62 rfl rfl rfl (Nat.le_of_ble_eq_true rfl) ⟨Nat.zero_le _, Nat.zero_le _⟩ hM (fun c hc => c_X10_numbered (xE X) j11 hj11 ((c10 j13 0)) c hc) (fun c14 hM => ?_)
      cases hM
      exact g_reti hR dX11_pole_65 rfl
    · refine g_iconst (v := -1) hC dX11_pole_20 rfl ic_m1 ?_
      obtain rfl := Option.some.inj hM
      exact g_reti hR dX11_pole_21 rfl
def MX11_meets (σ : Sto) (ρ : Rho) (a0 : Nat) (a1 : Int32) (a2 : Int32) : Option (Int32 × Sto) :=
  Option.bind (MX11_takeBoth σ ρ a0 a1 a2) fun c1 =>
  if c1.1 = 0 then
    some ((-1 : Int32), c1.2)
  else
    Option.bind (ρ a0 7) fun j2 =>
    Option.bind (ρ a0 11) fun j3 =>
    Option.bind (MX0_crossings c1.2 ρ j2 j3) fun c4 =>
    some (c4, c1.2)
set_option maxHeartbeats 4000000 in
set_option maxRecDepth 100000 in
theorem c_X11_meets (E : EX) {n : Nat} {σ : Sto} {ρ : Rho} (a0 : Nat) (h0 : Sh n a0 10) (a1 : Int32) (a2 : Int32) (res : Int32 × Sto) (hM : MX11_meets σ ρ a0 a1 a2 = some res) : CTi E yX11_meets cX11_meets 3 (some .int) 5 [.ref (eb E + a0), .int a1, .int a2] n σ ρ res.1 res.2 ρ := by
  refine ct_i (by decide +kernel) rfl (Nat.le_of_ble_eq_true rfl) (fun X hE hml hC hR => ?_)
  subst hE
  show G X 0 0 n σ ρ 0 [(0, vr X a0), (1, .int a1), (2, .int a2)] []
  replace hC : Cx X cX11_meets RX11 5 := hC
  unfold MX11_meets at hM
  refine g_aload_n hC dX11_meets_0 rfl 0 rfl ?_
  refine g_iload_n hC dX11_meets_1 rfl 1 rfl ?_
  refine g_iload_n hC dX11_meets_2 rfl 2 rfl ?_
  refine g_callVi (As := [.int a1, .int a2]) (st' := []) (k := a0) (L' := 4) hC Y_X11_takeBoth I_X11_takeBoth k_911 ⟨by decide, by decide⟩ h0 (ci := 10) (by decide) rfl dX11_meets_3 rfl rfl rfl (Nat.le_of_ble_eq_true rfl) ⟨Nat.zero_le _, Nat.zero_le _⟩ hM (fun c hc => c_X11_takeBoth (xE X) a0 h0 a1 a2 c hc) (fun c1 hM => ?_)
  refine g_if_ne (tgt := 11) hC dX11_meets_6 rfl (by decide) hM (fun hM => ?_) (fun hM => ?_)
  · refine g_aload_n hC dX11_meets_11 rfl 0 rfl ?_
    refine fg_10_7 hC h0 k_387 dX11_meets_12 rfl hM (fun j2 hj2 hM => ?_)
    refine g_aload_n hC dX11_meets_15 rfl 0 rfl ?_
    refine fg_10_11 hC h0 k_391 dX11_meets_16 rfl hM (fun j3 hj3 hM => ?_)
    refine g_callVi (As := [vr X j3]) (st' := []) (k := j2) (L' := 4) hC Y_X0_crossings I_X0_crossings k_925 ⟨by decide, by decide⟩ hj2 (ci := 0) (by decide) rfl dX11_meets_19 rfl rfl rfl (Nat.le_of_ble_eq_true rfl) ⟨Nat.zero_le _, Nat.zero_le _⟩ hM (fun c hc => c_X0_crossings (xE X) j2 hj2 j3 hj3 c hc) (fun c4 hM => ?_)
    cases hM
    exact g_reti hR dX11_meets_22 rfl
  · refine g_iconst (v := -1) hC dX11_meets_9 rfl ic_m1 ?_
    obtain rfl := Option.some.inj hM
    exact g_reti hR dX11_meets_10 rfl
def BX11_nthTangentThroughSpot_88 (ρ : Rho) (a0 : Nat) (a1 : Int32) (rec : Sto → Int32 → Int32 → Int32 → Option (Int32 × Sto)) (σ : Sto) (v2 : Int32) (v3 : Int32) (v4 : Int32) : Option (Int32 × Sto) :=
  bn (v4 + (1 : Int32)) fun y1 =>
  rec σ v2 v3 y1
set_option maxHeartbeats 4000000 in
set_option maxRecDepth 100000 in
theorem bX11_nthTangentThroughSpot_88 {X : CX} {n : Nat} {ρ : Rho} {res : Int32 × Sto} (hC : Cx X cX11_nthTangentThroughSpot RX11 4) (hml : (xc X).maxLocals = 5) (hR : RtT (some .int) X cX11_nthTangentThroughSpot n res.1 res.2 ρ) (a0 : Nat) (a1 : Int32) (h0 : Sh n a0 10) (rec : Sto → Int32 → Int32 → Int32 → Option (Int32 × Sto)) (ih : ∀ (σ : Sto) (v2 : Int32) (v3 : Int32) (v4 : Int32), rec σ v2 v3 v4 = some res → G X 0 0 n σ ρ 27 [(0, vr X a0), (1, .int a1), (2, .int v2), (3, .int v3), (4, .int v4)] []) : ∀ (σ : Sto) (v2 : Int32) (v3 : Int32) (v4 : Int32), BX11_nthTangentThroughSpot_88 ρ a0 a1 rec σ v2 v3 v4 = some res → G X 0 0 n σ ρ 88 [(0, vr X a0), (1, .int a1), (2, .int v2), (3, .int v3), (4, .int v4)] [] := by
  intro σ v2 v3 v4 hM
  unfold BX11_nthTangentThroughSpot_88 at hM
  refine g_iinc (v := 1) hC (fun y1 => [(4, .int y1), (0, vr X a0), (1, .int a1), (2, .int v2), (3, .int v3)]) dX11_nthTangentThroughSpot_88 rfl hM (j := 4) rfl ic_1 hml (by decide) (fun _ => rfl) (fun y1 hM => ?_)
  refine g_goto (tgt := 27) hC dX11_nthTangentThroughSpot_91 rfl (by decide) ?_
  exact g_sub [1, 2, 3, 4, 0] (ih _ _ _ _ hM) rfl
def FX11_nthTangentThroughSpot_27 (ρ : Rho) (a0 : Nat) (a1 : Int32) (rec : Sto → Int32 → Int32 → Int32 → Option (Int32 × Sto)) (σ : Sto) (v2 : Int32) (v3 : Int32) (v4 : Int32) : Option (Int32 × Sto) :=
  Option.bind (MX2_points v2) fun c1 =>
  if c1 ≤ v4 then
    some ((-1 : Int32), σ)
  else
    Option.bind (ρ a0 13) fun j2 =>
    Option.bind (MX10_take σ j2 v4 v2) fun c3 =>
    if c3.1 = 0 then
      BX11_nthTangentThroughSpot_88 ρ a0 a1 rec c3.2 v2 v3 v4
    else
      Option.bind (ρ a0 13) fun j4 =>
      Option.bind (ρ a0 11) fun j5 =>
      Option.bind (MX10_isOn c3.2 j4 j5 v2) fun c6 =>
      if c6 = 0 then
        BX11_nthTangentThroughSpot_88 ρ a0 a1 rec c3.2 v2 v3 v4
      else
        Option.bind (ρ a0 8) fun j7 =>
        Option.bind (ρ a0 13) fun j8 =>
        Option.bind (MX0_valueAt c3.2 ρ j7 j8) fun c9 =>
        if c9 = 0 then
          if v3 = 0 then
            some (v4, c3.2)
          else
            bn (v3 + (-1 : Int32)) fun y10 =>
            BX11_nthTangentThroughSpot_88 ρ a0 a1 rec c3.2 v2 y10 v4
        else
          BX11_nthTangentThroughSpot_88 ρ a0 a1 rec c3.2 v2 v3 v4
set_option maxHeartbeats 4000000 in
set_option maxRecDepth 100000 in
theorem bX11_nthTangentThroughSpot_27 {X : CX} {n : Nat} {ρ : Rho} {res : Int32 × Sto} (hC : Cx X cX11_nthTangentThroughSpot RX11 4) (hml : (xc X).maxLocals = 5) (hR : RtT (some .int) X cX11_nthTangentThroughSpot n res.1 res.2 ρ) (a0 : Nat) (a1 : Int32) (h0 : Sh n a0 10) (fu : Nat) : ∀ (σ : Sto) (v2 : Int32) (v3 : Int32) (v4 : Int32), fixN (fun _ _ _ _ => none) (FX11_nthTangentThroughSpot_27 ρ a0 a1) fu σ v2 v3 v4 = some res → G X 0 0 n σ ρ 27 [(0, vr X a0), (1, .int a1), (2, .int v2), (3, .int v3), (4, .int v4)] [] := by
  refine fixN_ind (P := fun (f : Sto → Int32 → Int32 → Int32 → Option (Int32 × Sto)) => ∀ (σ : Sto) (v2 : Int32) (v3 : Int32) (v4 : Int32), f σ v2 v3 v4 = some res → G X 0 0 n σ ρ 27 [(0, vr X a0), (1, .int a1), (2, .int v2), (3, .int v3), (4, .int v4)] []) ?_ ?_ fu
  · intro σ v2 v3 v4 hM; cases hM
  · intro rec ih σ v2 v3 v4 hM
    unfold FX11_nthTangentThroughSpot_27 at hM
    refine g_iload hC dX11_nthTangentThroughSpot_27 rfl 4 rfl ?_
    refine g_iload_n hC dX11_nthTangentThroughSpot_29 rfl 2 rfl ?_
    refine g_callSi (As := [.int v2]) (st' := [.int v4]) (L' := 0) hC Y_X2_points k_552 k_813 ⟨by decide, by decide⟩ dX11_nthTangentThroughSpot_30 rfl rfl rfl (Nat.le_of_ble_eq_true rfl) ⟨Nat.zero_le _, Nat.zero_le _⟩ hM (fun c hc => c_X2_points (xE X) v2 c hc) (fun c1 hM => ?_)
    refine g_icmp_ge (tgt := 94) hC dX11_nthTangentThroughSpot_33 rfl (by decide) hM (fun hM => ?_) (fun hM => ?_)
    · refine g_iconst (v := -1) hC dX11_nthTangentThroughSpot_94 rfl ic_m1 ?_
      obtain rfl := Option.some.inj hM
      exact g_reti hR dX11_nthTangentThroughSpot_95 rfl
    · refine g_aload_n hC dX11_nthTangentThroughSpot_36 rfl 0 rfl ?_
      refine fg_10_13 hC h0 k_393 dX11_nthTangentThroughSpot_37 rfl hM (fun j2 hj2 hM => ?_)
      refine g_iload hC dX11_nthTangentThroughSpot_40 rfl 4 rfl ?_
      refine g_iload_n hC dX11_nthTangentThroughSpot_42 rfl 2 rfl ?_
      refine g_callVi (As := [.int v4, .int v2]) (st' := []) (k := j2) (L' := 1) hC Y_X10_take I_X10_take k_790 ⟨by decide, by decide⟩ hj2 (ci := 9) (by decide) rfl dX11_nthTangentThroughSpot_43 rfl rfl rfl (Nat.le_of_ble_eq_true rfl) ⟨Nat.zero_le _, Nat.zero_le _⟩ hM (fun c hc => c_X10_take (xE X) j2 hj2 v4 v2 c hc) (fun c3 hM => ?_)
      refine g_if_eq (tgt := 88) hC dX11_nthTangentThroughSpot_46 rfl (by decide) hM (fun hM => ?_) (fun hM => ?_)
      · exact g_sub [0, 1, 2, 3, 4] ((bX11_nthTangentThroughSpot_88 hC hml hR a0 a1 h0 rec ih ) _ _ _ _ hM) rfl
      · refine g_aload_n hC dX11_nthTangentThroughSpot_49 rfl 0 rfl ?_
        refine fg_10_13 hC h0 k_393 dX11_nthTangentThroughSpot_50 rfl hM (fun j4 hj4 hM => ?_)
        refine g_aload_n hC dX11_nthTangentThroughSpot_53 rfl 0 rfl ?_
        refine fg_10_11 hC h0 k_391 dX11_nthTangentThroughSpot_54 rfl hM (fun j5 hj5 hM => ?_)
        refine g_iload_n hC dX11_nthTangentThroughSpot_57 rfl 2 rfl ?_
        refine g_callVi (As := [vr X j5, .int v2]) (st' := []) (k := j4) (L' := 2) hC Y_X10_isOn I_X10_isOn k_831 ⟨by decide, by decide⟩ hj4 (ci := 9) (by decide) rfl dX11_nthTangentThroughSpot_58 rfl rfl rfl (Nat.le_of_ble_eq_true rfl) ⟨Nat.zero_le _, Nat.zero_le _⟩ hM (fun c hc => c_X10_isOn (xE X) j4 hj4 j5 hj5 v2 c hc) (fun c6 hM => ?_)
        refine g_if_eq (tgt := 88) hC dX11_nthTangentThroughSpot_61 rfl (by decide) hM (fun hM => ?_) (fun hM => ?_)
        · exact g_sub [0, 1, 2, 3, 4] ((bX11_nthTangentThroughSpot_88 hC hml hR a0 a1 h0 rec ih ) _ _ _ _ hM) rfl
        · refine g_aload_n hC dX11_nthTangentThroughSpot_64 rfl 0 rfl ?_
          refine fg_10_8 hC h0 k_388 dX11_nthTangentThroughSpot_65 rfl hM (fun j7 hj7 hM => ?_)
          refine g_aload_n hC dX11_nthTangentThroughSpot_68 rfl 0 rfl ?_
          refine fg_10_13 hC h0 k_393 dX11_nthTangentThroughSpot_69 rfl hM (fun j8 hj8 hM => ?_)
          refine g_callVi (As := [vr X j8]) (st' := []) (k := j7) (L' := 2) hC Y_X0_valueAt I_X0_valueAt k_915 ⟨by decide, by decide⟩ hj7 (ci := 0) (by decide) rfl dX11_nthTangentThroughSpot_72 rfl rfl rfl (Nat.le_of_ble_eq_true rfl) ⟨Nat.zero_le _, Nat.zero_le _⟩ hM (fun c hc => c_X0_valueAt (xE X) j7 hj7 j8 hj8 c hc) (fun c9 hM => ?_)
          refine g_if_ne (tgt := 88) hC dX11_nthTangentThroughSpot_75 rfl (by decide) hM (fun hM => ?_) (fun hM => ?_)
          · exact g_sub [0, 1, 2, 3, 4] ((bX11_nthTangentThroughSpot_88 hC hml hR a0 a1 h0 rec ih ) _ _ _ _ hM) rfl
          · refine g_iload_n hC dX11_nthTangentThroughSpot_78 rfl 3 rfl ?_
            refine g_if_ne (tgt := 85) hC dX11_nthTangentThroughSpot_79 rfl (by decide) hM (fun hM => ?_) (fun hM => ?_)
            · refine g_iinc (v := -1) hC (fun y10 => [(3, .int y10), (0, vr X a0), (1, .int a1), (2, .int v2), (4, .int v4)]) dX11_nthTangentThroughSpot_85 rfl hM (j := 3) rfl ic_m1 hml (by decide) (fun _ => rfl) (fun y10 hM => ?_)
              exact g_sub [1, 2, 3, 0, 4] ((bX11_nthTangentThroughSpot_88 hC hml hR a0 a1 h0 rec ih ) _ _ _ _ hM) rfl
            · refine g_iload hC dX11_nthTangentThroughSpot_82 rfl 4 rfl ?_
              cases hM
              exact g_reti hR dX11_nthTangentThroughSpot_84 rfl
def MX11_nthTangentThroughSpot (σ : Sto) (ρ : Rho) (a0 : Nat) (a1 : Int32) : Option (Int32 × Sto) :=
  Option.bind (ρ a0 0) fun j1 =>
  Option.bind (ρ j1 0) fun j2 =>
  bn ((σ j2 0)) fun y3 =>
  bn a1 fun y4 =>
  Option.bind (ρ a0 8) fun j5 =>
  Option.bind (ρ a0 7) fun j6 =>
  Option.bind (MX0_becomeDual σ ρ j5 j6) fun c7 =>
  bn ((0 : Int32)) fun y8 =>
  fixN (fun _ _ _ _ => none) (FX11_nthTangentThroughSpot_27 ρ a0 a1) FU c7 y3 y4 y8
set_option maxHeartbeats 4000000 in
set_option maxRecDepth 100000 in
theorem c_X11_nthTangentThroughSpot (E : EX) {n : Nat} {σ : Sto} {ρ : Rho} (a0 : Nat) (h0 : Sh n a0 10) (a1 : Int32) (res : Int32 × Sto) (hM : MX11_nthTangentThroughSpot σ ρ a0 a1 = some res) : CTi E yX11_nthTangentThroughSpot cX11_nthTangentThroughSpot 5 (some .int) 4 [.ref (eb E + a0), .int a1] n σ ρ res.1 res.2 ρ := by
  refine ct_i (by decide +kernel) rfl (Nat.le_of_ble_eq_true rfl) (fun X hE hml hC hR => ?_)
  subst hE
  show G X 0 0 n σ ρ 0 [(0, vr X a0), (1, .int a1)] []
  replace hC : Cx X cX11_nthTangentThroughSpot RX11 4 := hC
  unfold MX11_nthTangentThroughSpot at hM
  refine g_aload_n hC dX11_nthTangentThroughSpot_0 rfl 0 rfl ?_
  refine fg_10_0 hC h0 k_380 dX11_nthTangentThroughSpot_1 rfl hM (fun j1 hj1 hM => ?_)
  refine fg_3_0 hC hj1 k_172 dX11_nthTangentThroughSpot_4 rfl hM (fun j2 hj2 hM => ?_)
  refine fg_7_0 hC hj2 k_138 dX11_nthTangentThroughSpot_7 rfl ?_
  refine g_istore_n hC (fun y3 => [(2, .int y3), (0, vr X a0), (1, .int a1)]) dX11_nthTangentThroughSpot_10 rfl hM hml (by decide) (fun _ => rfl) (fun y3 hM => ?_)
  refine g_iload_n hC dX11_nthTangentThroughSpot_11 rfl 2 rfl ?_
  refine g_istore_n hC (fun y4 => [(3, .int y4), (2, .int y3), (0, vr X a0), (1, .int a1)]) dX11_nthTangentThroughSpot_12 rfl hM hml (by decide) (fun _ => rfl) (fun y4 hM => ?_)
  refine g_aload_n hC dX11_nthTangentThroughSpot_13 rfl 2 rfl ?_
  refine fg_10_8 hC h0 k_388 dX11_nthTangentThroughSpot_14 rfl hM (fun j5 hj5 hM => ?_)
  refine g_aload_n hC dX11_nthTangentThroughSpot_17 rfl 2 rfl ?_
  refine fg_10_7 hC h0 k_387 dX11_nthTangentThroughSpot_18 rfl hM (fun j6 hj6 hM => ?_)
  refine g_callVv0 (As := [vr X j6]) (st' := []) (k := j5) (L' := 3) hC Y_X0_becomeDual I_X0_becomeDual k_730 ⟨by decide, by decide⟩ hj5 (ci := 0) (by decide) rfl dX11_nthTangentThroughSpot_21 rfl rfl rfl (Nat.le_of_ble_eq_true rfl) ⟨Nat.zero_le _, Nat.zero_le _⟩ hM (fun c hc => c_X0_becomeDual (xE X) j5 hj5 j6 hj6 c hc) (fun c7 hM => ?_)
  refine g_iconst (v := 0) hC dX11_nthTangentThroughSpot_24 rfl ic_0 ?_
  refine g_istore hC (fun y8 => [(4, .int y8), (3, .int y4), (2, .int y3), (0, vr X a0), (1, .int a1)]) dX11_nthTangentThroughSpot_25 rfl hM hml (by decide) (fun _ => rfl) (fun y8 hM => ?_)
  exact g_sub [3, 4, 2, 1, 0] ((bX11_nthTangentThroughSpot_27 hC hml hR a0 a1 h0  FU) _ _ _ _ hM) rfl
def MX11_tangent (σ : Sto) (ρ : Rho) (a0 : Nat) (a1 : Int32) (a2 : Int32) (a3 : Int32) : Option (Int32 × Sto) :=
  if a3 < (-1 : Int32) then
    some ((-1 : Int32), σ)
  else
    Option.bind (MX11_takeBoth σ ρ a0 a1 a2) fun c1 =>
    if c1.1 = 0 then
      some ((-1 : Int32), c1.2)
    else
      Option.bind (ρ a0 7) fun j2 =>
      Option.bind (MX0_kind c1.2 ρ j2) fun c3 =>
      if c3 = (4 : Int32) then
        if a3 = (-1 : Int32) then
          Option.bind (MX11_tangentsThroughSpot c1.2 ρ a0) fun c5 =>
          some (c5.1, c5.2)
        else
          Option.bind (MX11_nthTangentThroughSpot c1.2 ρ a0 a3) fun c4 =>
          some (c4.1, c4.2)
      else
        some ((-1 : Int32), c1.2)
set_option maxHeartbeats 4000000 in
set_option maxRecDepth 100000 in
theorem c_X11_tangent (E : EX) {n : Nat} {σ : Sto} {ρ : Rho} (a0 : Nat) (h0 : Sh n a0 10) (a1 : Int32) (a2 : Int32) (a3 : Int32) (res : Int32 × Sto) (hM : MX11_tangent σ ρ a0 a1 a2 a3 = some res) : CTi E yX11_tangent cX11_tangent 4 (some .int) 6 [.ref (eb E + a0), .int a1, .int a2, .int a3] n σ ρ res.1 res.2 ρ := by
  refine ct_i (by decide +kernel) rfl (Nat.le_of_ble_eq_true rfl) (fun X hE hml hC hR => ?_)
  subst hE
  show G X 0 0 n σ ρ 0 [(0, vr X a0), (1, .int a1), (2, .int a2), (3, .int a3)] []
  replace hC : Cx X cX11_tangent RX11 6 := hC
  unfold MX11_tangent at hM
  refine g_iload_n hC dX11_tangent_0 rfl 3 rfl ?_
  refine g_iconst (v := -1) hC dX11_tangent_1 rfl ic_m1 ?_
  refine g_icmp_lt (tgt := 25) hC dX11_tangent_2 rfl (by decide) hM (fun hM => ?_) (fun hM => ?_)
  · refine g_iconst (v := -1) hC dX11_tangent_25 rfl ic_m1 ?_
    obtain rfl := Option.some.inj hM
    exact g_reti hR dX11_tangent_26 rfl
  · refine g_aload_n hC dX11_tangent_5 rfl 0 rfl ?_
    refine g_iload_n hC dX11_tangent_6 rfl 1 rfl ?_
    refine g_iload_n hC dX11_tangent_7 rfl 2 rfl ?_
    refine g_callVi (As := [.int a1, .int a2]) (st' := []) (k := a0) (L' := 4) hC Y_X11_takeBoth I_X11_takeBoth k_911 ⟨by decide, by decide⟩ h0 (ci := 10) (by decide) rfl dX11_tangent_8 rfl rfl rfl (Nat.le_of_ble_eq_true rfl) ⟨Nat.zero_le _, Nat.zero_le _⟩ hM (fun c hc => c_X11_takeBoth (xE X) a0 h0 a1 a2 c hc) (fun c1 hM => ?_)
    refine g_if_eq (tgt := 25) hC dX11_tangent_11 rfl (by decide) hM (fun hM => ?_) (fun hM => ?_)
    · refine g_iconst (v := -1) hC dX11_tangent_25 rfl ic_m1 ?_
      obtain rfl := Option.some.inj hM
      exact g_reti hR dX11_tangent_26 rfl
    · refine g_aload_n hC dX11_tangent_14 rfl 0 rfl ?_
      refine fg_10_7 hC h0 k_387 dX11_tangent_15 rfl hM (fun j2 hj2 hM => ?_)
      refine g_callVi (As := []) (st' := []) (k := j2) (L' := 4) hC Y_X0_kind I_X0_kind k_704 ⟨by decide, by decide⟩ hj2 (ci := 0) (by decide) rfl dX11_tangent_18 rfl rfl rfl (Nat.le_of_ble_eq_true rfl) ⟨Nat.zero_le _, Nat.zero_le _⟩ hM (fun c hc => c_X0_kind (xE X) j2 hj2 c hc) (fun c3 hM => ?_)
      refine g_iconst (v := 4) hC dX11_tangent_21 rfl ic_4 ?_
      refine g_icmp_eq (tgt := 27) hC dX11_tangent_22 rfl (by decide) hM (fun hM => ?_) (fun hM => ?_)
      · refine g_iload_n hC dX11_tangent_27 rfl 3 rfl ?_
        refine g_iconst (v := -1) hC dX11_tangent_28 rfl ic_m1 ?_
        refine g_icmp_ne (tgt := 39) hC dX11_tangent_29 rfl (by decide) hM (fun hM => ?_) (fun hM => ?_)
        · refine g_aload_n hC dX11_tangent_39 rfl 0 rfl ?_
          refine g_iload_n hC dX11_tangent_40 rfl 3 rfl ?_
          refine g_callVi (As := [.int a3]) (st' := []) (k := a0) (L' := 4) hC Y_X11_nthTangentThroughSpot I_X11_nthTangentThroughSpot k_961 ⟨by decide, by decide⟩ h0 (ci := 10) (by decide) rfl dX11_tangent_41 rfl rfl rfl (Nat.le_of_ble_eq_true rfl) ⟨Nat.zero_le _, Nat.zero_le _⟩ hM (fun c hc => c_X11_nthTangentThroughSpot (xE X) a0 h0 a3 c hc) (fun c4 hM => ?_)
          cases hM
          exact g_reti hR dX11_tangent_44 rfl
        · refine g_aload_n hC dX11_tangent_32 rfl 0 rfl ?_
          refine g_callVi (As := []) (st' := []) (k := a0) (L' := 5) hC Y_X11_tangentsThroughSpot I_X11_tangentsThroughSpot k_916 ⟨by decide, by decide⟩ h0 (ci := 10) (by decide) rfl dX11_tangent_33 rfl rfl rfl (Nat.le_of_ble_eq_true rfl) ⟨Nat.zero_le _, Nat.zero_le _⟩ hM (fun c hc => c_X11_tangentsThroughSpot (xE X) a0 h0 c hc) (fun c5 hM => ?_)
          refine g_goto (tgt := 44) hC dX11_tangent_36 rfl (by decide) ?_
          cases hM
          exact g_reti hR dX11_tangent_44 rfl
      · refine g_iconst (v := -1) hC dX11_tangent_25 rfl ic_m1 ?_
        obtain rfl := Option.some.inj hM
        exact g_reti hR dX11_tangent_26 rfl
def MX11_takePencil (σ : Sto) (ρ : Rho) (a0 : Nat) (a1 : Int32) (a2 : Int32) : Option (Int32 × Sto) :=
  Option.bind (MX11_isConic a1) fun c1 =>
  if c1 = 0 then
    zr ((0 : Int32)) (some ((0 : Int32), σ))
  else
    Option.bind (MX11_isConic a2) fun c2 =>
    if c2 = 0 then
      zr ((0 : Int32)) (some ((0 : Int32), σ))
    else
      Option.bind (ρ a0 5) fun j3 =>
      Option.bind (ρ a0 0) fun j4 =>
      Option.bind (ρ j4 0) fun j5 =>
      Option.bind (MX6_take σ ρ j3 j5 a1 a2) fun c6 =>
      if c6.1 = 0 then
        zr ((0 : Int32)) (some ((0 : Int32), c6.2))
      else
        zr ((1 : Int32)) (some ((1 : Int32), c6.2))
set_option maxHeartbeats 4000000 in
set_option maxRecDepth 100000 in
theorem c_X11_takePencil (E : EX) {n : Nat} {σ : Sto} {ρ : Rho} (a0 : Nat) (h0 : Sh n a0 10) (a1 : Int32) (a2 : Int32) (res : Int32 × Sto) (hM : MX11_takePencil σ ρ a0 a1 a2 = some res) : CTi E yX11_takePencil cX11_takePencil 3 (some .boolean) 5 [.ref (eb E + a0), .int a1, .int a2] n σ ρ res.1 res.2 ρ := by
  refine ct_i (by decide +kernel) rfl (Nat.le_of_ble_eq_true rfl) (fun X hE hml hC hR => ?_)
  subst hE
  show G X 0 0 n σ ρ 0 [(0, vr X a0), (1, .int a1), (2, .int a2)] []
  replace hC : Cx X cX11_takePencil RX11 5 := hC
  unfold MX11_takePencil at hM
  refine g_iload_n hC dX11_takePencil_0 rfl 1 rfl ?_
  refine g_callSi (As := [.int a1]) (st' := []) (L' := 0) hC Y_X11_isConic k_559 k_658 ⟨by decide, by decide⟩ dX11_takePencil_1 rfl rfl rfl (Nat.le_of_ble_eq_true rfl) ⟨Nat.zero_le _, Nat.zero_le _⟩ hM (fun c hc => c_X11_isConic (xE X) a1 c hc) (fun c1 hM => ?_)
  refine g_if_eq (tgt := 37) hC dX11_takePencil_4 rfl (by decide) hM (fun hM => ?_) (fun hM => ?_)
  · refine g_iconst (v := 0) hC dX11_takePencil_37 rfl ic_0 ?_
    exact g_retz hM dX11_takePencil_38 rfl (fun h => by cases h; exact hR)
  · refine g_iload_n hC dX11_takePencil_7 rfl 2 rfl ?_
    refine g_callSi (As := [.int a2]) (st' := []) (L' := 0) hC Y_X11_isConic k_559 k_658 ⟨by decide, by decide⟩ dX11_takePencil_8 rfl rfl rfl (Nat.le_of_ble_eq_true rfl) ⟨Nat.zero_le _, Nat.zero_le _⟩ hM (fun c hc => c_X11_isConic (xE X) a2 c hc) (fun c2 hM => ?_)
    refine g_if_eq (tgt := 37) hC dX11_takePencil_11 rfl (by decide) hM (fun hM => ?_) (fun hM => ?_)
    · refine g_iconst (v := 0) hC dX11_takePencil_37 rfl ic_0 ?_
      exact g_retz hM dX11_takePencil_38 rfl (fun h => by cases h; exact hR)
    · refine g_aload_n hC dX11_takePencil_14 rfl 0 rfl ?_
      refine fg_10_5 hC h0 k_385 dX11_takePencil_15 rfl hM (fun j3 hj3 hM => ?_)
      refine g_aload_n hC dX11_takePencil_18 rfl 0 rfl ?_
      refine fg_10_0 hC h0 k_380 dX11_takePencil_19 rfl hM (fun j4 hj4 hM => ?_)
      refine fg_3_0 hC hj4 k_172 dX11_takePencil_22 rfl hM (fun j5 hj5 hM => ?_)
      refine g_iload_n hC dX11_takePencil_25 rfl 1 rfl ?_
      refine g_iload_n hC dX11_takePencil_26 rfl 2 rfl ?_
      refine g_callVi (As := [vr X j5, .int a1, .int a2]) (st' := []) (k := j3) (L' := 4) hC Y_X6_take I_X6_take k_973 ⟨by decide, by decide⟩ hj3 (ci := 5) (by decide) rfl dX11_takePencil_27 rfl rfl rfl (Nat.le_of_ble_eq_true rfl) ⟨Nat.zero_le _, Nat.zero_le _⟩ hM (fun c hc => c_X6_take (xE X) j3 hj3 j5 hj5 a1 a2 c hc) (fun c6 hM => ?_)
      refine g_if_eq (tgt := 37) hC dX11_takePencil_30 rfl (by decide) hM (fun hM => ?_) (fun hM => ?_)
      · refine g_iconst (v := 0) hC dX11_takePencil_37 rfl ic_0 ?_
        exact g_retz hM dX11_takePencil_38 rfl (fun h => by cases h; exact hR)
      · refine g_iconst (v := 1) hC dX11_takePencil_33 rfl ic_1 ?_
        refine g_goto (tgt := 38) hC dX11_takePencil_34 rfl (by decide) ?_
        exact g_retz hM dX11_takePencil_38 rfl (fun h => by cases h; exact hR)
