def MX11_count (σ : Sto) (ρ : Rho) (a0 : Nat) (a1 : Int32) : Option (Int32 × Sto × Rho) :=
  if a1 = (0 : Int32) then
    Option.bind (ρ a0 0) fun j1 =>
    Option.bind (ρ j1 0) fun j2 =>
    some ((σ j2 0), σ, ρ)
  else
  if a1 = (1 : Int32) then
    Option.bind (ρ a0 0) fun j3 =>
    Option.bind (ρ j3 0) fun j4 =>
    Option.bind (MX2_points ((σ j4 0))) fun c5 =>
    some (c5, σ, ρ)
  else
  if a1 = (2 : Int32) then
    Option.bind (ρ a0 0) fun j6 =>
    Option.bind (ρ j6 0) fun j7 =>
    some ((σ j7 1), σ, ρ)
  else
  if a1 = (3 : Int32) then
    Option.bind (ρ a0 6) fun j8 =>
    Option.bind (ρ a0 0) fun j9 =>
    Option.bind (ρ j9 0) fun j10 =>
    Option.bind (MX1_gather σ ρ j8 j10) fun c11 =>
    Option.bind (c11.2 a0 6) fun j12 =>
    some ((c11.1 j12 2), c11.1, c11.2)
  else
  if a1 = (4 : Int32) then
    Option.bind (ρ a0 1) fun j13 =>
    some ((σ j13 2), σ, ρ)
  else
  if a1 = (5 : Int32) then
    Option.bind (ρ a0 0) fun j14 =>
    Option.bind (ρ j14 1) fun j15 =>
    some ((σ j15 1), σ, ρ)
  else
  if a1 = (6 : Int32) then
    Option.bind (MX11_properConics σ ρ a0) fun c16 =>
    some (c16.1, c16.2, ρ)
  else
  if a1 = (7 : Int32) then
    Option.bind (MX11_marksInLine σ ρ a0) fun c17 =>
    some (c17.1, c17.2, ρ)
  else
  some ((-1 : Int32), σ, ρ)
set_option maxHeartbeats 4000000 in
set_option maxRecDepth 100000 in
theorem c_X11_count (E : EX) {n : Nat} {σ : Sto} {ρ : Rho} (a0 : Nat) (h0 : Sh n a0 10) (a1 : Int32) (res : Int32 × Sto × Rho) (hM : MX11_count σ ρ a0 a1 = some res) : CTi E yX11_count cX11_count 2 (some .int) 6 [.ref (eb E + a0), .int a1] n σ ρ res.1 res.2.1 res.2.2 := by
  refine ct_i (by decide +kernel) rfl (Nat.le_of_ble_eq_true rfl) (fun X hE hml hC hR => ?_)
  subst hE
  show G X 0 0 n σ ρ 0 [(0, vr X a0), (1, .int a1)] []
  replace hC : Cx X cX11_count RX11 6 := hC
  unfold MX11_count at hM
  refine g_iload_n hC dX11_count_0 rfl 1 rfl ?_
  refine g_ite hM (fun hx0 hM => ?_) (fun hx0 hM => ?_)
  · refine g_tswK (tgt := 48) hC dX11_count_1 rfl hx0 (z := 0) (by decide) (by decide) (by decide) rfl (by decide) ?_
    refine g_aload_n hC dX11_count_48 rfl 0 rfl ?_
    refine fg_10_0 hC h0 k_380 dX11_count_49 rfl hM (fun j1 hj1 hM => ?_)
    refine fg_3_0 hC hj1 k_172 dX11_count_52 rfl hM (fun j2 hj2 hM => ?_)
    refine fg_7_0 hC hj2 k_138 dX11_count_55 rfl ?_
    cases hM
    exact g_reti hR dX11_count_58 rfl
  refine g_ite hM (fun hx1 hM => ?_) (fun hx1 hM => ?_)
  · refine g_tswK (tgt := 59) hC dX11_count_1 rfl hx1 (z := 1) (by decide) (by decide) (by decide) rfl (by decide) ?_
    refine g_aload_n hC dX11_count_59 rfl 0 rfl ?_
    refine fg_10_0 hC h0 k_380 dX11_count_60 rfl hM (fun j3 hj3 hM => ?_)
    refine fg_3_0 hC hj3 k_172 dX11_count_63 rfl hM (fun j4 hj4 hM => ?_)
    refine fg_7_0 hC hj4 k_138 dX11_count_66 rfl ?_
    refine g_callSi (As := [.int ((σ j4 0))]) (st' := []) (L' := 0) hC Y_X2_points k_552 k_813 ⟨by decide, by decide⟩ dX11_count_69 rfl rfl rfl (Nat.le_of_ble_eq_true rfl) ⟨Nat.zero_le _, Nat.zero_le _⟩ hM (fun c hc => c_X2_points (xE X) ((σ j4 0)) c hc) (fun c5 hM => ?_)
    cases hM
    exact g_reti hR dX11_count_72 rfl
  refine g_ite hM (fun hx2 hM => ?_) (fun hx2 hM => ?_)
  · refine g_tswK (tgt := 73) hC dX11_count_1 rfl hx2 (z := 2) (by decide) (by decide) (by decide) rfl (by decide) ?_
    refine g_aload_n hC dX11_count_73 rfl 0 rfl ?_
    refine fg_10_0 hC h0 k_380 dX11_count_74 rfl hM (fun j6 hj6 hM => ?_)
    refine fg_3_0 hC hj6 k_172 dX11_count_77 rfl hM (fun j7 hj7 hM => ?_)
    refine fg_7_1 hC hj7 k_143 dX11_count_80 rfl ?_
    cases hM
    exact g_reti hR dX11_count_83 rfl
  refine g_ite hM (fun hx3 hM => ?_) (fun hx3 hM => ?_)
  · refine g_tswK (tgt := 84) hC dX11_count_1 rfl hx3 (z := 3) (by decide) (by decide) (by decide) rfl (by decide) ?_
    refine g_aload_n hC dX11_count_84 rfl 0 rfl ?_
    refine fg_10_6 hC h0 k_386 dX11_count_85 rfl hM (fun j8 hj8 hM => ?_)
    refine g_aload_n hC dX11_count_88 rfl 0 rfl ?_
    refine fg_10_0 hC h0 k_380 dX11_count_89 rfl hM (fun j9 hj9 hM => ?_)
    refine fg_3_0 hC hj9 k_172 dX11_count_92 rfl hM (fun j10 hj10 hM => ?_)
    refine g_callVv0 (As := [vr X j10]) (st' := []) (k := j8) (L' := 5) hC Y_X1_gather I_X1_gather k_755 ⟨by decide, by decide⟩ hj8 (ci := 1) (by decide) rfl dX11_count_95 rfl rfl rfl (Nat.le_of_ble_eq_true rfl) ⟨Nat.zero_le _, Nat.zero_le _⟩ hM (fun c hc => c_X1_gather (xE X) j8 hj8 j10 hj10 c hc) (fun c11 hM => ?_)
    refine g_aload_n hC dX11_count_98 rfl 0 rfl ?_
    refine fg_10_6 hC h0 k_386 dX11_count_99 rfl hM (fun j12 hj12 hM => ?_)
    refine fg_1_2 hC hj12 k_366 dX11_count_102 rfl ?_
    cases hM
    exact g_reti hR dX11_count_105 rfl
  refine g_ite hM (fun hx4 hM => ?_) (fun hx4 hM => ?_)
  · refine g_tswK (tgt := 106) hC dX11_count_1 rfl hx4 (z := 4) (by decide) (by decide) (by decide) rfl (by decide) ?_
    refine g_aload_n hC dX11_count_106 rfl 0 rfl ?_
    refine fg_10_1 hC h0 k_381 dX11_count_107 rfl hM (fun j13 hj13 hM => ?_)
    refine fg_4_2 hC hj13 k_208 dX11_count_110 rfl ?_
    cases hM
    exact g_reti hR dX11_count_113 rfl
  refine g_ite hM (fun hx5 hM => ?_) (fun hx5 hM => ?_)
  · refine g_tswK (tgt := 114) hC dX11_count_1 rfl hx5 (z := 5) (by decide) (by decide) (by decide) rfl (by decide) ?_
    refine g_aload_n hC dX11_count_114 rfl 0 rfl ?_
    refine fg_10_0 hC h0 k_380 dX11_count_115 rfl hM (fun j14 hj14 hM => ?_)
    refine fg_3_1 hC hj14 k_174 dX11_count_118 rfl hM (fun j15 hj15 hM => ?_)
    refine fg_8_1 hC hj15 k_164 dX11_count_121 rfl ?_
    cases hM
    exact g_reti hR dX11_count_124 rfl
  refine g_ite hM (fun hx6 hM => ?_) (fun hx6 hM => ?_)
  · refine g_tswK (tgt := 125) hC dX11_count_1 rfl hx6 (z := 6) (by decide) (by decide) (by decide) rfl (by decide) ?_
    refine g_aload_n hC dX11_count_125 rfl 0 rfl ?_
    refine g_callVi (As := []) (st' := []) (k := a0) (L' := 5) hC Y_X11_properConics I_X11_properConics k_814 ⟨by decide, by decide⟩ h0 (ci := 10) (by decide) rfl dX11_count_126 rfl rfl rfl (Nat.le_of_ble_eq_true rfl) ⟨Nat.zero_le _, Nat.zero_le _⟩ hM (fun c hc => c_X11_properConics (xE X) a0 h0 c hc) (fun c16 hM => ?_)
    cases hM
    exact g_reti hR dX11_count_129 rfl
  refine g_ite hM (fun hx7 hM => ?_) (fun hx7 hM => ?_)
  · refine g_tswK (tgt := 130) hC dX11_count_1 rfl hx7 (z := 7) (by decide) (by decide) (by decide) rfl (by decide) ?_
    refine g_aload_n hC dX11_count_130 rfl 0 rfl ?_
    refine g_callVi (As := []) (st' := []) (k := a0) (L' := 4) hC Y_X11_marksInLine I_X11_marksInLine k_818 ⟨by decide, by decide⟩ h0 (ci := 10) (by decide) rfl dX11_count_131 rfl rfl rfl (Nat.le_of_ble_eq_true rfl) ⟨Nat.zero_le _, Nat.zero_le _⟩ hM (fun c hc => c_X11_marksInLine (xE X) a0 h0 c hc) (fun c17 hM => ?_)
    cases hM
    exact g_reti hR dX11_count_134 rfl
  replace hx0 := lv_neT hx0 (a := 0) (by decide)
  replace hx1 := lv_neT hx1 (a := 1) (by decide)
  replace hx2 := lv_neT hx2 (a := 2) (by decide)
  replace hx3 := lv_neT hx3 (a := 3) (by decide)
  replace hx4 := lv_neT hx4 (a := 4) (by decide)
  replace hx5 := lv_neT hx5 (a := 5) (by decide)
  replace hx6 := lv_neT hx6 (a := 6) (by decide)
  replace hx7 := lv_neT hx7 (a := 7) (by decide)
  refine g_tswD (tgt := 135) hC dX11_count_1 rfl (by omega) (by decide) ?_
  refine g_iconst (v := -1) hC dX11_count_135 rfl ic_m1 ?_
  obtain rfl := Option.some.inj hM
  exact g_reti hR dX11_count_136 rfl
def MX11_overFractionsOrKind (σ : Sto) (ρ : Rho) (a0 : Nat) (a1 : Int32) : Option (Int32) :=
  if a1 = (0 : Int32) then
    Option.bind (ρ a0 9) fun j1 =>
    Option.bind (MX3_sort σ j1) fun c2 =>
    some c2
  else
  if a1 = (1 : Int32) then
    Option.bind (ρ a0 7) fun j3 =>
    Option.bind (MX0_kind σ ρ j3) fun c4 =>
    some c4
  else
  if a1 = (2 : Int32) then
    Option.bind (ρ a0 7) fun j5 =>
    Option.bind (MX0_rank σ ρ j5) fun c6 =>
    some c6
  else
  if a1 = (3 : Int32) then
    Option.bind (ρ a0 9) fun j7 =>
    Option.bind (MX3_d σ j7) fun c8 =>
    some c8
  else
  if a1 = (4 : Int32) then
    Option.bind (ρ a0 9) fun j9 =>
    Option.bind (MX3_e σ j9) fun c10 =>
    some c10
  else
  if a1 = (5 : Int32) then
    Option.bind (ρ a0 9) fun j11 =>
    Option.bind (MX3_i σ j11) fun c12 =>
    some c12
  else
  some (-2000000000 : Int32)
set_option maxHeartbeats 4000000 in
set_option maxRecDepth 100000 in
theorem c_X11_overFractionsOrKind (E : EX) {n : Nat} {σ : Sto} {ρ : Rho} (a0 : Nat) (h0 : Sh n a0 10) (a1 : Int32) (res : Int32) (hM : MX11_overFractionsOrKind σ ρ a0 a1 = some res) : CTi E yX11_overFractionsOrKind cX11_overFractionsOrKind 2 (some .int) 5 [.ref (eb E + a0), .int a1] n σ ρ res σ ρ := by
  refine ct_i (by decide +kernel) rfl (Nat.le_of_ble_eq_true rfl) (fun X hE hml hC hR => ?_)
  subst hE
  show G X 0 0 n σ ρ 0 [(0, vr X a0), (1, .int a1)] []
  replace hC : Cx X cX11_overFractionsOrKind RX11 5 := hC
  unfold MX11_overFractionsOrKind at hM
  refine g_iload_n hC dX11_overFractionsOrKind_0 rfl 1 rfl ?_
  refine g_ite hM (fun hx0 hM => ?_) (fun hx0 hM => ?_)
  · refine g_tswK (tgt := 40) hC dX11_overFractionsOrKind_1 rfl hx0 (z := 0) (by decide) (by decide) (by decide) rfl (by decide) ?_
    refine g_aload_n hC dX11_overFractionsOrKind_40 rfl 0 rfl ?_
    refine fg_10_9 hC h0 k_389 dX11_overFractionsOrKind_41 rfl hM (fun j1 hj1 hM => ?_)
    refine g_callVi (As := []) (st' := []) (k := j1) (L' := 2) hC Y_X3_sort I_X3_sort k_845 ⟨by decide, by decide⟩ hj1 (ci := 2) (by decide) rfl dX11_overFractionsOrKind_44 rfl rfl rfl (Nat.le_of_ble_eq_true rfl) ⟨Nat.zero_le _, Nat.zero_le _⟩ hM (fun c hc => c_X3_sort (xE X) j1 hj1 c hc) (fun c2 hM => ?_)
    cases hM
    exact g_reti hR dX11_overFractionsOrKind_47 rfl
  refine g_ite hM (fun hx1 hM => ?_) (fun hx1 hM => ?_)
  · refine g_tswK (tgt := 48) hC dX11_overFractionsOrKind_1 rfl hx1 (z := 1) (by decide) (by decide) (by decide) rfl (by decide) ?_
    refine g_aload_n hC dX11_overFractionsOrKind_48 rfl 0 rfl ?_
    refine fg_10_7 hC h0 k_387 dX11_overFractionsOrKind_49 rfl hM (fun j3 hj3 hM => ?_)
    refine g_callVi (As := []) (st' := []) (k := j3) (L' := 4) hC Y_X0_kind I_X0_kind k_704 ⟨by decide, by decide⟩ hj3 (ci := 0) (by decide) rfl dX11_overFractionsOrKind_52 rfl rfl rfl (Nat.le_of_ble_eq_true rfl) ⟨Nat.zero_le _, Nat.zero_le _⟩ hM (fun c hc => c_X0_kind (xE X) j3 hj3 c hc) (fun c4 hM => ?_)
    cases hM
    exact g_reti hR dX11_overFractionsOrKind_55 rfl
  refine g_ite hM (fun hx2 hM => ?_) (fun hx2 hM => ?_)
  · refine g_tswK (tgt := 56) hC dX11_overFractionsOrKind_1 rfl hx2 (z := 2) (by decide) (by decide) (by decide) rfl (by decide) ?_
    refine g_aload_n hC dX11_overFractionsOrKind_56 rfl 0 rfl ?_
    refine fg_10_7 hC h0 k_387 dX11_overFractionsOrKind_57 rfl hM (fun j5 hj5 hM => ?_)
    refine g_callVi (As := []) (st' := []) (k := j5) (L' := 3) hC Y_X0_rank I_X0_rank k_863 ⟨by decide, by decide⟩ hj5 (ci := 0) (by decide) rfl dX11_overFractionsOrKind_60 rfl rfl rfl (Nat.le_of_ble_eq_true rfl) ⟨Nat.zero_le _, Nat.zero_le _⟩ hM (fun c hc => c_X0_rank (xE X) j5 hj5 c hc) (fun c6 hM => ?_)
    cases hM
    exact g_reti hR dX11_overFractionsOrKind_63 rfl
  refine g_ite hM (fun hx3 hM => ?_) (fun hx3 hM => ?_)
  · refine g_tswK (tgt := 64) hC dX11_overFractionsOrKind_1 rfl hx3 (z := 3) (by decide) (by decide) (by decide) rfl (by decide) ?_
    refine g_aload_n hC dX11_overFractionsOrKind_64 rfl 0 rfl ?_
    refine fg_10_9 hC h0 k_389 dX11_overFractionsOrKind_65 rfl hM (fun j7 hj7 hM => ?_)
    refine g_callVi (As := []) (st' := []) (k := j7) (L' := 0) hC Y_X3_d I_X3_d k_864 ⟨by decide, by decide⟩ hj7 (ci := 2) (by decide) rfl dX11_overFractionsOrKind_68 rfl rfl rfl (Nat.le_of_ble_eq_true rfl) ⟨Nat.zero_le _, Nat.zero_le _⟩ hM (fun c hc => c_X3_d (xE X) j7 hj7 c hc) (fun c8 hM => ?_)
    cases hM
    exact g_reti hR dX11_overFractionsOrKind_71 rfl
  refine g_ite hM (fun hx4 hM => ?_) (fun hx4 hM => ?_)
  · refine g_tswK (tgt := 72) hC dX11_overFractionsOrKind_1 rfl hx4 (z := 4) (by decide) (by decide) (by decide) rfl (by decide) ?_
    refine g_aload_n hC dX11_overFractionsOrKind_72 rfl 0 rfl ?_
    refine fg_10_9 hC h0 k_389 dX11_overFractionsOrKind_73 rfl hM (fun j9 hj9 hM => ?_)
    refine g_callVi (As := []) (st' := []) (k := j9) (L' := 0) hC Y_X3_e I_X3_e k_865 ⟨by decide, by decide⟩ hj9 (ci := 2) (by decide) rfl dX11_overFractionsOrKind_76 rfl rfl rfl (Nat.le_of_ble_eq_true rfl) ⟨Nat.zero_le _, Nat.zero_le _⟩ hM (fun c hc => c_X3_e (xE X) j9 hj9 c hc) (fun c10 hM => ?_)
    cases hM
    exact g_reti hR dX11_overFractionsOrKind_79 rfl
  refine g_ite hM (fun hx5 hM => ?_) (fun hx5 hM => ?_)
  · refine g_tswK (tgt := 80) hC dX11_overFractionsOrKind_1 rfl hx5 (z := 5) (by decide) (by decide) (by decide) rfl (by decide) ?_
    refine g_aload_n hC dX11_overFractionsOrKind_80 rfl 0 rfl ?_
    refine fg_10_9 hC h0 k_389 dX11_overFractionsOrKind_81 rfl hM (fun j11 hj11 hM => ?_)
    refine g_callVi (As := []) (st' := []) (k := j11) (L' := 0) hC Y_X3_i I_X3_i k_866 ⟨by decide, by decide⟩ hj11 (ci := 2) (by decide) rfl dX11_overFractionsOrKind_84 rfl rfl rfl (Nat.le_of_ble_eq_true rfl) ⟨Nat.zero_le _, Nat.zero_le _⟩ hM (fun c hc => c_X3_i (xE X) j11 hj11 c hc) (fun c12 hM => ?_)
    cases hM
    exact g_reti hR dX11_overFractionsOrKind_87 rfl
  replace hx0 := lv_neT hx0 (a := 0) (by decide)
  replace hx1 := lv_neT hx1 (a := 1) (by decide)
  replace hx2 := lv_neT hx2 (a := 2) (by decide)
  replace hx3 := lv_neT hx3 (a := 3) (by decide)
  replace hx4 := lv_neT hx4 (a := 4) (by decide)
  replace hx5 := lv_neT hx5 (a := 5) (by decide)
  refine g_tswD (tgt := 88) hC dX11_overFractionsOrKind_1 rfl (by omega) (by decide) ?_
  refine g_ldc hC k_840 dX11_overFractionsOrKind_88 rfl ?_
  obtain rfl := Option.some.inj hM
  exact g_reti hR dX11_overFractionsOrKind_90 rfl
def BX11_overField_27 (σ : Sto) (ρ : Rho) (a0 : Nat) (a1 : Int32) (v2 : Int32) (t0 : Int32) : Option (Int32) :=
  bn t0 fun y1 =>
  if a1 = (6 : Int32) then
    Option.bind (ρ a0 7) fun j2 =>
    Option.bind (MX0_points σ ρ j2) fun c3 =>
    some c3
  else
  if a1 = (7 : Int32) then
    Option.bind (ρ a0 7) fun j4 =>
    Option.bind (MX0_lines σ ρ j4) fun c5 =>
    some c5
  else
  if a1 = (8 : Int32) then
    if y1 = 0 then
      some (-1 : Int32)
    else
      Option.bind (dvi ((v2 * (v2 + (1 : Int32)))) ((2 : Int32))) fun z6 =>
      some z6
  else
  if a1 = (9 : Int32) then
    if y1 = 0 then
      some (-1 : Int32)
    else
      Option.bind (dvi ((v2 * (v2 - (1 : Int32)))) ((2 : Int32))) fun z7 =>
      some z7
  else
  some (-2000000000 : Int32)
set_option maxHeartbeats 4000000 in
set_option maxRecDepth 100000 in
theorem bX11_overField_27 {X : CX} {n : Nat} {σ : Sto} {ρ : Rho} {res : Int32} (hC : Cx X cX11_overField RX11 6) (hml : (xc X).maxLocals = 4) (hR : RtT (some .int) X cX11_overField n res σ ρ) (a0 : Nat) (a1 : Int32) (h0 : Sh n a0 10) : ∀ (v2 : Int32) (t0 : Int32), BX11_overField_27 σ ρ a0 a1 v2 t0 = some res → G X 0 0 n σ ρ 27 [(0, vr X a0), (1, .int a1), (2, .int v2)] [.int t0] := by
  intro v2 t0 hM
  unfold BX11_overField_27 at hM
  refine g_istore_n hC (fun y1 => [(3, .int y1), (0, vr X a0), (1, .int a1), (2, .int v2)]) dX11_overField_27 rfl hM hml (by decide) (fun _ => rfl) (fun y1 hM => ?_)
  refine g_iload_n hC dX11_overField_28 rfl 2 rfl ?_
  refine g_ite hM (fun hx0 hM => ?_) (fun hx0 hM => ?_)
  · refine g_tswK (tgt := 60) hC dX11_overField_29 rfl hx0 (z := 6) (by decide) (by decide) (by decide) rfl (by decide) ?_
    refine g_aload_n hC dX11_overField_60 rfl 1 rfl ?_
    refine fg_10_7 hC h0 k_387 dX11_overField_61 rfl hM (fun j2 hj2 hM => ?_)
    refine g_callVi (As := []) (st' := []) (k := j2) (L' := 5) hC Y_X0_points I_X0_points k_871 ⟨by decide, by decide⟩ hj2 (ci := 0) (by decide) rfl dX11_overField_64 rfl rfl rfl (Nat.le_of_ble_eq_true rfl) ⟨Nat.zero_le _, Nat.zero_le _⟩ hM (fun c hc => c_X0_points (xE X) j2 hj2 c hc) (fun c3 hM => ?_)
    cases hM
    exact g_reti hR dX11_overField_67 rfl
  refine g_ite hM (fun hx1 hM => ?_) (fun hx1 hM => ?_)
  · refine g_tswK (tgt := 68) hC dX11_overField_29 rfl hx1 (z := 7) (by decide) (by decide) (by decide) rfl (by decide) ?_
    refine g_aload_n hC dX11_overField_68 rfl 1 rfl ?_
    refine fg_10_7 hC h0 k_387 dX11_overField_69 rfl hM (fun j4 hj4 hM => ?_)
    refine g_callVi (As := []) (st' := []) (k := j4) (L' := 5) hC Y_X0_lines I_X0_lines k_877 ⟨by decide, by decide⟩ hj4 (ci := 0) (by decide) rfl dX11_overField_72 rfl rfl rfl (Nat.le_of_ble_eq_true rfl) ⟨Nat.zero_le _, Nat.zero_le _⟩ hM (fun c hc => c_X0_lines (xE X) j4 hj4 c hc) (fun c5 hM => ?_)
    cases hM
    exact g_reti hR dX11_overField_75 rfl
  refine g_ite hM (fun hx2 hM => ?_) (fun hx2 hM => ?_)
  · refine g_tswK (tgt := 76) hC dX11_overField_29 rfl hx2 (z := 8) (by decide) (by decide) (by decide) rfl (by decide) ?_
    refine g_iload_n hC dX11_overField_76 rfl 0 rfl ?_
    refine g_if_eq (tgt := 90) hC dX11_overField_77 rfl (by decide) hM (fun hM => ?_) (fun hM => ?_)
    · refine g_iconst (v := -1) hC dX11_overField_90 rfl ic_m1 ?_
      obtain rfl := Option.some.inj hM
      exact g_reti hR dX11_overField_91 rfl
    · refine g_iload_n hC dX11_overField_80 rfl 3 rfl ?_
      refine g_iload_n hC dX11_overField_81 rfl 3 rfl ?_
      refine g_iconst (v := 1) hC dX11_overField_82 rfl ic_1 ?_
      refine g_iadd hC dX11_overField_83 rfl ?_
      refine g_imul hC dX11_overField_84 rfl ?_
      refine g_iconst (v := 2) hC dX11_overField_85 rfl ic_2 ?_
      refine g_idiv hC dX11_overField_86 rfl hM (fun z6 hM => ?_)
      refine g_goto (tgt := 91) hC dX11_overField_87 rfl (by decide) ?_
      cases hM
      exact g_reti hR dX11_overField_91 rfl
  refine g_ite hM (fun hx3 hM => ?_) (fun hx3 hM => ?_)
  · refine g_tswK (tgt := 92) hC dX11_overField_29 rfl hx3 (z := 9) (by decide) (by decide) (by decide) rfl (by decide) ?_
    refine g_iload_n hC dX11_overField_92 rfl 0 rfl ?_
    refine g_if_eq (tgt := 106) hC dX11_overField_93 rfl (by decide) hM (fun hM => ?_) (fun hM => ?_)
    · refine g_iconst (v := -1) hC dX11_overField_106 rfl ic_m1 ?_
      obtain rfl := Option.some.inj hM
      exact g_reti hR dX11_overField_107 rfl
    · refine g_iload_n hC dX11_overField_96 rfl 3 rfl ?_
      refine g_iload_n hC dX11_overField_97 rfl 3 rfl ?_
      refine g_iconst (v := 1) hC dX11_overField_98 rfl ic_1 ?_
      refine g_isub hC dX11_overField_99 rfl ?_
      refine g_imul hC dX11_overField_100 rfl ?_
      refine g_iconst (v := 2) hC dX11_overField_101 rfl ic_2 ?_
      refine g_idiv hC dX11_overField_102 rfl hM (fun z7 hM => ?_)
      refine g_goto (tgt := 107) hC dX11_overField_103 rfl (by decide) ?_
      cases hM
      exact g_reti hR dX11_overField_107 rfl
  replace hx0 := lv_neT hx0 (a := 6) (by decide)
  replace hx1 := lv_neT hx1 (a := 7) (by decide)
  replace hx2 := lv_neT hx2 (a := 8) (by decide)
  replace hx3 := lv_neT hx3 (a := 9) (by decide)
  refine g_tswD (tgt := 108) hC dX11_overField_29 rfl (by omega) (by decide) ?_
  refine g_ldc hC k_840 dX11_overField_108 rfl ?_
  obtain rfl := Option.some.inj hM
  exact g_reti hR dX11_overField_110 rfl
def MX11_overField (σ : Sto) (ρ : Rho) (a0 : Nat) (a1 : Int32) : Option (Int32) :=
  Option.bind (ρ a0 0) fun j1 =>
  Option.bind (ρ j1 0) fun j2 =>
  bn ((σ j2 0)) fun y3 =>
  Option.bind (ρ a0 7) fun j4 =>
  Option.bind (MX0_kind σ ρ j4) fun c5 =>
  if c5 = (4 : Int32) then
    BX11_overField_27 σ ρ a0 a1 y3 ((1 : Int32))
  else
    BX11_overField_27 σ ρ a0 a1 y3 ((0 : Int32))
set_option maxHeartbeats 4000000 in
set_option maxRecDepth 100000 in
theorem c_X11_overField (E : EX) {n : Nat} {σ : Sto} {ρ : Rho} (a0 : Nat) (h0 : Sh n a0 10) (a1 : Int32) (res : Int32) (hM : MX11_overField σ ρ a0 a1 = some res) : CTi E yX11_overField cX11_overField 4 (some .int) 6 [.ref (eb E + a0), .int a1] n σ ρ res σ ρ := by
  refine ct_i (by decide +kernel) rfl (Nat.le_of_ble_eq_true rfl) (fun X hE hml hC hR => ?_)
  subst hE
  show G X 0 0 n σ ρ 0 [(0, vr X a0), (1, .int a1)] []
  replace hC : Cx X cX11_overField RX11 6 := hC
  unfold MX11_overField at hM
  refine g_aload_n hC dX11_overField_0 rfl 0 rfl ?_
  refine fg_10_0 hC h0 k_380 dX11_overField_1 rfl hM (fun j1 hj1 hM => ?_)
  refine fg_3_0 hC hj1 k_172 dX11_overField_4 rfl hM (fun j2 hj2 hM => ?_)
  refine fg_7_0 hC hj2 k_138 dX11_overField_7 rfl ?_
  refine g_istore_n hC (fun y3 => [(2, .int y3), (0, vr X a0), (1, .int a1)]) dX11_overField_10 rfl hM hml (by decide) (fun _ => rfl) (fun y3 hM => ?_)
  refine g_aload_n hC dX11_overField_11 rfl 1 rfl ?_
  refine fg_10_7 hC h0 k_387 dX11_overField_12 rfl hM (fun j4 hj4 hM => ?_)
  refine g_callVi (As := []) (st' := []) (k := j4) (L' := 4) hC Y_X0_kind I_X0_kind k_704 ⟨by decide, by decide⟩ hj4 (ci := 0) (by decide) rfl dX11_overField_15 rfl rfl rfl (Nat.le_of_ble_eq_true rfl) ⟨Nat.zero_le _, Nat.zero_le _⟩ hM (fun c hc => c_X0_kind (xE X) j4 hj4 c hc) (fun c5 hM => ?_)
  refine g_iconst (v := 4) hC dX11_overField_18 rfl ic_4 ?_
  refine g_icmp_ne (tgt := 26) hC dX11_overField_19 rfl (by decide) hM (fun hM => ?_) (fun hM => ?_)
  · refine g_iconst (v := 0) hC dX11_overField_26 rfl ic_0 ?_
    exact g_sub [1, 2, 0] ((bX11_overField_27 hC hml hR a0 a1 h0 ) _ _ hM) rfl
  · refine g_iconst (v := 1) hC dX11_overField_22 rfl ic_1 ?_
    refine g_goto (tgt := 27) hC dX11_overField_23 rfl (by decide) ?_
    exact g_sub [1, 2, 0] ((bX11_overField_27 hC hml hR a0 a1 h0 ) _ _ hM) rfl
def BX11_conic_99 (ρ : Rho) (a0 : Nat) (a1 : Int32) (a2 : Int32) (σ : Sto) : Option (Int32 × Sto) :=
  if (6 : Int32) ≤ a2 then
    Option.bind (MX11_overField σ ρ a0 a2) fun c1 =>
    some (c1, σ)
  else
    Option.bind (MX11_overFractionsOrKind σ ρ a0 a2) fun c2 =>
    some (c2, σ)
set_option maxHeartbeats 4000000 in
set_option maxRecDepth 100000 in
theorem bX11_conic_99 {X : CX} {n : Nat} {ρ : Rho} {res : Int32 × Sto} (hC : Cx X cX11_conic RX11 7) (hml : (xc X).maxLocals = 3) (hR : RtT (some .int) X cX11_conic n res.1 res.2 ρ) (a0 : Nat) (a1 : Int32) (a2 : Int32) (h0 : Sh n a0 10) : ∀ (σ : Sto), BX11_conic_99 ρ a0 a1 a2 σ = some res → G X 0 0 n σ ρ 99 [(0, vr X a0), (1, .int a1), (2, .int a2)] [] := by
  intro σ hM
  unfold BX11_conic_99 at hM
  refine g_iload_n hC dX11_conic_99 rfl 2 rfl ?_
  refine g_bipush (v := 6) hC dX11_conic_100 rfl ib_6 ?_
  refine g_icmp_ge (tgt := 113) hC dX11_conic_102 rfl (by decide) hM (fun hM => ?_) (fun hM => ?_)
  · refine g_aload_n hC dX11_conic_113 rfl 0 rfl ?_
    refine g_iload_n hC dX11_conic_114 rfl 2 rfl ?_
    refine g_callVi (As := [.int a2]) (st' := []) (k := a0) (L' := 6) hC Y_X11_overField I_X11_overField k_867 ⟨by decide, by decide⟩ h0 (ci := 10) (by decide) rfl dX11_conic_115 rfl rfl rfl (Nat.le_of_ble_eq_true rfl) ⟨Nat.zero_le _, Nat.zero_le _⟩ hM (fun c hc => c_X11_overField (xE X) a0 h0 a2 c hc) (fun c1 hM => ?_)
    cases hM
    exact g_reti hR dX11_conic_118 rfl
  · refine g_aload_n hC dX11_conic_105 rfl 0 rfl ?_
    refine g_iload_n hC dX11_conic_106 rfl 2 rfl ?_
    refine g_callVi (As := [.int a2]) (st' := []) (k := a0) (L' := 5) hC Y_X11_overFractionsOrKind I_X11_overFractionsOrKind k_841 ⟨by decide, by decide⟩ h0 (ci := 10) (by decide) rfl dX11_conic_107 rfl rfl rfl (Nat.le_of_ble_eq_true rfl) ⟨Nat.zero_le _, Nat.zero_le _⟩ hM (fun c hc => c_X11_overFractionsOrKind (xE X) a0 h0 a2 c hc) (fun c2 hM => ?_)
    refine g_goto (tgt := 118) hC dX11_conic_110 rfl (by decide) ?_
    cases hM
    exact g_reti hR dX11_conic_118 rfl
def BX11_conic_68 (ρ : Rho) (a0 : Nat) (a1 : Int32) (a2 : Int32) (σ : Sto) : Option (Int32 × Sto) :=
  if a2 < (20 : Int32) then
    BX11_conic_99 ρ a0 a1 a2 σ
  else
    Option.bind (MX11_isNumber ((a2 - (20 : Int32)))) fun c1 =>
    if c1 = 0 then
      BX11_conic_99 ρ a0 a1 a2 σ
    else
      Option.bind (ρ a0 7) fun j2 =>
      Option.bind (ρ j2 0) fun j3 =>
      Option.bind (MX3_nth σ j3 ((a2 - (20 : Int32)))) fun c4 =>
      some (c4, σ)
set_option maxHeartbeats 4000000 in
set_option maxRecDepth 100000 in
theorem bX11_conic_68 {X : CX} {n : Nat} {ρ : Rho} {res : Int32 × Sto} (hC : Cx X cX11_conic RX11 7) (hml : (xc X).maxLocals = 3) (hR : RtT (some .int) X cX11_conic n res.1 res.2 ρ) (a0 : Nat) (a1 : Int32) (a2 : Int32) (h0 : Sh n a0 10) : ∀ (σ : Sto), BX11_conic_68 ρ a0 a1 a2 σ = some res → G X 0 0 n σ ρ 68 [(0, vr X a0), (1, .int a1), (2, .int a2)] [] := by
  intro σ hM
  unfold BX11_conic_68 at hM
  refine g_iload_n hC dX11_conic_68 rfl 2 rfl ?_
  refine g_bipush (v := 20) hC dX11_conic_69 rfl ib_20 ?_
  refine g_icmp_lt (tgt := 99) hC dX11_conic_71 rfl (by decide) hM (fun hM => ?_) (fun hM => ?_)
  · exact g_sub [0, 1, 2] ((bX11_conic_99 hC hml hR a0 a1 a2 h0 ) _ hM) rfl
  · refine g_iload_n hC dX11_conic_74 rfl 2 rfl ?_
    refine g_bipush (v := 20) hC dX11_conic_75 rfl ib_20 ?_
    refine g_isub hC dX11_conic_77 rfl ?_
    refine g_callSi (As := [.int ((a2 - (20 : Int32)))]) (st' := []) (L' := 0) hC Y_X11_isNumber k_660 k_659 ⟨by decide, by decide⟩ dX11_conic_78 rfl rfl rfl (Nat.le_of_ble_eq_true rfl) ⟨Nat.zero_le _, Nat.zero_le _⟩ hM (fun c hc => c_X11_isNumber (xE X) ((a2 - (20 : Int32))) c hc) (fun c1 hM => ?_)
    refine g_if_eq (tgt := 99) hC dX11_conic_81 rfl (by decide) hM (fun hM => ?_) (fun hM => ?_)
    · exact g_sub [0, 1, 2] ((bX11_conic_99 hC hml hR a0 a1 a2 h0 ) _ hM) rfl
    · refine g_aload_n hC dX11_conic_84 rfl 0 rfl ?_
      refine fg_10_7 hC h0 k_387 dX11_conic_85 rfl hM (fun j2 hj2 hM => ?_)
      refine fg_0_0 hC hj2 k_324 dX11_conic_88 rfl hM (fun j3 hj3 hM => ?_)
      refine g_iload_n hC dX11_conic_91 rfl 2 rfl ?_
      refine g_bipush (v := 20) hC dX11_conic_92 rfl ib_20 ?_
      refine g_isub hC dX11_conic_94 rfl ?_
      refine g_callVi (As := [.int ((a2 - (20 : Int32)))]) (st' := []) (k := j3) (L' := 0) hC Y_X3_nth I_X3_nth k_668 ⟨by decide, by decide⟩ hj3 (ci := 2) (by decide) rfl dX11_conic_95 rfl rfl rfl (Nat.le_of_ble_eq_true rfl) ⟨Nat.zero_le _, Nat.zero_le _⟩ hM (fun c hc => c_X3_nth (xE X) j3 hj3 ((a2 - (20 : Int32))) c hc) (fun c4 hM => ?_)
      cases hM
      exact g_reti hR dX11_conic_98 rfl
def MX11_conic (σ : Sto) (ρ : Rho) (a0 : Nat) (a1 : Int32) (a2 : Int32) : Option (Int32 × Sto) :=
  Option.bind (MX11_isConic a1) fun c1 =>
  if c1 = 0 then
    some ((-2000000000 : Int32), σ)
  else
    Option.bind (ρ a0 0) fun j2 =>
    Option.bind (ρ j2 0) fun j3 =>
    Option.bind (ρ a0 9) fun j4 =>
    Option.bind (MX8_read σ ρ j3 a1 j4) fun c5 =>
    Option.bind (ρ a0 7) fun j6 =>
    Option.bind (ρ a0 0) fun j7 =>
    Option.bind (ρ j7 0) fun j8 =>
    Option.bind (MX0_take c5 ρ j6 j8 a1) fun c9 =>
    if a2 < (10 : Int32) then
      BX11_conic_68 ρ a0 a1 a2 c9
    else
      Option.bind (MX11_isNumber ((a2 - (10 : Int32)))) fun c10 =>
      if c10 = 0 then
        BX11_conic_68 ρ a0 a1 a2 c9
      else
        Option.bind (ρ a0 9) fun j11 =>
        Option.bind (MX3_nth c9 j11 ((a2 - (10 : Int32)))) fun c12 =>
        some (c12, c9)
set_option maxHeartbeats 4000000 in
set_option maxRecDepth 100000 in
theorem c_X11_conic (E : EX) {n : Nat} {σ : Sto} {ρ : Rho} (a0 : Nat) (h0 : Sh n a0 10) (a1 : Int32) (a2 : Int32) (res : Int32 × Sto) (hM : MX11_conic σ ρ a0 a1 a2 = some res) : CTi E yX11_conic cX11_conic 3 (some .int) 7 [.ref (eb E + a0), .int a1, .int a2] n σ ρ res.1 res.2 ρ := by
  refine ct_i (by decide +kernel) rfl (Nat.le_of_ble_eq_true rfl) (fun X hE hml hC hR => ?_)
  subst hE
  show G X 0 0 n σ ρ 0 [(0, vr X a0), (1, .int a1), (2, .int a2)] []
  replace hC : Cx X cX11_conic RX11 7 := hC
  unfold MX11_conic at hM
  refine g_iload_n hC dX11_conic_0 rfl 1 rfl ?_
  refine g_callSi (As := [.int a1]) (st' := []) (L' := 0) hC Y_X11_isConic k_559 k_658 ⟨by decide, by decide⟩ dX11_conic_1 rfl rfl rfl (Nat.le_of_ble_eq_true rfl) ⟨Nat.zero_le _, Nat.zero_le _⟩ hM (fun c hc => c_X11_isConic (xE X) a1 c hc) (fun c1 hM => ?_)
  refine g_if_ne (tgt := 10) hC dX11_conic_4 rfl (by decide) hM (fun hM => ?_) (fun hM => ?_)
  · refine g_aload_n hC dX11_conic_10 rfl 0 rfl ?_
    refine fg_10_0 hC h0 k_380 dX11_conic_11 rfl hM (fun j2 hj2 hM => ?_)
    refine fg_3_0 hC hj2 k_172 dX11_conic_14 rfl hM (fun j3 hj3 hM => ?_)
    refine g_iload_n hC dX11_conic_17 rfl 1 rfl ?_
    refine g_aload_n hC dX11_conic_18 rfl 0 rfl ?_
    refine fg_10_9 hC h0 k_389 dX11_conic_19 rfl hM (fun j4 hj4 hM => ?_)
    refine g_callVv0 (As := [.int a1, vr X j4]) (st' := []) (k := j3) (L' := 1) hC Y_X8_read I_X8_read k_663 ⟨by decide, by decide⟩ hj3 (ci := 7) (by decide) rfl dX11_conic_22 rfl rfl rfl (Nat.le_of_ble_eq_true rfl) ⟨Nat.zero_le _, Nat.zero_le _⟩ hM (fun c hc => c_X8_read (xE X) j3 hj3 a1 j4 hj4 c hc) (fun c5 hM => ?_)
    refine g_aload_n hC dX11_conic_25 rfl 0 rfl ?_
    refine fg_10_7 hC h0 k_387 dX11_conic_26 rfl hM (fun j6 hj6 hM => ?_)
    refine g_aload_n hC dX11_conic_29 rfl 0 rfl ?_
    refine fg_10_0 hC h0 k_380 dX11_conic_30 rfl hM (fun j7 hj7 hM => ?_)
    refine fg_3_0 hC hj7 k_172 dX11_conic_33 rfl hM (fun j8 hj8 hM => ?_)
    refine g_iload_n hC dX11_conic_36 rfl 1 rfl ?_
    refine g_callVv0 (As := [vr X j8, .int a1]) (st' := []) (k := j6) (L' := 3) hC Y_X0_take I_X0_take k_689 ⟨by decide, by decide⟩ hj6 (ci := 0) (by decide) rfl dX11_conic_37 rfl rfl rfl (Nat.le_of_ble_eq_true rfl) ⟨Nat.zero_le _, Nat.zero_le _⟩ hM (fun c hc => c_X0_take (xE X) j6 hj6 j8 hj8 a1 c hc) (fun c9 hM => ?_)
    refine g_iload_n hC dX11_conic_40 rfl 2 rfl ?_
    refine g_bipush (v := 10) hC dX11_conic_41 rfl ib_10 ?_
    refine g_icmp_lt (tgt := 68) hC dX11_conic_43 rfl (by decide) hM (fun hM => ?_) (fun hM => ?_)
    · exact g_sub [0, 1, 2] ((bX11_conic_68 hC hml hR a0 a1 a2 h0 ) _ hM) rfl
    · refine g_iload_n hC dX11_conic_46 rfl 2 rfl ?_
      refine g_bipush (v := 10) hC dX11_conic_47 rfl ib_10 ?_
      refine g_isub hC dX11_conic_49 rfl ?_
      refine g_callSi (As := [.int ((a2 - (10 : Int32)))]) (st' := []) (L' := 0) hC Y_X11_isNumber k_660 k_659 ⟨by decide, by decide⟩ dX11_conic_50 rfl rfl rfl (Nat.le_of_ble_eq_true rfl) ⟨Nat.zero_le _, Nat.zero_le _⟩ hM (fun c hc => c_X11_isNumber (xE X) ((a2 - (10 : Int32))) c hc) (fun c10 hM => ?_)
      refine g_if_eq (tgt := 68) hC dX11_conic_53 rfl (by decide) hM (fun hM => ?_) (fun hM => ?_)
      · exact g_sub [0, 1, 2] ((bX11_conic_68 hC hml hR a0 a1 a2 h0 ) _ hM) rfl
      · refine g_aload_n hC dX11_conic_56 rfl 0 rfl ?_
        refine fg_10_9 hC h0 k_389 dX11_conic_57 rfl hM (fun j11 hj11 hM => ?_)
        refine g_iload_n hC dX11_conic_60 rfl 2 rfl ?_
        refine g_bipush (v := 10) hC dX11_conic_61 rfl ib_10 ?_
        refine g_isub hC dX11_conic_63 rfl ?_
        refine g_callVi (As := [.int ((a2 - (10 : Int32)))]) (st' := []) (k := j11) (L' := 0) hC Y_X3_nth I_X3_nth k_668 ⟨by decide, by decide⟩ hj11 (ci := 2) (by decide) rfl dX11_conic_64 rfl rfl rfl (Nat.le_of_ble_eq_true rfl) ⟨Nat.zero_le _, Nat.zero_le _⟩ hM (fun c hc => c_X3_nth (xE X) j11 hj11 ((a2 - (10 : Int32))) c hc) (fun c12 hM => ?_)
        cases hM
        exact g_reti hR dX11_conic_67 rfl
  · refine g_ldc hC k_840 dX11_conic_7 rfl ?_
    obtain rfl := Option.some.inj hM
    exact g_reti hR dX11_conic_9 rfl
def MX11_place (σ : Sto) (ρ : Rho) (a0 : Nat) (a1 : Int32) (a2 : Int32) : Option (Int32 × Sto) :=
  if a2 < 0 then
    some ((-1 : Int32), σ)
  else
    if (2 : Int32) < a2 then
      some ((-1 : Int32), σ)
    else
      Option.bind (ρ a0 11) fun j1 =>
      Option.bind (ρ a0 0) fun j2 =>
      Option.bind (ρ j2 0) fun j3 =>
      Option.bind (MX10_take σ j1 a1 ((σ j3 0))) fun c4 =>
      if c4.1 = 0 then
        some ((-1 : Int32), c4.2)
      else
        Option.bind (ρ a0 11) fun j5 =>
        Option.bind (MX10_nth c4.2 j5 a2) fun c6 =>
        some (c6, c4.2)
set_option maxHeartbeats 4000000 in
set_option maxRecDepth 100000 in
theorem c_X11_place (E : EX) {n : Nat} {σ : Sto} {ρ : Rho} (a0 : Nat) (h0 : Sh n a0 10) (a1 : Int32) (a2 : Int32) (res : Int32 × Sto) (hM : MX11_place σ ρ a0 a1 a2 = some res) : CTi E yX11_place cX11_place 3 (some .int) 2 [.ref (eb E + a0), .int a1, .int a2] n σ ρ res.1 res.2 ρ := by
  refine ct_i (by decide +kernel) rfl (Nat.le_of_ble_eq_true rfl) (fun X hE hml hC hR => ?_)
  subst hE
  show G X 0 0 n σ ρ 0 [(0, vr X a0), (1, .int a1), (2, .int a2)] []
  replace hC : Cx X cX11_place RX11 2 := hC
  unfold MX11_place at hM
  refine g_iload_n hC dX11_place_0 rfl 2 rfl ?_
  refine g_if_lt (tgt := 30) hC dX11_place_1 rfl (by decide) hM (fun hM => ?_) (fun hM => ?_)
  · refine g_iconst (v := -1) hC dX11_place_30 rfl ic_m1 ?_
    obtain rfl := Option.some.inj hM
    exact g_reti hR dX11_place_31 rfl
  · refine g_iload_n hC dX11_place_4 rfl 2 rfl ?_
    refine g_iconst (v := 2) hC dX11_place_5 rfl ic_2 ?_
    refine g_icmp_gt (tgt := 30) hC dX11_place_6 rfl (by decide) hM (fun hM => ?_) (fun hM => ?_)
    · refine g_iconst (v := -1) hC dX11_place_30 rfl ic_m1 ?_
      obtain rfl := Option.some.inj hM
      exact g_reti hR dX11_place_31 rfl
    · refine g_aload_n hC dX11_place_9 rfl 0 rfl ?_
      refine fg_10_11 hC h0 k_391 dX11_place_10 rfl hM (fun j1 hj1 hM => ?_)
      refine g_iload_n hC dX11_place_13 rfl 1 rfl ?_
      refine g_aload_n hC dX11_place_14 rfl 0 rfl ?_
      refine fg_10_0 hC h0 k_380 dX11_place_15 rfl hM (fun j2 hj2 hM => ?_)
      refine fg_3_0 hC hj2 k_172 dX11_place_18 rfl hM (fun j3 hj3 hM => ?_)
      refine fg_7_0 hC hj3 k_138 dX11_place_21 rfl ?_
      refine g_callVi (As := [.int a1, .int ((σ j3 0))]) (st' := []) (k := j1) (L' := 1) hC Y_X10_take I_X10_take k_790 ⟨by decide, by decide⟩ hj1 (ci := 9) (by decide) rfl dX11_place_24 rfl rfl rfl (Nat.le_of_ble_eq_true rfl) ⟨Nat.zero_le _, Nat.zero_le _⟩ hM (fun c hc => c_X10_take (xE X) j1 hj1 a1 ((σ j3 0)) c hc) (fun c4 hM => ?_)
      refine g_if_ne (tgt := 32) hC dX11_place_27 rfl (by decide) hM (fun hM => ?_) (fun hM => ?_)
      · refine g_aload_n hC dX11_place_32 rfl 0 rfl ?_
        refine fg_10_11 hC h0 k_391 dX11_place_33 rfl hM (fun j5 hj5 hM => ?_)
        refine g_iload_n hC dX11_place_36 rfl 2 rfl ?_
        refine g_callVi (As := [.int a2]) (st' := []) (k := j5) (L' := 0) hC Y_X10_nth I_X10_nth k_885 ⟨by decide, by decide⟩ hj5 (ci := 9) (by decide) rfl dX11_place_37 rfl rfl rfl (Nat.le_of_ble_eq_true rfl) ⟨Nat.zero_le _, Nat.zero_le _⟩ hM (fun c hc => c_X10_nth (xE X) j5 hj5 a2 c hc) (fun c6 hM => ?_)
        cases hM
        exact g_reti hR dX11_place_40 rfl
      · refine g_iconst (v := -1) hC dX11_place_30 rfl ic_m1 ?_
        obtain rfl := Option.some.inj hM
        exact g_reti hR dX11_place_31 rfl
def MX11_number (σ : Sto) (ρ : Rho) (a0 : Nat) (a1 : Int32) (a2 : Int32) (a3 : Int32) : Option (Int32 × Sto) :=
  Option.bind (ρ a0 11) fun j1 =>
  Option.bind (MX10_fill σ j1 a1 a2 a3) fun c2 =>
  Option.bind (ρ a0 11) fun j3 =>
  Option.bind (ρ a0 0) fun j4 =>
  Option.bind (ρ j4 0) fun j5 =>
  Option.bind (MX10_numbered c2 j3 ((c2 j5 0))) fun c6 =>
  some (c6, c2)
set_option maxHeartbeats 4000000 in
set_option maxRecDepth 100000 in
theorem c_X11_number (E : EX) {n : Nat} {σ : Sto} {ρ : Rho} (a0 : Nat) (h0 : Sh n a0 10) (a1 : Int32) (a2 : Int32) (a3 : Int32) (res : Int32 × Sto) (hM : MX11_number σ ρ a0 a1 a2 a3 = some res) : CTi E yX11_number cX11_number 4 (some .int) 4 [.ref (eb E + a0), .int a1, .int a2, .int a3] n σ ρ res.1 res.2 ρ := by
  refine ct_i (by decide +kernel) rfl (Nat.le_of_ble_eq_true rfl) (fun X hE hml hC hR => ?_)
  subst hE
  show G X 0 0 n σ ρ 0 [(0, vr X a0), (1, .int a1), (2, .int a2), (3, .int a3)] []
  replace hC : Cx X cX11_number RX11 4 := hC
  unfold MX11_number at hM
  refine g_aload_n hC dX11_number_0 rfl 0 rfl ?_
  refine fg_10_11 hC h0 k_391 dX11_number_1 rfl hM (fun j1 hj1 hM => ?_)
  refine g_iload_n hC dX11_number_4 rfl 1 rfl ?_
  refine g_iload_n hC dX11_number_5 rfl 2 rfl ?_
  refine g_iload_n hC dX11_number_6 rfl 3 rfl ?_
  refine g_callVv0 (As := [.int a1, .int a2, .int a3]) (st' := []) (k := j1) (L' := 0) hC Y_X10_fill I_X10_fill k_893 ⟨by decide, by decide⟩ hj1 (ci := 9) (by decide) rfl dX11_number_7 rfl rfl rfl (Nat.le_of_ble_eq_true rfl) ⟨Nat.zero_le _, Nat.zero_le _⟩ hM (fun c hc => c_X10_fill (xE X) j1 hj1 a1 a2 a3 c hc) (fun c2 hM => ?_)
  refine g_aload_n hC dX11_number_10 rfl 0 rfl ?_
  refine fg_10_11 hC h0 k_391 dX11_number_11 rfl hM (fun j3 hj3 hM => ?_)
  refine g_aload_n hC dX11_number_14 rfl 0 rfl ?_
  refine fg_10_0 hC h0 k_380 dX11_number_15 rfl hM (fun j4 hj4 hM => ?_)
  refine fg_3_0 hC hj4 k_172 dX11_number_18 rfl hM (fun j5 hj5 hM => ?_)
  refine fg_7_0 hC hj5 k_138 dX11_number_21 rfl ?_
  refine g_callVi (As := [.int ((c2 j5 0))]) (st' := []) (k := j3) (L' := 3) hC Y_X10_numbered I_X10_numbered k_894 ⟨by decide, by decide⟩ hj3 (ci := 9) (by decide) rfl dX11_number_24 rfl rfl rfl (Nat.le_of_ble_eq_true rfl) ⟨Nat.zero_le _, Nat.zero_le _⟩ hM (fun c hc => c_X10_numbered (xE X) j3 hj3 ((c2 j5 0)) c hc) (fun c6 hM => ?_)
  cases hM
  exact g_reti hR dX11_number_27 rfl
def MX11_joined (σ : Sto) (ρ : Rho) (a0 : Nat) (a1 : Int32) (a2 : Int32) : Option (Int32 × Sto) :=
  Option.bind (ρ a0 0) fun j1 =>
  Option.bind (ρ j1 0) fun j2 =>
  bn ((σ j2 0)) fun y3 =>
  Option.bind (ρ a0 11) fun j4 =>
  Option.bind (MX10_take σ j4 a1 y3) fun c5 =>
  if c5.1 = 0 then
    some ((-1 : Int32), c5.2)
  else
    Option.bind (ρ a0 12) fun j6 =>
    Option.bind (MX10_take c5.2 j6 a2 y3) fun c7 =>
    if c7.1 = 0 then
      some ((-1 : Int32), c7.2)
    else
      Option.bind (ρ a0 13) fun j8 =>
      Option.bind (ρ a0 11) fun j9 =>
      Option.bind (ρ a0 12) fun j10 =>
      Option.bind (MX10_cross c7.2 j8 j9 j10) fun c11 =>
      Option.bind (ρ a0 13) fun j12 =>
      Option.bind (MX10_numbered c11 j12 y3) fun c13 =>
      some (c13, c11)
set_option maxHeartbeats 4000000 in
set_option maxRecDepth 100000 in
theorem c_X11_joined (E : EX) {n : Nat} {σ : Sto} {ρ : Rho} (a0 : Nat) (h0 : Sh n a0 10) (a1 : Int32) (a2 : Int32) (res : Int32 × Sto) (hM : MX11_joined σ ρ a0 a1 a2 = some res) : CTi E yX11_joined cX11_joined 4 (some .int) 4 [.ref (eb E + a0), .int a1, .int a2] n σ ρ res.1 res.2 ρ := by
  refine ct_i (by decide +kernel) rfl (Nat.le_of_ble_eq_true rfl) (fun X hE hml hC hR => ?_)
  subst hE
  show G X 0 0 n σ ρ 0 [(0, vr X a0), (1, .int a1), (2, .int a2)] []
  replace hC : Cx X cX11_joined RX11 4 := hC
  unfold MX11_joined at hM
  refine g_aload_n hC dX11_joined_0 rfl 0 rfl ?_
  refine fg_10_0 hC h0 k_380 dX11_joined_1 rfl hM (fun j1 hj1 hM => ?_)
  refine fg_3_0 hC hj1 k_172 dX11_joined_4 rfl hM (fun j2 hj2 hM => ?_)
  refine fg_7_0 hC hj2 k_138 dX11_joined_7 rfl ?_
  refine g_istore_n hC (fun y3 => [(3, .int y3), (0, vr X a0), (1, .int a1), (2, .int a2)]) dX11_joined_10 rfl hM hml (by decide) (fun _ => rfl) (fun y3 hM => ?_)
  refine g_aload_n hC dX11_joined_11 rfl 1 rfl ?_
  refine fg_10_11 hC h0 k_391 dX11_joined_12 rfl hM (fun j4 hj4 hM => ?_)
  refine g_iload_n hC dX11_joined_15 rfl 2 rfl ?_
  refine g_iload_n hC dX11_joined_16 rfl 0 rfl ?_
  refine g_callVi (As := [.int a1, .int y3]) (st' := []) (k := j4) (L' := 1) hC Y_X10_take I_X10_take k_790 ⟨by decide, by decide⟩ hj4 (ci := 9) (by decide) rfl dX11_joined_17 rfl rfl rfl (Nat.le_of_ble_eq_true rfl) ⟨Nat.zero_le _, Nat.zero_le _⟩ hM (fun c hc => c_X10_take (xE X) j4 hj4 a1 y3 c hc) (fun c5 hM => ?_)
  refine g_if_eq (tgt := 35) hC dX11_joined_20 rfl (by decide) hM (fun hM => ?_) (fun hM => ?_)
  · refine g_iconst (v := -1) hC dX11_joined_35 rfl ic_m1 ?_
    obtain rfl := Option.some.inj hM
    exact g_reti hR dX11_joined_36 rfl
  · refine g_aload_n hC dX11_joined_23 rfl 1 rfl ?_
    refine fg_10_12 hC h0 k_392 dX11_joined_24 rfl hM (fun j6 hj6 hM => ?_)
    refine g_iload_n hC dX11_joined_27 rfl 3 rfl ?_
    refine g_iload_n hC dX11_joined_28 rfl 0 rfl ?_
    refine g_callVi (As := [.int a2, .int y3]) (st' := []) (k := j6) (L' := 1) hC Y_X10_take I_X10_take k_790 ⟨by decide, by decide⟩ hj6 (ci := 9) (by decide) rfl dX11_joined_29 rfl rfl rfl (Nat.le_of_ble_eq_true rfl) ⟨Nat.zero_le _, Nat.zero_le _⟩ hM (fun c hc => c_X10_take (xE X) j6 hj6 a2 y3 c hc) (fun c7 hM => ?_)
    refine g_if_ne (tgt := 37) hC dX11_joined_32 rfl (by decide) hM (fun hM => ?_) (fun hM => ?_)
    · refine g_aload_n hC dX11_joined_37 rfl 1 rfl ?_
      refine fg_10_13 hC h0 k_393 dX11_joined_38 rfl hM (fun j8 hj8 hM => ?_)
      refine g_aload_n hC dX11_joined_41 rfl 1 rfl ?_
      refine fg_10_11 hC h0 k_391 dX11_joined_42 rfl hM (fun j9 hj9 hM => ?_)
      refine g_aload_n hC dX11_joined_45 rfl 1 rfl ?_
      refine fg_10_12 hC h0 k_392 dX11_joined_46 rfl hM (fun j10 hj10 hM => ?_)
      refine g_callVv0 (As := [vr X j9, vr X j10]) (st' := []) (k := j8) (L' := 1) hC Y_X10_cross I_X10_cross k_827 ⟨by decide, by decide⟩ hj8 (ci := 9) (by decide) rfl dX11_joined_49 rfl rfl rfl (Nat.le_of_ble_eq_true rfl) ⟨Nat.zero_le _, Nat.zero_le _⟩ hM (fun c hc => c_X10_cross (xE X) j8 hj8 j9 hj9 j10 hj10 c hc) (fun c11 hM => ?_)
      refine g_aload_n hC dX11_joined_52 rfl 1 rfl ?_
      refine fg_10_13 hC h0 k_393 dX11_joined_53 rfl hM (fun j12 hj12 hM => ?_)
      refine g_iload_n hC dX11_joined_56 rfl 0 rfl ?_
      refine g_callVi (As := [.int y3]) (st' := []) (k := j12) (L' := 3) hC Y_X10_numbered I_X10_numbered k_894 ⟨by decide, by decide⟩ hj12 (ci := 9) (by decide) rfl dX11_joined_57 rfl rfl rfl (Nat.le_of_ble_eq_true rfl) ⟨Nat.zero_le _, Nat.zero_le _⟩ hM (fun c hc => c_X10_numbered (xE X) j12 hj12 y3 c hc) (fun c13 hM => ?_)
      cases hM
      exact g_reti hR dX11_joined_60 rfl
    · refine g_iconst (v := -1) hC dX11_joined_35 rfl ic_m1 ?_
      obtain rfl := Option.some.inj hM
      exact g_reti hR dX11_joined_36 rfl
def MX11_marked (σ : Sto) (ρ : Rho) (a0 : Nat) (a1 : Int32) : Option (Int32) :=
  Option.bind (ρ a0 0) fun j1 =>
  Option.bind (ρ j1 0) fun j2 =>
  Option.bind (MX8_markAt σ ρ j2 a1) fun c3 =>
  some c3
set_option maxHeartbeats 4000000 in
set_option maxRecDepth 100000 in
theorem c_X11_marked (E : EX) {n : Nat} {σ : Sto} {ρ : Rho} (a0 : Nat) (h0 : Sh n a0 10) (a1 : Int32) (res : Int32) (hM : MX11_marked σ ρ a0 a1 = some res) : CTi E yX11_marked cX11_marked 2 (some .int) 1 [.ref (eb E + a0), .int a1] n σ ρ res σ ρ := by
  refine ct_i (by decide +kernel) rfl (Nat.le_of_ble_eq_true rfl) (fun X hE hml hC hR => ?_)
  subst hE
  show G X 0 0 n σ ρ 0 [(0, vr X a0), (1, .int a1)] []
  replace hC : Cx X cX11_marked RX11 1 := hC
  unfold MX11_marked at hM
  refine g_aload_n hC dX11_marked_0 rfl 0 rfl ?_
  refine fg_10_0 hC h0 k_380 dX11_marked_1 rfl hM (fun j1 hj1 hM => ?_)
  refine fg_3_0 hC hj1 k_172 dX11_marked_4 rfl hM (fun j2 hj2 hM => ?_)
  refine g_iload_n hC dX11_marked_7 rfl 1 rfl ?_
  refine g_callVi (As := [.int a1]) (st' := []) (k := j2) (L' := 0) hC Y_X8_markAt I_X8_markAt k_826 ⟨by decide, by decide⟩ hj2 (ci := 7) (by decide) rfl dX11_marked_8 rfl rfl rfl (Nat.le_of_ble_eq_true rfl) ⟨Nat.zero_le _, Nat.zero_le _⟩ hM (fun c hc => c_X8_markAt (xE X) j2 hj2 a1 c hc) (fun c3 hM => ?_)
  cases hM
  exact g_reti hR dX11_marked_11 rfl
def MX11_takeBoth (σ : Sto) (ρ : Rho) (a0 : Nat) (a1 : Int32) (a2 : Int32) : Option (Int32 × Sto) :=
  Option.bind (MX11_isConic a1) fun c1 =>
  if c1 = 0 then
    zr ((0 : Int32)) (some ((0 : Int32), σ))
  else
    Option.bind (ρ a0 11) fun j2 =>
    Option.bind (ρ a0 0) fun j3 =>
    Option.bind (ρ j3 0) fun j4 =>
    Option.bind (MX10_take σ j2 a2 ((σ j4 0))) fun c5 =>
    if c5.1 = 0 then
      zr ((0 : Int32)) (some ((0 : Int32), c5.2))
    else
      Option.bind (ρ a0 7) fun j6 =>
      Option.bind (ρ a0 0) fun j7 =>
      Option.bind (ρ j7 0) fun j8 =>
      Option.bind (MX0_take c5.2 ρ j6 j8 a1) fun c9 =>
      zr ((1 : Int32)) (some ((1 : Int32), c9))
set_option maxHeartbeats 4000000 in
set_option maxRecDepth 100000 in
theorem c_X11_takeBoth (E : EX) {n : Nat} {σ : Sto} {ρ : Rho} (a0 : Nat) (h0 : Sh n a0 10) (a1 : Int32) (a2 : Int32) (res : Int32 × Sto) (hM : MX11_takeBoth σ ρ a0 a1 a2 = some res) : CTi E yX11_takeBoth cX11_takeBoth 3 (some .boolean) 4 [.ref (eb E + a0), .int a1, .int a2] n σ ρ res.1 res.2 ρ := by
  refine ct_i (by decide +kernel) rfl (Nat.le_of_ble_eq_true rfl) (fun X hE hml hC hR => ?_)
  subst hE
  show G X 0 0 n σ ρ 0 [(0, vr X a0), (1, .int a1), (2, .int a2)] []
  replace hC : Cx X cX11_takeBoth RX11 4 := hC
  unfold MX11_takeBoth at hM
  refine g_iload_n hC dX11_takeBoth_0 rfl 1 rfl ?_
  refine g_callSi (As := [.int a1]) (st' := []) (L' := 0) hC Y_X11_isConic k_559 k_658 ⟨by decide, by decide⟩ dX11_takeBoth_1 rfl rfl rfl (Nat.le_of_ble_eq_true rfl) ⟨Nat.zero_le _, Nat.zero_le _⟩ hM (fun c hc => c_X11_isConic (xE X) a1 c hc) (fun c1 hM => ?_)
  refine g_if_eq (tgt := 28) hC dX11_takeBoth_4 rfl (by decide) hM (fun hM => ?_) (fun hM => ?_)
  · refine g_iconst (v := 0) hC dX11_takeBoth_28 rfl ic_0 ?_
    exact g_retz hM dX11_takeBoth_29 rfl (fun h => by cases h; exact hR)
  · refine g_aload_n hC dX11_takeBoth_7 rfl 0 rfl ?_
    refine fg_10_11 hC h0 k_391 dX11_takeBoth_8 rfl hM (fun j2 hj2 hM => ?_)
    refine g_iload_n hC dX11_takeBoth_11 rfl 2 rfl ?_
    refine g_aload_n hC dX11_takeBoth_12 rfl 0 rfl ?_
    refine fg_10_0 hC h0 k_380 dX11_takeBoth_13 rfl hM (fun j3 hj3 hM => ?_)
    refine fg_3_0 hC hj3 k_172 dX11_takeBoth_16 rfl hM (fun j4 hj4 hM => ?_)
    refine fg_7_0 hC hj4 k_138 dX11_takeBoth_19 rfl ?_
    refine g_callVi (As := [.int a2, .int ((σ j4 0))]) (st' := []) (k := j2) (L' := 1) hC Y_X10_take I_X10_take k_790 ⟨by decide, by decide⟩ hj2 (ci := 9) (by decide) rfl dX11_takeBoth_22 rfl rfl rfl (Nat.le_of_ble_eq_true rfl) ⟨Nat.zero_le _, Nat.zero_le _⟩ hM (fun c hc => c_X10_take (xE X) j2 hj2 a2 ((σ j4 0)) c hc) (fun c5 hM => ?_)
    refine g_if_ne (tgt := 30) hC dX11_takeBoth_25 rfl (by decide) hM (fun hM => ?_) (fun hM => ?_)
    · refine g_aload_n hC dX11_takeBoth_30 rfl 0 rfl ?_
      refine fg_10_7 hC h0 k_387 dX11_takeBoth_31 rfl hM (fun j6 hj6 hM => ?_)
      refine g_aload_n hC dX11_takeBoth_34 rfl 0 rfl ?_
      refine fg_10_0 hC h0 k_380 dX11_takeBoth_35 rfl hM (fun j7 hj7 hM => ?_)
      refine fg_3_0 hC hj7 k_172 dX11_takeBoth_38 rfl hM (fun j8 hj8 hM => ?_)
      refine g_iload_n hC dX11_takeBoth_41 rfl 1 rfl ?_
      refine g_callVv0 (As := [vr X j8, .int a1]) (st' := []) (k := j6) (L' := 3) hC Y_X0_take I_X0_take k_689 ⟨by decide, by decide⟩ hj6 (ci := 0) (by decide) rfl dX11_takeBoth_42 rfl rfl rfl (Nat.le_of_ble_eq_true rfl) ⟨Nat.zero_le _, Nat.zero_le _⟩ hM (fun c hc => c_X0_take (xE X) j6 hj6 j8 hj8 a1 c hc) (fun c9 hM => ?_)
      refine g_iconst (v := 1) hC dX11_takeBoth_45 rfl ic_1 ?_
      exact g_retz hM dX11_takeBoth_46 rfl (fun h => by cases h; exact hR)
    · refine g_iconst (v := 0) hC dX11_takeBoth_28 rfl ic_0 ?_
      exact g_retz hM dX11_takeBoth_29 rfl (fun h => by cases h; exact hR)
def MX11_tangentsThroughSpot (σ : Sto) (ρ : Rho) (a0 : Nat) : Option (Int32 × Sto) :=
  Option.bind (ρ a0 0) fun j1 =>
  Option.bind (ρ j1 0) fun j2 =>
  bn ((σ j2 0)) fun y3 =>
  Option.bind (ρ a0 7) fun j4 =>
  Option.bind (ρ a0 11) fun j5 =>
  Option.bind (ρ a0 13) fun j6 =>
  Option.bind (MX0_polarOf σ ρ j4 j5 j6) fun c7 =>
  Option.bind (ρ a0 13) fun j8 =>
  Option.bind (ρ a0 13) fun j9 =>
  Option.bind (MX10_numbered c7 j9 y3) fun c10 =>
  Option.bind (MX10_take c7 j8 c10 y3) fun c11 =>
  if c11.1 = 0 then
    some ((0 : Int32), c11.2)
  else
    Option.bind (ρ a0 7) fun j12 =>
    Option.bind (ρ a0 13) fun j13 =>
    Option.bind (MX0_crossings c11.2 ρ j12 j13) fun c14 =>
    some (c14, c11.2)
set_option maxHeartbeats 4000000 in
set_option maxRecDepth 100000 in
theorem c_X11_tangentsThroughSpot (E : EX) {n : Nat} {σ : Sto} {ρ : Rho} (a0 : Nat) (h0 : Sh n a0 10) (res : Int32 × Sto) (hM : MX11_tangentsThroughSpot σ ρ a0 = some res) : CTi E yX11_tangentsThroughSpot cX11_tangentsThroughSpot 2 (some .int) 5 [.ref (eb E + a0)] n σ ρ res.1 res.2 ρ := by
  refine ct_i (by decide +kernel) rfl (Nat.le_of_ble_eq_true rfl) (fun X hE hml hC hR => ?_)
  subst hE
  show G X 0 0 n σ ρ 0 [(0, vr X a0)] []
  replace hC : Cx X cX11_tangentsThroughSpot RX11 5 := hC
  unfold MX11_tangentsThroughSpot at hM
  refine g_aload_n hC dX11_tangentsThroughSpot_0 rfl 0 rfl ?_
  refine fg_10_0 hC h0 k_380 dX11_tangentsThroughSpot_1 rfl hM (fun j1 hj1 hM => ?_)
  refine fg_3_0 hC hj1 k_172 dX11_tangentsThroughSpot_4 rfl hM (fun j2 hj2 hM => ?_)
  refine fg_7_0 hC hj2 k_138 dX11_tangentsThroughSpot_7 rfl ?_
  refine g_istore_n hC (fun y3 => [(1, .int y3), (0, vr X a0)]) dX11_tangentsThroughSpot_10 rfl hM hml (by decide) (fun _ => rfl) (fun y3 hM => ?_)
  refine g_aload_n hC dX11_tangentsThroughSpot_11 rfl 1 rfl ?_
  refine fg_10_7 hC h0 k_387 dX11_tangentsThroughSpot_12 rfl hM (fun j4 hj4 hM => ?_)
  refine g_aload_n hC dX11_tangentsThroughSpot_15 rfl 1 rfl ?_
  refine fg_10_11 hC h0 k_391 dX11_tangentsThroughSpot_16 rfl hM (fun j5 hj5 hM => ?_)
  refine g_aload_n hC dX11_tangentsThroughSpot_19 rfl 1 rfl ?_
  refine fg_10_13 hC h0 k_393 dX11_tangentsThroughSpot_20 rfl hM (fun j6 hj6 hM => ?_)
  refine g_callVv0 (As := [vr X j5, vr X j6]) (st' := []) (k := j4) (L' := 1) hC Y_X0_polarOf I_X0_polarOf k_920 ⟨by decide, by decide⟩ hj4 (ci := 0) (by decide) rfl dX11_tangentsThroughSpot_23 rfl rfl rfl (Nat.le_of_ble_eq_true rfl) ⟨Nat.zero_le _, Nat.zero_le _⟩ hM (fun c hc => c_X0_polarOf (xE X) j4 hj4 j5 hj5 j6 hj6 c hc) (fun c7 hM => ?_)
  refine g_aload_n hC dX11_tangentsThroughSpot_26 rfl 1 rfl ?_
  refine fg_10_13 hC h0 k_393 dX11_tangentsThroughSpot_27 rfl hM (fun j8 hj8 hM => ?_)
  refine g_aload_n hC dX11_tangentsThroughSpot_30 rfl 1 rfl ?_
  refine fg_10_13 hC h0 k_393 dX11_tangentsThroughSpot_31 rfl hM (fun j9 hj9 hM => ?_)
  refine g_iload_n hC dX11_tangentsThroughSpot_34 rfl 0 rfl ?_
  refine g_callVi (As := [.int y3]) (st' := [vr X j8]) (k := j9) (L' := 3) hC Y_X10_numbered I_X10_numbered k_894 ⟨by decide, by decide⟩ hj9 (ci := 9) (by decide) rfl dX11_tangentsThroughSpot_35 rfl rfl rfl (Nat.le_of_ble_eq_true rfl) ⟨Nat.zero_le _, Nat.zero_le _⟩ hM (fun c hc => c_X10_numbered (xE X) j9 hj9 y3 c hc) (fun c10 hM => ?_)
  refine g_iload_n hC dX11_tangentsThroughSpot_38 rfl 0 rfl ?_
  refine g_callVi (As := [.int c10, .int y3]) (st' := []) (k := j8) (L' := 1) hC Y_X10_take I_X10_take k_790 ⟨by decide, by decide⟩ hj8 (ci := 9) (by decide) rfl dX11_tangentsThroughSpot_39 rfl rfl rfl (Nat.le_of_ble_eq_true rfl) ⟨Nat.zero_le _, Nat.zero_le _⟩ hM (fun c hc => c_X10_take (xE X) j8 hj8 c10 y3 c hc) (fun c11 hM => ?_)
  refine g_if_eq (tgt := 59) hC dX11_tangentsThroughSpot_42 rfl (by decide) hM (fun hM => ?_) (fun hM => ?_)
  · refine g_iconst (v := 0) hC dX11_tangentsThroughSpot_59 rfl ic_0 ?_
    cases hM
    exact g_reti hR dX11_tangentsThroughSpot_60 rfl
  · refine g_aload_n hC dX11_tangentsThroughSpot_45 rfl 1 rfl ?_
    refine fg_10_7 hC h0 k_387 dX11_tangentsThroughSpot_46 rfl hM (fun j12 hj12 hM => ?_)
    refine g_aload_n hC dX11_tangentsThroughSpot_49 rfl 1 rfl ?_
    refine fg_10_13 hC h0 k_393 dX11_tangentsThroughSpot_50 rfl hM (fun j13 hj13 hM => ?_)
    refine g_callVi (As := [vr X j13]) (st' := []) (k := j12) (L' := 4) hC Y_X0_crossings I_X0_crossings k_925 ⟨by decide, by decide⟩ hj12 (ci := 0) (by decide) rfl dX11_tangentsThroughSpot_53 rfl rfl rfl (Nat.le_of_ble_eq_true rfl) ⟨Nat.zero_le _, Nat.zero_le _⟩ hM (fun c hc => c_X0_crossings (xE X) j12 hj12 j13 hj13 c hc) (fun c14 hM => ?_)
    refine g_goto (tgt := 60) hC dX11_tangentsThroughSpot_56 rfl (by decide) ?_
    cases hM
    exact g_reti hR dX11_tangentsThroughSpot_60 rfl
def MX11_lies (σ : Sto) (ρ : Rho) (a0 : Nat) (a1 : Int32) (a2 : Int32) : Option (Int32 × Sto) :=
  Option.bind (MX11_takeBoth σ ρ a0 a1 a2) fun c1 =>
  if c1.1 = 0 then
    some ((-1 : Int32), c1.2)
  else
    Option.bind (ρ a0 7) fun j2 =>
    Option.bind (ρ a0 11) fun j3 =>
    Option.bind (MX0_valueAt c1.2 ρ j2 j3) fun c4 =>
    if c4 = 0 then
      some ((0 : Int32), c1.2)
    else
      Option.bind (ρ a0 7) fun j5 =>
      Option.bind (MX0_kind c1.2 ρ j5) fun c6 =>
      if c6 = (4 : Int32) then
        Option.bind (MX11_tangentsThroughSpot c1.2 ρ a0) fun c7 =>
        if c7.1 ≤ 0 then
          some ((2 : Int32), c7.2)
        else
          some ((1 : Int32), c7.2)
      else
        some ((3 : Int32), c1.2)
set_option maxHeartbeats 4000000 in
set_option maxRecDepth 100000 in
theorem c_X11_lies (E : EX) {n : Nat} {σ : Sto} {ρ : Rho} (a0 : Nat) (h0 : Sh n a0 10) (a1 : Int32) (a2 : Int32) (res : Int32 × Sto) (hM : MX11_lies σ ρ a0 a1 a2 = some res) : CTi E yX11_lies cX11_lies 3 (some .int) 6 [.ref (eb E + a0), .int a1, .int a2] n σ ρ res.1 res.2 ρ := by
  refine ct_i (by decide +kernel) rfl (Nat.le_of_ble_eq_true rfl) (fun X hE hml hC hR => ?_)
  subst hE
  show G X 0 0 n σ ρ 0 [(0, vr X a0), (1, .int a1), (2, .int a2)] []
  replace hC : Cx X cX11_lies RX11 6 := hC
  unfold MX11_lies at hM
  refine g_aload_n hC dX11_lies_0 rfl 0 rfl ?_
  refine g_iload_n hC dX11_lies_1 rfl 1 rfl ?_
  refine g_iload_n hC dX11_lies_2 rfl 2 rfl ?_
  refine g_callVi (As := [.int a1, .int a2]) (st' := []) (k := a0) (L' := 4) hC Y_X11_takeBoth I_X11_takeBoth k_911 ⟨by decide, by decide⟩ h0 (ci := 10) (by decide) rfl dX11_lies_3 rfl rfl rfl (Nat.le_of_ble_eq_true rfl) ⟨Nat.zero_le _, Nat.zero_le _⟩ hM (fun c hc => c_X11_takeBoth (xE X) a0 h0 a1 a2 c hc) (fun c1 hM => ?_)
  refine g_if_ne (tgt := 11) hC dX11_lies_6 rfl (by decide) hM (fun hM => ?_) (fun hM => ?_)
  · refine g_aload_n hC dX11_lies_11 rfl 0 rfl ?_
    refine fg_10_7 hC h0 k_387 dX11_lies_12 rfl hM (fun j2 hj2 hM => ?_)
    refine g_aload_n hC dX11_lies_15 rfl 0 rfl ?_
    refine fg_10_11 hC h0 k_391 dX11_lies_16 rfl hM (fun j3 hj3 hM => ?_)
    refine g_callVi (As := [vr X j3]) (st' := []) (k := j2) (L' := 2) hC Y_X0_valueAt I_X0_valueAt k_915 ⟨by decide, by decide⟩ hj2 (ci := 0) (by decide) rfl dX11_lies_19 rfl rfl rfl (Nat.le_of_ble_eq_true rfl) ⟨Nat.zero_le _, Nat.zero_le _⟩ hM (fun c hc => c_X0_valueAt (xE X) j2 hj2 j3 hj3 c hc) (fun c4 hM => ?_)
    refine g_if_ne (tgt := 27) hC dX11_lies_22 rfl (by decide) hM (fun hM => ?_) (fun hM => ?_)
    · refine g_aload_n hC dX11_lies_27 rfl 0 rfl ?_
      refine fg_10_7 hC h0 k_387 dX11_lies_28 rfl hM (fun j5 hj5 hM => ?_)
      refine g_callVi (As := []) (st' := []) (k := j5) (L' := 4) hC Y_X0_kind I_X0_kind k_704 ⟨by decide, by decide⟩ hj5 (ci := 0) (by decide) rfl dX11_lies_31 rfl rfl rfl (Nat.le_of_ble_eq_true rfl) ⟨Nat.zero_le _, Nat.zero_le _⟩ hM (fun c hc => c_X0_kind (xE X) j5 hj5 c hc) (fun c6 hM => ?_)
      refine g_iconst (v := 4) hC dX11_lies_34 rfl ic_4 ?_
      refine g_icmp_eq (tgt := 40) hC dX11_lies_35 rfl (by decide) hM (fun hM => ?_) (fun hM => ?_)
      · refine g_aload_n hC dX11_lies_40 rfl 0 rfl ?_
        refine g_callVi (As := []) (st' := []) (k := a0) (L' := 5) hC Y_X11_tangentsThroughSpot I_X11_tangentsThroughSpot k_916 ⟨by decide, by decide⟩ h0 (ci := 10) (by decide) rfl dX11_lies_41 rfl rfl rfl (Nat.le_of_ble_eq_true rfl) ⟨Nat.zero_le _, Nat.zero_le _⟩ hM (fun c hc => c_X11_tangentsThroughSpot (xE X) a0 h0 c hc) (fun c7 hM => ?_)
        refine g_if_le (tgt := 51) hC dX11_lies_44 rfl (by decide) hM (fun hM => ?_) (fun hM => ?_)
        · refine g_iconst (v := 2) hC dX11_lies_51 rfl ic_2 ?_
          cases hM
          exact g_reti hR dX11_lies_52 rfl
        · refine g_iconst (v := 1) hC dX11_lies_47 rfl ic_1 ?_
          refine g_goto (tgt := 52) hC dX11_lies_48 rfl (by decide) ?_
          cases hM
          exact g_reti hR dX11_lies_52 rfl
      · refine g_iconst (v := 3) hC dX11_lies_38 rfl ic_3 ?_
        cases hM
        exact g_reti hR dX11_lies_39 rfl
    · refine g_iconst (v := 0) hC dX11_lies_25 rfl ic_0 ?_
      cases hM
      exact g_reti hR dX11_lies_26 rfl
  · refine g_iconst (v := -1) hC dX11_lies_9 rfl ic_m1 ?_
    obtain rfl := Option.some.inj hM
    exact g_reti hR dX11_lies_10 rfl
