def MJ0_length_8abf5 (i : Nat) : Option Int32 := some (Int32.ofNat (stL.getD i 0) >>> ((0 : Int32) &&& 31))
def MJ0_charAt_5068e (i : Nat) (k : Int32) : Option Int32 := if k < 0 ∨ stL.getD i 0 ≤ k.toNatClampNeg then none else some (sch i k)
def BX12_firsts_49 (ρ : Rho) (a0 : Nat) (a1 : Int32) (σ : Sto) : Option (Sto) :=
  Option.bind (ρ a0 0) fun j1 =>
  Option.bind (ap σ j1 ((a1 + (36 : Int32))) ((7 : Int32))) fun σ2 =>
  some σ2
def FX12_firsts_25 (ρ : Rho) (a0 : Nat) (a1 : Int32) (k49 : Sto → Option (Sto)) (rec : Sto → Int32 → Option (Sto)) (σ : Sto) (v2 : Int32) : Option (Sto) :=
  if (6 : Int32) ≤ v2 then
    k49 σ
  else
    Option.bind (ρ a0 0) fun j1 =>
    Option.bind (ap σ j1 ((a1 + ((6 : Int32) * v2))) ((1 : Int32))) fun σ2 =>
    bn (v2 + (1 : Int32)) fun y3 =>
    rec σ2 y3
def BX12_firsts_23 (ρ : Rho) (a0 : Nat) (a1 : Int32) (σ : Sto) : Option (Sto) :=
  bn ((0 : Int32)) fun y1 =>
  fixN (fun _ _ => none) (FX12_firsts_25 ρ a0 a1 (BX12_firsts_49 ρ a0 a1)) FU σ y1
def FX12_firsts_2 (ρ : Rho) (a0 : Nat) (a1 : Int32) (k23 : Sto → Option (Sto)) (rec : Sto → Int32 → Option (Sto)) (σ : Sto) (v2 : Int32) : Option (Sto) :=
  if (46 : Int32) ≤ v2 then
    k23 σ
  else
    Option.bind (ρ a0 0) fun j1 =>
    Option.bind (ap σ j1 ((a1 + v2)) ((0 : Int32))) fun σ2 =>
    bn (v2 + (1 : Int32)) fun y3 =>
    rec σ2 y3
def MX12_firsts (σ : Sto) (ρ : Rho) (a0 : Nat) (a1 : Int32) : Option (Sto) :=
  bn ((0 : Int32)) fun y1 =>
  fixN (fun _ _ => none) (FX12_firsts_2 ρ a0 a1 (BX12_firsts_23 ρ a0 a1)) FU σ y1
def MX12_isIn (a0 : Int32) (a1 : Int32) (a2 : Int32) : Option (Int32) :=
  if a0 < a1 then
    zr ((0 : Int32)) (some (0 : Int32))
  else
    if a2 < a0 then
      zr ((0 : Int32)) (some (0 : Int32))
    else
      zr ((1 : Int32)) (some (1 : Int32))
def FX12_copies_3 (ρ : Rho) (a0 : Nat) (a1 : Int32) (a2 : Int32) (a3 : Int32) (rec : Sto → Int32 → Option (Sto)) (σ : Sto) (v4 : Int32) : Option (Sto) :=
  if a3 ≤ v4 then
    some σ
  else
    Option.bind (ρ a0 0) fun j1 =>
    Option.bind (ρ a0 0) fun j2 =>
    Option.bind (ag σ j2 ((a1 + v4))) fun x3 =>
    Option.bind (ap σ j1 ((a2 + v4)) x3) fun σ4 =>
    bn (v4 + (1 : Int32)) fun y5 =>
    rec σ4 y5
def MX12_copies (σ : Sto) (ρ : Rho) (a0 : Nat) (a1 : Int32) (a2 : Int32) (a3 : Int32) : Option (Sto) :=
  bn ((0 : Int32)) fun y1 =>
  fixN (fun _ _ => none) (FX12_copies_3 ρ a0 a1 a2 a3) FU σ y1
def MX12_isPrime (a0 : Int32) : Option (Int32) :=
  if a0 = (3 : Int32) then
    zr ((1 : Int32)) (some (1 : Int32))
  else
    if a0 = (5 : Int32) then
      zr ((1 : Int32)) (some (1 : Int32))
    else
      if a0 = (7 : Int32) then
        zr ((1 : Int32)) (some (1 : Int32))
      else
        if a0 = (11 : Int32) then
          zr ((1 : Int32)) (some (1 : Int32))
        else
          if a0 = (13 : Int32) then
            zr ((1 : Int32)) (some (1 : Int32))
          else
            if a0 = (17 : Int32) then
              zr ((1 : Int32)) (some (1 : Int32))
            else
              if a0 = (19 : Int32) then
                zr ((1 : Int32)) (some (1 : Int32))
              else
                if a0 = (23 : Int32) then
                  zr ((1 : Int32)) (some (1 : Int32))
                else
                  zr ((0 : Int32)) (some (0 : Int32))
def MX12_rest (σ : Sto) (a0 : Nat) (a1 : Int32) : Option (Int32) :=
  Option.bind (rmi a1 ((σ a0 7))) fun z1 =>
  Option.bind (rmi ((z1 + (σ a0 7))) ((σ a0 7))) fun z2 =>
  some z2
def FX12_inverse_2 (σ : Sto) (a0 : Nat) (a1 : Int32) (rec : Int32 → Option (Int32)) (v2 : Int32) : Option (Int32) :=
  Option.bind (rmi ((a1 * v2)) ((σ a0 7))) fun z1 =>
  if z1 = (1 : Int32) then
    some v2
  else
    bn (v2 + (1 : Int32)) fun y2 =>
    rec y2
def MX12_inverse (σ : Sto) (a0 : Nat) (a1 : Int32) : Option (Int32) :=
  bn ((1 : Int32)) fun y1 =>
  fixN (fun _ => none) (FX12_inverse_2 σ a0 a1) FU y1
def MX12_places (σ : Sto) (a0 : Nat) : Option (Int32) :=
  some ((((σ a0 7) * (σ a0 7)) + (σ a0 7)) + (1 : Int32))
def BX12_laysPlace_127 (a0 : Nat) (a1 : Int32) (σ : Sto) (t0 : Nat) (t1 : Int32) : Option (Sto) :=
  bn (su σ t0 10 t1) fun σ1 =>
  some σ1
def BX12_laysPlace_68 (a0 : Nat) (a1 : Int32) (σ : Sto) (t0 : Nat) (t1 : Int32) : Option (Sto) :=
  bn (su σ t0 9 t1) fun σ1 =>
  if ((σ1 a0 7) * (σ1 a0 7)) ≤ a1 then
    if (((σ1 a0 7) * (σ1 a0 7)) + (σ1 a0 7)) ≤ a1 then
      BX12_laysPlace_127 a0 a1 σ1 a0 ((1 : Int32))
    else
      BX12_laysPlace_127 a0 a1 σ1 a0 ((a1 - ((σ1 a0 7) * (σ1 a0 7))))
  else
    Option.bind (rmi a1 ((σ1 a0 7))) fun z2 =>
    BX12_laysPlace_127 a0 a1 σ1 a0 z2
def BX12_laysPlace_19 (a0 : Nat) (a1 : Int32) (σ : Sto) (t0 : Nat) (t1 : Int32) : Option (Sto) :=
  bn (su σ t0 8 t1) fun σ1 =>
  if ((σ1 a0 7) * (σ1 a0 7)) ≤ a1 then
    if (((σ1 a0 7) * (σ1 a0 7)) + (σ1 a0 7)) ≤ a1 then
      BX12_laysPlace_68 a0 a1 σ1 a0 ((0 : Int32))
    else
      BX12_laysPlace_68 a0 a1 σ1 a0 ((1 : Int32))
  else
    Option.bind (dvi a1 ((σ1 a0 7))) fun z2 =>
    BX12_laysPlace_68 a0 a1 σ1 a0 z2
def MX12_laysPlace (σ : Sto) (a0 : Nat) (a1 : Int32) : Option (Sto) :=
  if ((σ a0 7) * (σ a0 7)) ≤ a1 then
    BX12_laysPlace_19 a0 a1 σ a0 ((0 : Int32))
  else
    BX12_laysPlace_19 a0 a1 σ a0 ((1 : Int32))
def MX12_numberOf (σ : Sto) (a0 : Nat) (a1 : Int32) (a2 : Int32) (a3 : Int32) : Option (Int32) :=
  Option.bind (MX12_rest σ a0 a1) fun c1 =>
  bn c1 fun y2 =>
  Option.bind (MX12_rest σ a0 a2) fun c3 =>
  bn c3 fun y4 =>
  Option.bind (MX12_rest σ a0 a3) fun c5 =>
  bn c5 fun y6 =>
  if y2 = 0 then
    if y4 = 0 then
      if y6 = 0 then
        some (-1 : Int32)
      else
        some (((σ a0 7) * (σ a0 7)) + (σ a0 7))
    else
      Option.bind (MX12_inverse σ a0 y4) fun c7 =>
      Option.bind (rmi ((y6 * c7)) ((σ a0 7))) fun z8 =>
      some (((σ a0 7) * (σ a0 7)) + z8)
  else
    Option.bind (MX12_inverse σ a0 y2) fun c9 =>
    Option.bind (rmi ((y4 * c9)) ((σ a0 7))) fun z10 =>
    Option.bind (MX12_inverse σ a0 y2) fun c11 =>
    Option.bind (rmi ((y6 * c11)) ((σ a0 7))) fun z12 =>
    some (((σ a0 7) * z10) + z12)
def MX12_isOnLine (σ : Sto) (a0 : Nat) (a1 : Int32) (a2 : Int32) : Option (Int32 × Sto) :=
  Option.bind (MX12_laysPlace σ a0 a2) fun c1 =>
  bn ((c1 a0 8)) fun y2 =>
  bn ((c1 a0 9)) fun y3 =>
  bn ((c1 a0 10)) fun y4 =>
  Option.bind (MX12_laysPlace c1 a0 a1) fun c5 =>
  Option.bind (rmi ((((y2 * (c5 a0 8)) + (y3 * (c5 a0 9))) + (y4 * (c5 a0 10)))) ((c5 a0 7))) fun z6 =>
  if z6 = 0 then
    zr ((1 : Int32)) (some ((1 : Int32), c5))
  else
    zr ((0 : Int32)) (some ((0 : Int32), c5))
def FX12_laysConic_15 (ρ : Rho) (a0 : Nat) (a1 : Int32) (a2 : Int32) (rec : Sto → Int32 → Option (Sto)) (σ : Sto) (v3 : Int32) : Option (Sto) :=
  if (6 : Int32) ≤ v3 then
    some σ
  else
    Option.bind (ρ a0 11) fun j1 =>
    Option.bind (ρ a0 0) fun j2 =>
    Option.bind (ag σ j2 (((a1 + ((6 : Int32) * a2)) + v3))) fun x3 =>
    Option.bind (MX12_rest σ a0 x3) fun c4 =>
    Option.bind (ap σ j1 v3 c4) fun σ5 =>
    bn (v3 + (1 : Int32)) fun y6 =>
    rec σ5 y6
def MX12_laysConic (σ : Sto) (ρ : Rho) (a0 : Nat) (a1 : Int32) (a2 : Int32) : Option (Sto) :=
  Option.bind (ρ a0 0) fun j1 =>
  Option.bind (ag σ j1 ((a1 + (36 : Int32)))) fun x2 =>
  bn (su σ a0 7 x2) fun σ3 =>
  bn ((0 : Int32)) fun y4 =>
  fixN (fun _ _ => none) (FX12_laysConic_15 ρ a0 a1 a2) FU σ3 y4
def BX12_isVoid_25 (σ : Sto) (ρ : Rho) (a0 : Nat) (v1 : Int32) : Option (Int32) :=
  if v1 = 0 then
    zr ((1 : Int32)) (some (1 : Int32))
  else
    zr ((0 : Int32)) (some (0 : Int32))
def FX12_isVoid_4 (σ : Sto) (ρ : Rho) (a0 : Nat) (k25 : Int32 → Option (Int32)) (rec : Int32 → Int32 → Option (Int32)) (v1 : Int32) (v2 : Int32) : Option (Int32) :=
  if (6 : Int32) ≤ v2 then
    k25 v1
  else
    Option.bind (ρ a0 11) fun j1 =>
    Option.bind (ag σ j1 v2) fun x2 =>
    bn ((v1 + x2)) fun y3 =>
    bn (v2 + (1 : Int32)) fun y4 =>
    rec y3 y4
def MX12_isVoid (σ : Sto) (ρ : Rho) (a0 : Nat) : Option (Int32) :=
  bn ((0 : Int32)) fun y1 =>
  bn ((0 : Int32)) fun y2 =>
  fixN (fun _ _ => none) (FX12_isVoid_4 σ ρ a0 (BX12_isVoid_25 σ ρ a0)) FU y1 y2
def MX12_isOn (σ : Sto) (ρ : Rho) (a0 : Nat) (a1 : Int32) : Option (Int32 × Sto) :=
  Option.bind (MX12_laysPlace σ a0 a1) fun c1 =>
  Option.bind (ρ a0 11) fun j2 =>
  Option.bind (ag c1 j2 ((0 : Int32))) fun x3 =>
  Option.bind (ρ a0 11) fun j4 =>
  Option.bind (ag c1 j4 ((1 : Int32))) fun x5 =>
  Option.bind (ρ a0 11) fun j6 =>
  Option.bind (ag c1 j6 ((2 : Int32))) fun x7 =>
  Option.bind (ρ a0 11) fun j8 =>
  Option.bind (ag c1 j8 ((3 : Int32))) fun x9 =>
  Option.bind (ρ a0 11) fun j10 =>
  Option.bind (ag c1 j10 ((4 : Int32))) fun x11 =>
  Option.bind (ρ a0 11) fun j12 =>
  Option.bind (ag c1 j12 ((5 : Int32))) fun x13 =>
  Option.bind (rmi ((((((((x3 * (c1 a0 8)) * (c1 a0 8)) + ((x5 * (c1 a0 9)) * (c1 a0 9))) + ((x7 * (c1 a0 10)) * (c1 a0 10))) + ((x9 * (c1 a0 9)) * (c1 a0 10))) + ((x11 * (c1 a0 10)) * (c1 a0 8))) + ((x13 * (c1 a0 8)) * (c1 a0 9)))) ((c1 a0 7))) fun z14 =>
  if z14 = 0 then
    zr ((1 : Int32)) (some ((1 : Int32), c1))
  else
    zr ((0 : Int32)) (some ((0 : Int32), c1))
def MX12_polarOf (σ : Sto) (ρ : Rho) (a0 : Nat) (a1 : Int32) : Option (Int32 × Sto) :=
  Option.bind (MX12_laysPlace σ a0 a1) fun c1 =>
  Option.bind (ρ a0 11) fun j2 =>
  Option.bind (ag c1 j2 ((0 : Int32))) fun x3 =>
  Option.bind (ρ a0 11) fun j4 =>
  Option.bind (ag c1 j4 ((5 : Int32))) fun x5 =>
  Option.bind (ρ a0 11) fun j6 =>
  Option.bind (ag c1 j6 ((4 : Int32))) fun x7 =>
  bn ((((((2 : Int32) * x3) * (c1 a0 8)) + (x5 * (c1 a0 9))) + (x7 * (c1 a0 10)))) fun y8 =>
  Option.bind (ρ a0 11) fun j9 =>
  Option.bind (ag c1 j9 ((5 : Int32))) fun x10 =>
  Option.bind (ρ a0 11) fun j11 =>
  Option.bind (ag c1 j11 ((1 : Int32))) fun x12 =>
  Option.bind (ρ a0 11) fun j13 =>
  Option.bind (ag c1 j13 ((3 : Int32))) fun x14 =>
  bn ((((x10 * (c1 a0 8)) + (((2 : Int32) * x12) * (c1 a0 9))) + (x14 * (c1 a0 10)))) fun y15 =>
  Option.bind (ρ a0 11) fun j16 =>
  Option.bind (ag c1 j16 ((4 : Int32))) fun x17 =>
  Option.bind (ρ a0 11) fun j18 =>
  Option.bind (ag c1 j18 ((3 : Int32))) fun x19 =>
  Option.bind (ρ a0 11) fun j20 =>
  Option.bind (ag c1 j20 ((2 : Int32))) fun x21 =>
  bn ((((x17 * (c1 a0 8)) + (x19 * (c1 a0 9))) + (((2 : Int32) * x21) * (c1 a0 10)))) fun y22 =>
  Option.bind (MX12_numberOf c1 a0 y8 y15 y22) fun c23 =>
  some (c23, c1)
def BX12_pointsOn_26 (ρ : Rho) (a0 : Nat) (rec : Sto → Int32 → Int32 → Option (Int32 × Sto)) (σ : Sto) (v2 : Int32) (t0 : Int32) (t1 : Int32) : Option (Int32 × Sto) :=
  bn ((t0 + t1)) fun y1 =>
  bn (v2 + (1 : Int32)) fun y2 =>
  rec σ y1 y2
def FX12_pointsOn_4 (ρ : Rho) (a0 : Nat) (rec : Sto → Int32 → Int32 → Option (Int32 × Sto)) (σ : Sto) (v1 : Int32) (v2 : Int32) : Option (Int32 × Sto) :=
  Option.bind (MX12_places σ a0) fun c1 =>
  if c1 ≤ v2 then
    some (v1, σ)
  else
    Option.bind (MX12_isOn σ ρ a0 v2) fun c2 =>
    if c2.1 = 0 then
      BX12_pointsOn_26 ρ a0 rec c2.2 v2 v1 ((0 : Int32))
    else
      BX12_pointsOn_26 ρ a0 rec c2.2 v2 v1 ((1 : Int32))
def MX12_pointsOn (σ : Sto) (ρ : Rho) (a0 : Nat) : Option (Int32 × Sto) :=
  bn ((0 : Int32)) fun y1 =>
  bn ((0 : Int32)) fun y2 =>
  fixN (fun _ _ _ => none) (FX12_pointsOn_4 ρ a0) FU σ y1 y2
def BX12_isOfAll_29 (ρ : Rho) (a0 : Nat) (a1 : Int32) (rec : Sto → Int32 → Option (Int32 × Sto)) (σ : Sto) (v2 : Int32) : Option (Int32 × Sto) :=
  bn (v2 + (1 : Int32)) fun y1 =>
  rec σ y1
def FX12_isOfAll_2 (ρ : Rho) (a0 : Nat) (a1 : Int32) (rec : Sto → Int32 → Option (Int32 × Sto)) (σ : Sto) (v2 : Int32) : Option (Int32 × Sto) :=
  Option.bind (MX12_places σ a0) fun c1 =>
  if c1 ≤ v2 then
    zr ((1 : Int32)) (some ((1 : Int32), σ))
  else
    Option.bind (MX12_isOnLine σ a0 v2 a1) fun c2 =>
    if c2.1 = 0 then
      BX12_isOfAll_29 ρ a0 a1 rec c2.2 v2
    else
      Option.bind (MX12_isOn c2.2 ρ a0 v2) fun c3 =>
      if c3.1 = 0 then
        zr ((0 : Int32)) (some ((0 : Int32), c3.2))
      else
        BX12_isOfAll_29 ρ a0 a1 rec c3.2 v2
def MX12_isOfAll (σ : Sto) (ρ : Rho) (a0 : Nat) (a1 : Int32) : Option (Int32 × Sto) :=
  bn ((0 : Int32)) fun y1 =>
  fixN (fun _ _ => none) (FX12_isOfAll_2 ρ a0 a1) FU σ y1
def BX12_linesOn_26 (ρ : Rho) (a0 : Nat) (rec : Sto → Int32 → Int32 → Option (Int32 × Sto)) (σ : Sto) (v2 : Int32) (t0 : Int32) (t1 : Int32) : Option (Int32 × Sto) :=
  bn ((t0 + t1)) fun y1 =>
  bn (v2 + (1 : Int32)) fun y2 =>
  rec σ y1 y2
def FX12_linesOn_4 (ρ : Rho) (a0 : Nat) (rec : Sto → Int32 → Int32 → Option (Int32 × Sto)) (σ : Sto) (v1 : Int32) (v2 : Int32) : Option (Int32 × Sto) :=
  Option.bind (MX12_places σ a0) fun c1 =>
  if c1 ≤ v2 then
    some (v1, σ)
  else
    Option.bind (MX12_isOfAll σ ρ a0 v2) fun c2 =>
    if c2.1 = 0 then
      BX12_linesOn_26 ρ a0 rec c2.2 v2 v1 ((0 : Int32))
    else
      BX12_linesOn_26 ρ a0 rec c2.2 v2 v1 ((1 : Int32))
def MX12_linesOn (σ : Sto) (ρ : Rho) (a0 : Nat) : Option (Int32 × Sto) :=
  bn ((0 : Int32)) fun y1 =>
  bn ((0 : Int32)) fun y2 =>
  fixN (fun _ _ _ => none) (FX12_linesOn_4 ρ a0) FU σ y1 y2
def BX12_rank_293 (ρ : Rho) (a0 : Nat) (a1 : Int32) (a2 : Int32) (rec : Sto → Int32 → Int32 → Option (Int32 × Sto)) (σ : Sto) (v3 : Int32) (v4 : Int32) : Option (Int32 × Sto) :=
  bn (v4 + (1 : Int32)) fun y1 =>
  rec σ v3 y1
def BX12_rank_284 (ρ : Rho) (a0 : Nat) (a1 : Int32) (a2 : Int32) (rec : Sto → Int32 → Int32 → Int32 → Option (Int32 × Sto)) (k290 : Sto → Int32 → Int32 → Option (Int32 × Sto)) (σ : Sto) (v3 : Int32) (v4 : Int32) (v7 : Int32) : Option (Int32 × Sto) :=
  bn (v7 + (1 : Int32)) fun y1 =>
  rec σ v3 v4 y1
def FX12_rank_226 (ρ : Rho) (a0 : Nat) (a1 : Int32) (a2 : Int32) (k284 : Sto → Int32 → Int32 → Int32 → Option (Int32 × Sto)) (rec : Sto → Int32 → Int32 → Int32 → Int32 → Int32 → Option (Int32 × Sto)) (σ : Sto) (v3 : Int32) (v4 : Int32) (v7 : Int32) (v8 : Int32) (v9 : Int32) : Option (Int32 × Sto) :=
  if a2 ≤ v9 then
    k284 σ v3 v4 v7
  else
    Option.bind (ρ a0 12) fun j1 =>
    Option.bind (ρ a0 12) fun j2 =>
    Option.bind (ag σ j2 ((((6 : Int32) * v7) + v9))) fun x3 =>
    Option.bind (ρ a0 12) fun j4 =>
    Option.bind (ag σ j4 ((((6 : Int32) * v3) + v9))) fun x5 =>
    Option.bind (MX12_rest σ a0 ((x3 - (v8 * x5)))) fun c6 =>
    Option.bind (ap σ j1 ((((6 : Int32) * v7) + v9)) c6) fun σ7 =>
    bn (v9 + (1 : Int32)) fun y8 =>
    rec σ7 v3 v4 v7 v8 y8
def BX12_rank_290 (ρ : Rho) (a0 : Nat) (a1 : Int32) (a2 : Int32) (rec : Sto → Int32 → Int32 → Option (Int32 × Sto)) (σ : Sto) (v3 : Int32) (v4 : Int32) : Option (Int32 × Sto) :=
  bn (v3 + (1 : Int32)) fun y1 =>
  BX12_rank_293 ρ a0 a1 a2 rec σ y1 v4
def FX12_rank_188 (ρ : Rho) (a0 : Nat) (a1 : Int32) (a2 : Int32) (k290 : Sto → Int32 → Int32 → Option (Int32 × Sto)) (rec : Sto → Int32 → Int32 → Int32 → Option (Int32 × Sto)) (σ : Sto) (v3 : Int32) (v4 : Int32) (v7 : Int32) : Option (Int32 × Sto) :=
  if a1 ≤ v7 then
    k290 σ v3 v4
  else
    Option.bind (ρ a0 12) fun j1 =>
    Option.bind (ag σ j1 ((((6 : Int32) * v7) + v4))) fun x2 =>
    bn x2 fun y3 =>
    if v7 = v3 then
      BX12_rank_284 ρ a0 a1 a2 rec k290 σ v3 v4 v7
    else
      if y3 = 0 then
        BX12_rank_284 ρ a0 a1 a2 rec k290 σ v3 v4 v7
      else
        bn ((0 : Int32)) fun y4 =>
        fixN (fun _ _ _ _ _ _ => none) (FX12_rank_226 ρ a0 a1 a2 (BX12_rank_284 ρ a0 a1 a2 rec k290)) FU σ v3 v4 v7 y3 y4
def BX12_rank_185 (ρ : Rho) (a0 : Nat) (a1 : Int32) (a2 : Int32) (rec : Sto → Int32 → Int32 → Option (Int32 × Sto)) (σ : Sto) (v3 : Int32) (v4 : Int32) : Option (Int32 × Sto) :=
  bn ((0 : Int32)) fun y1 =>
  fixN (fun _ _ _ _ => none) (FX12_rank_188 ρ a0 a1 a2 (BX12_rank_290 ρ a0 a1 a2 rec)) FU σ v3 v4 y1
def FX12_rank_141 (ρ : Rho) (a0 : Nat) (a1 : Int32) (a2 : Int32) (k185 : Sto → Int32 → Int32 → Option (Int32 × Sto)) (rec : Sto → Int32 → Int32 → Int32 → Int32 → Option (Int32 × Sto)) (σ : Sto) (v3 : Int32) (v4 : Int32) (v6 : Int32) (v7 : Int32) : Option (Int32 × Sto) :=
  if a2 ≤ v7 then
    k185 σ v3 v4
  else
    Option.bind (ρ a0 12) fun j1 =>
    Option.bind (ρ a0 12) fun j2 =>
    Option.bind (ag σ j2 ((((6 : Int32) * v3) + v7))) fun x3 =>
    Option.bind (rmi ((x3 * v6)) ((σ a0 7))) fun z4 =>
    Option.bind (ap σ j1 ((((6 : Int32) * v3) + v7)) z4) fun σ5 =>
    bn (v7 + (1 : Int32)) fun y6 =>
    rec σ5 v3 v4 v6 y6
def BX12_rank_120 (ρ : Rho) (a0 : Nat) (a1 : Int32) (a2 : Int32) (rec : Sto → Int32 → Int32 → Option (Int32 × Sto)) (σ : Sto) (v3 : Int32) (v4 : Int32) : Option (Int32 × Sto) :=
  Option.bind (ρ a0 12) fun j1 =>
  Option.bind (ag σ j1 ((((6 : Int32) * v3) + v4))) fun x2 =>
  Option.bind (MX12_inverse σ a0 x2) fun c3 =>
  bn c3 fun y4 =>
  bn ((0 : Int32)) fun y5 =>
  fixN (fun _ _ _ _ _ => none) (FX12_rank_141 ρ a0 a1 a2 (BX12_rank_185 ρ a0 a1 a2 rec)) FU σ v3 v4 y4 y5
def FX12_rank_54 (ρ : Rho) (a0 : Nat) (a1 : Int32) (a2 : Int32) (k120 : Sto → Int32 → Int32 → Option (Int32 × Sto)) (rec : Sto → Int32 → Int32 → Int32 → Int32 → Option (Int32 × Sto)) (σ : Sto) (v3 : Int32) (v4 : Int32) (v5 : Int32) (v6 : Int32) : Option (Int32 × Sto) :=
  if a2 ≤ v6 then
    k120 σ v3 v4
  else
    Option.bind (ρ a0 12) fun j1 =>
    Option.bind (ag σ j1 ((((6 : Int32) * v5) + v6))) fun x2 =>
    bn x2 fun y3 =>
    Option.bind (ρ a0 12) fun j4 =>
    Option.bind (ρ a0 12) fun j5 =>
    Option.bind (ag σ j5 ((((6 : Int32) * v3) + v6))) fun x6 =>
    Option.bind (ap σ j4 ((((6 : Int32) * v5) + v6)) x6) fun σ7 =>
    Option.bind (ρ a0 12) fun j8 =>
    Option.bind (ap σ7 j8 ((((6 : Int32) * v3) + v6)) y3) fun σ9 =>
    bn (v6 + (1 : Int32)) fun y10 =>
    rec σ9 v3 v4 v5 y10
def BX12_rank_42 (ρ : Rho) (a0 : Nat) (a1 : Int32) (a2 : Int32) (rec : Sto → Int32 → Int32 → Option (Int32 × Sto)) (σ : Sto) (v3 : Int32) (v4 : Int32) (v5 : Int32) : Option (Int32 × Sto) :=
  if v5 = a1 then
    BX12_rank_293 ρ a0 a1 a2 rec σ v3 v4
  else
    bn ((0 : Int32)) fun y1 =>
    fixN (fun _ _ _ _ _ => none) (FX12_rank_54 ρ a0 a1 a2 (BX12_rank_120 ρ a0 a1 a2 rec)) FU σ v3 v4 v5 y1
def FX12_rank_14 (ρ : Rho) (a0 : Nat) (a1 : Int32) (a2 : Int32) (k42 : Sto → Int32 → Int32 → Int32 → Option (Int32 × Sto)) (rec : Sto → Int32 → Int32 → Int32 → Option (Int32 × Sto)) (σ : Sto) (v3 : Int32) (v4 : Int32) (v5 : Int32) : Option (Int32 × Sto) :=
  if a1 ≤ v5 then
    k42 σ v3 v4 v5
  else
    Option.bind (ρ a0 12) fun j1 =>
    Option.bind (ag σ j1 ((((6 : Int32) * v5) + v4))) fun x2 =>
    if x2 = 0 then
      bn (v5 + (1 : Int32)) fun y3 =>
      rec σ v3 v4 y3
    else
      k42 σ v3 v4 v5
def FX12_rank_5 (ρ : Rho) (a0 : Nat) (a1 : Int32) (a2 : Int32) (rec : Sto → Int32 → Int32 → Option (Int32 × Sto)) (σ : Sto) (v3 : Int32) (v4 : Int32) : Option (Int32 × Sto) :=
  if a2 ≤ v4 then
    some (v3, σ)
  else
    bn v3 fun y1 =>
    fixN (fun _ _ _ _ => none) (FX12_rank_14 ρ a0 a1 a2 (BX12_rank_42 ρ a0 a1 a2 rec)) FU σ v3 v4 y1
def MX12_rank (σ : Sto) (ρ : Rho) (a0 : Nat) (a1 : Int32) (a2 : Int32) : Option (Int32 × Sto) :=
  bn ((0 : Int32)) fun y1 =>
  bn ((0 : Int32)) fun y2 =>
  fixN (fun _ _ _ => none) (FX12_rank_5 ρ a0 a1 a2) FU σ y1 y2
def MX12_rankOf (σ : Sto) (ρ : Rho) (a0 : Nat) : Option (Int32 × Sto) :=
  Option.bind (ρ a0 12) fun j1 =>
  Option.bind (ρ a0 11) fun j2 =>
  Option.bind (ag σ j2 ((0 : Int32))) fun x3 =>
  Option.bind (rmi (((2 : Int32) * x3)) ((σ a0 7))) fun z4 =>
  Option.bind (ap σ j1 ((0 : Int32)) z4) fun σ5 =>
  Option.bind (ρ a0 12) fun j6 =>
  Option.bind (ρ a0 11) fun j7 =>
  Option.bind (ag σ5 j7 ((5 : Int32))) fun x8 =>
  Option.bind (ap σ5 j6 ((1 : Int32)) x8) fun σ9 =>
  Option.bind (ρ a0 12) fun j10 =>
  Option.bind (ρ a0 11) fun j11 =>
  Option.bind (ag σ9 j11 ((4 : Int32))) fun x12 =>
  Option.bind (ap σ9 j10 ((2 : Int32)) x12) fun σ13 =>
  Option.bind (ρ a0 12) fun j14 =>
  Option.bind (ρ a0 11) fun j15 =>
  Option.bind (ag σ13 j15 ((5 : Int32))) fun x16 =>
  Option.bind (ap σ13 j14 ((6 : Int32)) x16) fun σ17 =>
  Option.bind (ρ a0 12) fun j18 =>
  Option.bind (ρ a0 11) fun j19 =>
  Option.bind (ag σ17 j19 ((1 : Int32))) fun x20 =>
  Option.bind (rmi (((2 : Int32) * x20)) ((σ17 a0 7))) fun z21 =>
  Option.bind (ap σ17 j18 ((7 : Int32)) z21) fun σ22 =>
  Option.bind (ρ a0 12) fun j23 =>
  Option.bind (ρ a0 11) fun j24 =>
  Option.bind (ag σ22 j24 ((3 : Int32))) fun x25 =>
  Option.bind (ap σ22 j23 ((8 : Int32)) x25) fun σ26 =>
  Option.bind (ρ a0 12) fun j27 =>
  Option.bind (ρ a0 11) fun j28 =>
  Option.bind (ag σ26 j28 ((4 : Int32))) fun x29 =>
  Option.bind (ap σ26 j27 ((12 : Int32)) x29) fun σ30 =>
  Option.bind (ρ a0 12) fun j31 =>
  Option.bind (ρ a0 11) fun j32 =>
  Option.bind (ag σ30 j32 ((3 : Int32))) fun x33 =>
  Option.bind (ap σ30 j31 ((13 : Int32)) x33) fun σ34 =>
  Option.bind (ρ a0 12) fun j35 =>
  Option.bind (ρ a0 11) fun j36 =>
  Option.bind (ag σ34 j36 ((2 : Int32))) fun x37 =>
  Option.bind (rmi (((2 : Int32) * x37)) ((σ34 a0 7))) fun z38 =>
  Option.bind (ap σ34 j35 ((14 : Int32)) z38) fun σ39 =>
  Option.bind (MX12_rank σ39 ρ a0 ((3 : Int32)) ((3 : Int32))) fun c40 =>
  some (c40.1, c40.2)
def MX12_kindOf (σ : Sto) (ρ : Rho) (a0 : Nat) : Option (Int32 × Sto) :=
  Option.bind (MX12_rankOf σ ρ a0) fun c1 =>
  bn c1.1 fun y2 =>
  if y2 = 0 then
    some ((0 : Int32), c1.2)
  else
    if y2 = (1 : Int32) then
      some ((1 : Int32), c1.2)
    else
      if y2 = (3 : Int32) then
        some ((4 : Int32), c1.2)
      else
        Option.bind (MX12_linesOn c1.2 ρ a0) fun c3 =>
        if c3.1 ≤ 0 then
          some ((3 : Int32), c3.2)
        else
          some ((2 : Int32), c3.2)
def BX12_tangents_39 (ρ : Rho) (a0 : Nat) (a1 : Int32) (rec : Sto → Int32 → Int32 → Option (Int32 × Sto)) (σ : Sto) (v3 : Int32) (t0 : Int32) (t1 : Int32) : Option (Int32 × Sto) :=
  bn ((t0 + t1)) fun y1 =>
  bn (v3 + (1 : Int32)) fun y2 =>
  rec σ y1 y2
def BX12_tangents_38 (ρ : Rho) (a0 : Nat) (a1 : Int32) (rec : Sto → Int32 → Int32 → Option (Int32 × Sto)) (σ : Sto) (v3 : Int32) (t0 : Int32) : Option (Int32 × Sto) :=
  BX12_tangents_39 ρ a0 a1 rec σ v3 t0 ((0 : Int32))
def FX12_tangents_4 (ρ : Rho) (a0 : Nat) (a1 : Int32) (rec : Sto → Int32 → Int32 → Option (Int32 × Sto)) (σ : Sto) (v2 : Int32) (v3 : Int32) : Option (Int32 × Sto) :=
  Option.bind (MX12_places σ a0) fun c1 =>
  if c1 ≤ v3 then
    some (v2, σ)
  else
    Option.bind (MX12_isOn σ ρ a0 v3) fun c2 =>
    if c2.1 = 0 then
      BX12_tangents_38 ρ a0 a1 rec c2.2 v3 v2
    else
      Option.bind (MX12_polarOf c2.2 ρ a0 v3) fun c3 =>
      Option.bind (MX12_isOnLine c3.2 a0 a1 c3.1) fun c4 =>
      if c4.1 = 0 then
        BX12_tangents_38 ρ a0 a1 rec c4.2 v3 v2
      else
        BX12_tangents_39 ρ a0 a1 rec c4.2 v3 v2 ((1 : Int32))
def MX12_tangents (σ : Sto) (ρ : Rho) (a0 : Nat) (a1 : Int32) : Option (Int32 × Sto) :=
  bn ((0 : Int32)) fun y1 =>
  bn ((0 : Int32)) fun y2 =>
  fixN (fun _ _ _ => none) (FX12_tangents_4 ρ a0 a1) FU σ y1 y2
def MX12_liesOf (σ : Sto) (ρ : Rho) (a0 : Nat) (a1 : Int32) (a2 : Int32) : Option (Int32 × Sto) :=
  Option.bind (MX12_isOn σ ρ a0 a1) fun c1 =>
  if c1.1 = 0 then
    if a2 = (4 : Int32) then
      Option.bind (MX12_tangents c1.2 ρ a0 a1) fun c2 =>
      if c2.1 ≤ 0 then
        some ((2 : Int32), c2.2)
      else
        some ((1 : Int32), c2.2)
    else
      some ((3 : Int32), c1.2)
  else
    some ((0 : Int32), c1.2)
def BX12_sided_28 (ρ : Rho) (a0 : Nat) (a1 : Int32) (rec : Sto → Int32 → Int32 → Option (Int32 × Sto)) (σ : Sto) (v3 : Int32) (t0 : Int32) (t1 : Int32) : Option (Int32 × Sto) :=
  bn ((t0 + t1)) fun y1 =>
  bn (v3 + (1 : Int32)) fun y2 =>
  rec σ y1 y2
def FX12_sided_4 (ρ : Rho) (a0 : Nat) (a1 : Int32) (rec : Sto → Int32 → Int32 → Option (Int32 × Sto)) (σ : Sto) (v2 : Int32) (v3 : Int32) : Option (Int32 × Sto) :=
  Option.bind (MX12_places σ a0) fun c1 =>
  if c1 ≤ v3 then
    some (v2, σ)
  else
    Option.bind (MX12_liesOf σ ρ a0 v3 ((4 : Int32))) fun c2 =>
    if c2.1 = a1 then
      BX12_sided_28 ρ a0 a1 rec c2.2 v3 v2 ((1 : Int32))
    else
      BX12_sided_28 ρ a0 a1 rec c2.2 v3 v2 ((0 : Int32))
def MX12_sided (σ : Sto) (ρ : Rho) (a0 : Nat) (a1 : Int32) : Option (Int32 × Sto) :=
  bn ((0 : Int32)) fun y1 =>
  bn ((0 : Int32)) fun y2 =>
  fixN (fun _ _ _ => none) (FX12_sided_4 ρ a0 a1) FU σ y1 y2
def MX12_told (σ : Sto) (ρ : Rho) (a0 : Nat) (a1 : Int32) (a2 : Int32) : Option (Int32) :=
  bn (((6 : Int32) * a1)) fun y1 =>
  Option.bind (ρ a0 0) fun j2 =>
  Option.bind (ag σ j2 y1) fun x3 =>
  bn x3 fun y4 =>
  Option.bind (ρ a0 0) fun j5 =>
  Option.bind (ag σ j5 ((y1 + (1 : Int32)))) fun x6 =>
  bn x6 fun y7 =>
  Option.bind (ρ a0 0) fun j8 =>
  Option.bind (ag σ j8 ((y1 + (2 : Int32)))) fun x9 =>
  bn x9 fun y10 =>
  Option.bind (ρ a0 0) fun j11 =>
  Option.bind (ag σ j11 ((y1 + (3 : Int32)))) fun x12 =>
  bn x12 fun y13 =>
  Option.bind (ρ a0 0) fun j14 =>
  Option.bind (ag σ j14 ((y1 + (4 : Int32)))) fun x15 =>
  bn x15 fun y16 =>
  Option.bind (ρ a0 0) fun j17 =>
  Option.bind (ag σ j17 ((y1 + (5 : Int32)))) fun x18 =>
  bn x18 fun y19 =>
  if a2 = (3 : Int32) then
    some ((((4 : Int32) * y4) * y7) - (y19 * y19))
  else
    if a2 = (4 : Int32) then
      some ((((((((8 : Int32) * y4) * y7) * y10) + ((((2 : Int32) * y13) * y16) * y19)) - ((((2 : Int32) * y4) * y13) * y13)) - ((((2 : Int32) * y7) * y16) * y16)) - ((((2 : Int32) * y10) * y19) * y19))
    else
      some ((((((4 : Int32) * y7) * y10) - (y13 * y13)) + (((4 : Int32) * y4) * y10)) - (y16 * y16))
def BX12_turned_34 (a0 : Int32) (a1 : Int32) (t0 : Int32) (t1 : Int32) : Option (Int32) :=
  some (t0 * t1)
def BX12_turned_17 (a0 : Int32) (a1 : Int32) (t0 : Int32) : Option (Int32) :=
  if 0 ≤ a1 then
    if a1 ≤ 0 then
      BX12_turned_34 a0 a1 t0 ((0 : Int32))
    else
      BX12_turned_34 a0 a1 t0 ((1 : Int32))
  else
    BX12_turned_34 a0 a1 t0 ((-1 : Int32))
def MX12_turned (a0 : Int32) (a1 : Int32) : Option (Int32) :=
  if 0 ≤ a0 then
    if a0 ≤ 0 then
      BX12_turned_17 a0 a1 ((0 : Int32))
    else
      BX12_turned_17 a0 a1 ((1 : Int32))
  else
    BX12_turned_17 a0 a1 ((-1 : Int32))
def BX12_sort_123 (σ : Sto) (ρ : Rho) (a0 : Nat) (a1 : Int32) (v5 : Int32) : Option (Int32) :=
  if 0 ≤ v5 then
    if v5 ≤ 0 then
      some (8 : Int32)
    else
      some (7 : Int32)
  else
    some (6 : Int32)
def MX12_sort (σ : Sto) (ρ : Rho) (a0 : Nat) (a1 : Int32) : Option (Int32) :=
  bn (((6 : Int32) * a1)) fun y1 =>
  Option.bind (MX12_told σ ρ a0 a1 ((3 : Int32))) fun c2 =>
  bn c2 fun y3 =>
  Option.bind (MX12_told σ ρ a0 a1 ((4 : Int32))) fun c4 =>
  bn c4 fun y5 =>
  Option.bind (MX12_told σ ρ a0 a1 ((5 : Int32))) fun c6 =>
  bn c6 fun y7 =>
  if y5 = 0 then
    if y3 = 0 then
      Option.bind (ρ a0 0) fun j8 =>
      Option.bind (ag σ j8 y1) fun x9 =>
      if x9 = 0 then
        Option.bind (ρ a0 0) fun j10 =>
        Option.bind (ag σ j10 ((y1 + (1 : Int32)))) fun x11 =>
        if x11 = 0 then
          Option.bind (ρ a0 0) fun j12 =>
          Option.bind (ag σ j12 ((y1 + (5 : Int32)))) fun x13 =>
          if x13 = 0 then
            Option.bind (ρ a0 0) fun j14 =>
            Option.bind (ag σ j14 ((y1 + (3 : Int32)))) fun x15 =>
            if x15 = 0 then
              Option.bind (ρ a0 0) fun j16 =>
              Option.bind (ag σ j16 ((y1 + (4 : Int32)))) fun x17 =>
              if x17 = 0 then
                some (10 : Int32)
              else
                some (9 : Int32)
            else
              some (9 : Int32)
          else
            BX12_sort_123 σ ρ a0 a1 y7
        else
          BX12_sort_123 σ ρ a0 a1 y7
      else
        BX12_sort_123 σ ρ a0 a1 y7
    else
      if y3 ≤ 0 then
        some (5 : Int32)
      else
        some (4 : Int32)
  else
    if y3 ≤ 0 then
      if y3 = 0 then
        some (2 : Int32)
      else
        some (3 : Int32)
    else
      Option.bind (ρ a0 0) fun j18 =>
      Option.bind (ag σ j18 y1) fun x19 =>
      Option.bind (ρ a0 0) fun j20 =>
      Option.bind (ag σ j20 ((y1 + (1 : Int32)))) fun x21 =>
      Option.bind (MX12_turned y5 ((x19 + x21))) fun c22 =>
      if 0 ≤ c22 then
        some (1 : Int32)
      else
        some (0 : Int32)
def BX12_keeps_31 (ρ : Rho) (a0 : Nat) (σ : Sto) : Option (Sto) :=
  Option.bind (MX12_copies σ ρ a0 ((0 : Int32)) (((94 : Int32) + ((46 : Int32) * (σ a0 6)))) ((46 : Int32))) fun c1 =>
  bn (su c1 a0 6 (((c1 a0 6) + (1 : Int32)))) fun σ2 =>
  some σ2
def MX12_keeps (σ : Sto) (ρ : Rho) (a0 : Nat) : Option (Sto) :=
  if (σ a0 6) = (8 : Int32) then
    Option.bind (MX12_copies σ ρ a0 ((140 : Int32)) ((94 : Int32)) ((322 : Int32))) fun c1 =>
    bn (su c1 a0 6 (((c1 a0 6) - (1 : Int32)))) fun σ2 =>
    BX12_keeps_31 ρ a0 σ2
  else
    BX12_keeps_31 ρ a0 σ
def MX12_refused (σ : Sto) (ρ : Rho) (a0 : Nat) (a1 : Int32) (a2 : Int32) : Option (Int32 × Sto) :=
  Option.bind (ρ a0 0) fun j1 =>
  Option.bind (ap σ j1 ((46 : Int32)) a1) fun σ2 =>
  Option.bind (ρ a0 0) fun j3 =>
  Option.bind (ap σ2 j3 ((47 : Int32)) a2) fun σ4 =>
  some (a1, σ4)
def MX12_isConic (a0 : Int32) : Option (Int32) :=
  Option.bind (MX12_isIn a0 ((0 : Int32)) ((5 : Int32))) fun c1 =>
  zr c1 (some c1)
def MX12_isShort (a0 : Int32) : Option (Int32) :=
  Option.bind (MX12_isIn a0 ((-99 : Int32)) ((99 : Int32))) fun c1 =>
  zr c1 (some c1)
def BX12_whyNot_28 (σ : Sto) (ρ : Rho) (a0 : Nat) (rec : Int32 → Int32 → Option (Int32)) (k35 : Int32 → Option (Int32)) (v2 : Int32) (t0 : Int32) : Option (Int32) :=
  bn t0 fun y1 =>
  bn (v2 + (1 : Int32)) fun y2 =>
  rec y1 y2
def BX12_whyNot_23 (σ : Sto) (ρ : Rho) (a0 : Nat) (rec : Int32 → Int32 → Option (Int32)) (k35 : Int32 → Option (Int32)) (v2 : Int32) : Option (Int32) :=
  BX12_whyNot_28 σ ρ a0 rec k35 v2 ((1 : Int32))
def FX12_whyNot_43 (σ : Sto) (ρ : Rho) (a0 : Nat) (rec : Int32 → Option (Int32)) (v2 : Int32) : Option (Int32) :=
  if (6 : Int32) ≤ v2 then
    some (0 : Int32)
  else
    Option.bind (ρ a0 13) fun j1 =>
    Option.bind (ag σ j1 v2) fun x2 =>
    Option.bind (MX12_isShort x2) fun c3 =>
    if c3 = 0 then
      some (4 : Int32)
    else
      bn (v2 + (1 : Int32)) fun y4 =>
      rec y4
def BX12_whyNot_35 (σ : Sto) (ρ : Rho) (a0 : Nat) (v1 : Int32) : Option (Int32) :=
  if v1 = 0 then
    some (3 : Int32)
  else
    bn ((0 : Int32)) fun y1 =>
    fixN (fun _ => none) (FX12_whyNot_43 σ ρ a0) FU y1
def FX12_whyNot_4 (σ : Sto) (ρ : Rho) (a0 : Nat) (k35 : Int32 → Option (Int32)) (rec : Int32 → Int32 → Option (Int32)) (v1 : Int32) (v2 : Int32) : Option (Int32) :=
  if (6 : Int32) ≤ v2 then
    k35 v1
  else
    if v1 = 0 then
      Option.bind (ρ a0 13) fun j1 =>
      Option.bind (ag σ j1 v2) fun x2 =>
      if x2 = 0 then
        BX12_whyNot_28 σ ρ a0 rec k35 v2 ((0 : Int32))
      else
        BX12_whyNot_23 σ ρ a0 rec k35 v2
    else
      BX12_whyNot_23 σ ρ a0 rec k35 v2
def MX12_whyNot (σ : Sto) (ρ : Rho) (a0 : Nat) : Option (Int32) :=
  bn ((0 : Int32)) fun y1 =>
  bn ((0 : Int32)) fun y2 =>
  fixN (fun _ _ => none) (FX12_whyNot_4 σ ρ a0 (BX12_whyNot_35 σ ρ a0)) FU y1 y2
def FX12_takesIts_2 (ρ : Rho) (a0 : Nat) (a1 : Int32) (a2 : Int32) (rec : Sto → Int32 → Option (Sto)) (σ : Sto) (v3 : Int32) : Option (Sto) :=
  if (6 : Int32) ≤ v3 then
    some σ
  else
    Option.bind (ρ a0 0) fun j1 =>
    Option.bind (ρ a0 13) fun j2 =>
    Option.bind (ag σ j2 v3) fun x3 =>
    Option.bind (ap σ j1 (((a1 + ((6 : Int32) * a2)) + v3)) x3) fun σ4 =>
    bn (v3 + (1 : Int32)) fun y5 =>
    rec σ4 y5
def MX12_takesIts (σ : Sto) (ρ : Rho) (a0 : Nat) (a1 : Int32) (a2 : Int32) : Option (Sto) :=
  bn ((0 : Int32)) fun y1 =>
  fixN (fun _ _ => none) (FX12_takesIts_2 ρ a0 a1 a2) FU σ y1
def MX12_becomes (σ : Sto) (ρ : Rho) (a0 : Nat) (a1 : Int32) : Option (Int32 × Sto) :=
  Option.bind (MX12_whyNot σ ρ a0) fun c1 =>
  bn c1 fun y2 =>
  if y2 ≤ 0 then
    Option.bind (MX12_keeps σ ρ a0) fun c3 =>
    Option.bind (MX12_takesIts c3 ρ a0 ((0 : Int32)) a1) fun c4 =>
    Option.bind (MX12_refused c4 ρ a0 ((0 : Int32)) ((0 : Int32))) fun c5 =>
    some (c5.1, c5.2)
  else
    Option.bind (MX12_refused σ ρ a0 y2 ((0 : Int32))) fun c6 =>
    some (c6.1, c6.2)
def FX12_laysIts_2 (ρ : Rho) (a0 : Nat) (a1 : Int32) (rec : Sto → Int32 → Option (Sto)) (σ : Sto) (v2 : Int32) : Option (Sto) :=
  if (6 : Int32) ≤ v2 then
    some σ
  else
    Option.bind (ρ a0 13) fun j1 =>
    Option.bind (ρ a0 0) fun j2 =>
    Option.bind (ag σ j2 ((((6 : Int32) * a1) + v2))) fun x3 =>
    Option.bind (ap σ j1 v2 x3) fun σ4 =>
    bn (v2 + (1 : Int32)) fun y5 =>
    rec σ4 y5
def MX12_laysIts (σ : Sto) (ρ : Rho) (a0 : Nat) (a1 : Int32) : Option (Sto) :=
  bn ((0 : Int32)) fun y1 =>
  fixN (fun _ _ => none) (FX12_laysIts_2 ρ a0 a1) FU σ y1
def MX12_prime (σ : Sto) (ρ : Rho) (a0 : Nat) (a1 : Int32) : Option (Int32 × Sto) :=
  Option.bind (MX12_isPrime a1) fun c1 =>
  if c1 = 0 then
    Option.bind (MX12_refused σ ρ a0 ((1 : Int32)) ((0 : Int32))) fun c11 =>
    some (c11.1, c11.2)
  else
    Option.bind (ρ a0 0) fun j2 =>
    Option.bind (ag σ j2 ((36 : Int32))) fun x3 =>
    if a1 = x3 then
      Option.bind (MX12_refused σ ρ a0 ((2 : Int32)) ((0 : Int32))) fun c10 =>
      some (c10.1, c10.2)
    else
      Option.bind (MX12_keeps σ ρ a0) fun c4 =>
      Option.bind (ρ a0 0) fun j5 =>
      Option.bind (ap c4 j5 ((36 : Int32)) a1) fun σ6 =>
      Option.bind (ρ a0 0) fun j7 =>
      Option.bind (ap σ6 j7 ((37 : Int32)) ((0 : Int32))) fun σ8 =>
      Option.bind (MX12_refused σ8 ρ a0 ((0 : Int32)) ((0 : Int32))) fun c9 =>
      some (c9.1, c9.2)
def BX12_set_23 (ρ : Rho) (a0 : Nat) (a1 : Int32) (a2 : Int32) (a3 : Int32) (σ : Sto) : Option (Int32 × Sto) :=
  Option.bind (MX12_refused σ ρ a0 ((1 : Int32)) ((0 : Int32))) fun c1 =>
  some (c1.1, c1.2)
def MX12_set (σ : Sto) (ρ : Rho) (a0 : Nat) (a1 : Int32) (a2 : Int32) (a3 : Int32) : Option (Int32 × Sto) :=
  Option.bind (MX12_isConic a1) fun c1 =>
  if c1 = 0 then
    BX12_set_23 ρ a0 a1 a2 a3 σ
  else
    Option.bind (MX12_isIn a2 ((0 : Int32)) ((5 : Int32))) fun c2 =>
    if c2 = 0 then
      BX12_set_23 ρ a0 a1 a2 a3 σ
    else
      Option.bind (MX12_isShort a3) fun c3 =>
      if c3 = 0 then
        BX12_set_23 ρ a0 a1 a2 a3 σ
      else
        Option.bind (ρ a0 0) fun j4 =>
        Option.bind (ag σ j4 ((((6 : Int32) * a1) + a2))) fun x5 =>
        if x5 = a3 then
          Option.bind (MX12_refused σ ρ a0 ((2 : Int32)) ((0 : Int32))) fun c10 =>
          some (c10.1, c10.2)
        else
          Option.bind (MX12_laysIts σ ρ a0 a1) fun c6 =>
          Option.bind (ρ a0 13) fun j7 =>
          Option.bind (ap c6 j7 a2 a3) fun σ8 =>
          Option.bind (MX12_becomes σ8 ρ a0 a1) fun c9 =>
          some (c9.1, c9.2)
def BX12_sum_37 (ρ : Rho) (a0 : Nat) (a1 : Int32) (a2 : Int32) (a3 : Int32) (a4 : Int32) (a5 : Int32) (σ : Sto) : Option (Int32 × Sto) :=
  Option.bind (MX12_refused σ ρ a0 ((1 : Int32)) ((0 : Int32))) fun c1 =>
  some (c1.1, c1.2)
def BX12_sum_98 (ρ : Rho) (a0 : Nat) (a1 : Int32) (a2 : Int32) (a3 : Int32) (a4 : Int32) (a5 : Int32) (σ : Sto) : Option (Int32 × Sto) :=
  Option.bind (MX12_becomes σ ρ a0 a1) fun c1 =>
  some (c1.1, c1.2)
def FX12_sum_47 (ρ : Rho) (a0 : Nat) (a1 : Int32) (a2 : Int32) (a3 : Int32) (a4 : Int32) (a5 : Int32) (k98 : Sto → Option (Int32 × Sto)) (rec : Sto → Int32 → Option (Int32 × Sto)) (σ : Sto) (v6 : Int32) : Option (Int32 × Sto) :=
  if (6 : Int32) ≤ v6 then
    k98 σ
  else
    Option.bind (ρ a0 13) fun j1 =>
    Option.bind (ρ a0 0) fun j2 =>
    Option.bind (ag σ j2 ((((6 : Int32) * a2) + v6))) fun x3 =>
    Option.bind (ρ a0 0) fun j4 =>
    Option.bind (ag σ j4 ((((6 : Int32) * a4) + v6))) fun x5 =>
    Option.bind (ap σ j1 v6 (((a3 * x3) + (a5 * x5)))) fun σ6 =>
    bn (v6 + (1 : Int32)) fun y7 =>
    rec σ6 y7
def MX12_sum (σ : Sto) (ρ : Rho) (a0 : Nat) (a1 : Int32) (a2 : Int32) (a3 : Int32) (a4 : Int32) (a5 : Int32) : Option (Int32 × Sto) :=
  Option.bind (MX12_isConic a1) fun c1 =>
  if c1 = 0 then
    BX12_sum_37 ρ a0 a1 a2 a3 a4 a5 σ
  else
    Option.bind (MX12_isConic a2) fun c2 =>
    if c2 = 0 then
      BX12_sum_37 ρ a0 a1 a2 a3 a4 a5 σ
    else
      Option.bind (MX12_isConic a4) fun c3 =>
      if c3 = 0 then
        BX12_sum_37 ρ a0 a1 a2 a3 a4 a5 σ
      else
        Option.bind (MX12_isShort a3) fun c4 =>
        if c4 = 0 then
          BX12_sum_37 ρ a0 a1 a2 a3 a4 a5 σ
        else
          Option.bind (MX12_isShort a5) fun c5 =>
          if c5 = 0 then
            BX12_sum_37 ρ a0 a1 a2 a3 a4 a5 σ
          else
            bn ((0 : Int32)) fun y6 =>
            fixN (fun _ _ => none) (FX12_sum_47 ρ a0 a1 a2 a3 a4 a5 (BX12_sum_98 ρ a0 a1 a2 a3 a4 a5)) FU σ y6
def BX12_turn_14 (ρ : Rho) (a0 : Nat) (a1 : Int32) (a2 : Int32) (σ : Sto) : Option (Int32 × Sto) :=
  Option.bind (MX12_refused σ ρ a0 ((1 : Int32)) ((0 : Int32))) fun c1 =>
  some (c1.1, c1.2)
def MX12_turn (σ : Sto) (ρ : Rho) (a0 : Nat) (a1 : Int32) (a2 : Int32) : Option (Int32 × Sto) :=
  Option.bind (MX12_isConic a1) fun c1 =>
  if c1 = 0 then
    BX12_turn_14 ρ a0 a1 a2 σ
  else
    Option.bind (MX12_isConic a2) fun c2 =>
    if c2 = 0 then
      BX12_turn_14 ρ a0 a1 a2 σ
    else
      Option.bind (MX12_laysConic σ ρ a0 ((0 : Int32)) a2) fun c3 =>
      Option.bind (MX12_kindOf c3 ρ a0) fun c4 =>
      bn c4.1 fun y5 =>
      if y5 = (4 : Int32) then
        Option.bind (ρ a0 13) fun j6 =>
        Option.bind (ρ a0 11) fun j7 =>
        Option.bind (ag c4.2 j7 ((1 : Int32))) fun x8 =>
        Option.bind (ρ a0 11) fun j9 =>
        Option.bind (ag c4.2 j9 ((2 : Int32))) fun x10 =>
        Option.bind (ρ a0 11) fun j11 =>
        Option.bind (ag c4.2 j11 ((3 : Int32))) fun x12 =>
        Option.bind (ρ a0 11) fun j13 =>
        Option.bind (ag c4.2 j13 ((3 : Int32))) fun x14 =>
        Option.bind (MX12_rest c4.2 a0 (((((4 : Int32) * x8) * x10) - (x12 * x14)))) fun c15 =>
        Option.bind (ap c4.2 j6 ((0 : Int32)) c15) fun σ16 =>
        Option.bind (ρ a0 13) fun j17 =>
        Option.bind (ρ a0 11) fun j18 =>
        Option.bind (ag σ16 j18 ((0 : Int32))) fun x19 =>
        Option.bind (ρ a0 11) fun j20 =>
        Option.bind (ag σ16 j20 ((2 : Int32))) fun x21 =>
        Option.bind (ρ a0 11) fun j22 =>
        Option.bind (ag σ16 j22 ((4 : Int32))) fun x23 =>
        Option.bind (ρ a0 11) fun j24 =>
        Option.bind (ag σ16 j24 ((4 : Int32))) fun x25 =>
        Option.bind (MX12_rest σ16 a0 (((((4 : Int32) * x19) * x21) - (x23 * x25)))) fun c26 =>
        Option.bind (ap σ16 j17 ((1 : Int32)) c26) fun σ27 =>
        Option.bind (ρ a0 13) fun j28 =>
        Option.bind (ρ a0 11) fun j29 =>
        Option.bind (ag σ27 j29 ((0 : Int32))) fun x30 =>
        Option.bind (ρ a0 11) fun j31 =>
        Option.bind (ag σ27 j31 ((1 : Int32))) fun x32 =>
        Option.bind (ρ a0 11) fun j33 =>
        Option.bind (ag σ27 j33 ((5 : Int32))) fun x34 =>
        Option.bind (ρ a0 11) fun j35 =>
        Option.bind (ag σ27 j35 ((5 : Int32))) fun x36 =>
        Option.bind (MX12_rest σ27 a0 (((((4 : Int32) * x30) * x32) - (x34 * x36)))) fun c37 =>
        Option.bind (ap σ27 j28 ((2 : Int32)) c37) fun σ38 =>
        Option.bind (ρ a0 13) fun j39 =>
        Option.bind (ρ a0 11) fun j40 =>
        Option.bind (ag σ38 j40 ((4 : Int32))) fun x41 =>
        Option.bind (ρ a0 11) fun j42 =>
        Option.bind (ag σ38 j42 ((5 : Int32))) fun x43 =>
        Option.bind (ρ a0 11) fun j44 =>
        Option.bind (ag σ38 j44 ((0 : Int32))) fun x45 =>
        Option.bind (ρ a0 11) fun j46 =>
        Option.bind (ag σ38 j46 ((3 : Int32))) fun x47 =>
        Option.bind (MX12_rest σ38 a0 (((2 : Int32) * ((x41 * x43) - (((2 : Int32) * x45) * x47))))) fun c48 =>
        Option.bind (ap σ38 j39 ((3 : Int32)) c48) fun σ49 =>
        Option.bind (ρ a0 13) fun j50 =>
        Option.bind (ρ a0 11) fun j51 =>
        Option.bind (ag σ49 j51 ((3 : Int32))) fun x52 =>
        Option.bind (ρ a0 11) fun j53 =>
        Option.bind (ag σ49 j53 ((5 : Int32))) fun x54 =>
        Option.bind (ρ a0 11) fun j55 =>
        Option.bind (ag σ49 j55 ((1 : Int32))) fun x56 =>
        Option.bind (ρ a0 11) fun j57 =>
        Option.bind (ag σ49 j57 ((4 : Int32))) fun x58 =>
        Option.bind (MX12_rest σ49 a0 (((2 : Int32) * ((x52 * x54) - (((2 : Int32) * x56) * x58))))) fun c59 =>
        Option.bind (ap σ49 j50 ((4 : Int32)) c59) fun σ60 =>
        Option.bind (ρ a0 13) fun j61 =>
        Option.bind (ρ a0 11) fun j62 =>
        Option.bind (ag σ60 j62 ((3 : Int32))) fun x63 =>
        Option.bind (ρ a0 11) fun j64 =>
        Option.bind (ag σ60 j64 ((4 : Int32))) fun x65 =>
        Option.bind (ρ a0 11) fun j66 =>
        Option.bind (ag σ60 j66 ((2 : Int32))) fun x67 =>
        Option.bind (ρ a0 11) fun j68 =>
        Option.bind (ag σ60 j68 ((5 : Int32))) fun x69 =>
        Option.bind (MX12_rest σ60 a0 (((2 : Int32) * ((x63 * x65) - (((2 : Int32) * x67) * x69))))) fun c70 =>
        Option.bind (ap σ60 j61 ((5 : Int32)) c70) fun σ71 =>
        Option.bind (MX12_becomes σ71 ρ a0 a1) fun c72 =>
        some (c72.1, c72.2)
      else
        Option.bind (MX12_refused c4.2 ρ a0 ((5 : Int32)) (((6 : Int32) + y5))) fun c73 =>
        some (c73.1, c73.2)
def BX12_twist_16 (ρ : Rho) (a0 : Nat) (a1 : Int32) (a2 : Int32) (σ : Sto) : Option (Int32 × Sto) :=
  Option.bind (MX12_refused σ ρ a0 ((1 : Int32)) ((0 : Int32))) fun c1 =>
  some (c1.1, c1.2)
def BX12_twist_258 (ρ : Rho) (a0 : Nat) (a1 : Int32) (a2 : Int32) (rec : Sto → Int32 → Int32 → Int32 → Option (Int32 × Sto)) (k266 : Sto → Int32 → Option (Int32 × Sto)) (σ : Sto) (v3 : Int32) (v5 : Int32) (t0 : Int32) : Option (Int32 × Sto) :=
  bn t0 fun y1 =>
  bn (v5 + (1 : Int32)) fun y2 =>
  rec σ v3 y1 y2
def BX12_twist_257 (ρ : Rho) (a0 : Nat) (a1 : Int32) (a2 : Int32) (rec : Sto → Int32 → Int32 → Int32 → Option (Int32 × Sto)) (k266 : Sto → Int32 → Option (Int32 × Sto)) (σ : Sto) (v3 : Int32) (v5 : Int32) : Option (Int32 × Sto) :=
  BX12_twist_258 ρ a0 a1 a2 rec k266 σ v3 v5 ((0 : Int32))
def BX12_twist_266 (ρ : Rho) (a0 : Nat) (a1 : Int32) (a2 : Int32) (σ : Sto) (v4 : Int32) : Option (Int32 × Sto) :=
  if v4 = 0 then
    Option.bind (MX12_becomes σ ρ a0 a1) fun c1 =>
    some (c1.1, c1.2)
  else
    Option.bind (MX12_refused σ ρ a0 ((2 : Int32)) ((0 : Int32))) fun c2 =>
    some (c2.1, c2.2)
def FX12_twist_222 (ρ : Rho) (a0 : Nat) (a1 : Int32) (a2 : Int32) (k266 : Sto → Int32 → Option (Int32 × Sto)) (rec : Sto → Int32 → Int32 → Int32 → Option (Int32 × Sto)) (σ : Sto) (v3 : Int32) (v4 : Int32) (v5 : Int32) : Option (Int32 × Sto) :=
  if (6 : Int32) ≤ v5 then
    k266 σ v4
  else
    if v4 = 0 then
      BX12_twist_257 ρ a0 a1 a2 rec k266 σ v3 v5
    else
      Option.bind (ρ a0 13) fun j1 =>
      Option.bind (ag σ j1 v5) fun x2 =>
      Option.bind (ρ a0 0) fun j3 =>
      Option.bind (ag σ j3 ((v3 + v5))) fun x4 =>
      if x2 = x4 then
        BX12_twist_258 ρ a0 a1 a2 rec k266 σ v3 v5 ((1 : Int32))
      else
        BX12_twist_257 ρ a0 a1 a2 rec k266 σ v3 v5
def BX12_twist_216 (ρ : Rho) (a0 : Nat) (a1 : Int32) (a2 : Int32) (σ : Sto) (v3 : Int32) : Option (Int32 × Sto) :=
  bn ((1 : Int32)) fun y1 =>
  bn ((0 : Int32)) fun y2 =>
  fixN (fun _ _ _ _ => none) (FX12_twist_222 ρ a0 a1 a2 (BX12_twist_266 ρ a0 a1 a2)) FU σ v3 y1 y2
def MX12_twist (σ : Sto) (ρ : Rho) (a0 : Nat) (a1 : Int32) (a2 : Int32) : Option (Int32 × Sto) :=
  Option.bind (MX12_isConic a1) fun c1 =>
  if c1 = 0 then
    BX12_twist_16 ρ a0 a1 a2 σ
  else
    Option.bind (MX12_isIn a2 ((0 : Int32)) ((2 : Int32))) fun c2 =>
    if c2 = 0 then
      BX12_twist_16 ρ a0 a1 a2 σ
    else
      Option.bind (MX12_laysIts σ ρ a0 a1) fun c3 =>
      bn (((6 : Int32) * a1)) fun y4 =>
      if a2 = 0 then
        Option.bind (ρ a0 13) fun j38 =>
        Option.bind (ρ a0 0) fun j39 =>
        Option.bind (ag c3 j39 ((y4 + (1 : Int32)))) fun x40 =>
        Option.bind (ap c3 j38 ((0 : Int32)) x40) fun σ41 =>
        Option.bind (ρ a0 13) fun j42 =>
        Option.bind (ρ a0 0) fun j43 =>
        Option.bind (ag σ41 j43 y4) fun x44 =>
        Option.bind (ap σ41 j42 ((1 : Int32)) x44) fun σ45 =>
        Option.bind (ρ a0 13) fun j46 =>
        Option.bind (ρ a0 0) fun j47 =>
        Option.bind (ag σ45 j47 ((y4 + (4 : Int32)))) fun x48 =>
        Option.bind (ap σ45 j46 ((3 : Int32)) x48) fun σ49 =>
        Option.bind (ρ a0 13) fun j50 =>
        Option.bind (ρ a0 0) fun j51 =>
        Option.bind (ag σ49 j51 ((y4 + (3 : Int32)))) fun x52 =>
        Option.bind (ap σ49 j50 ((4 : Int32)) x52) fun σ53 =>
        BX12_twist_216 ρ a0 a1 a2 σ53 y4
      else
        if a2 = (1 : Int32) then
          Option.bind (ρ a0 13) fun j22 =>
          Option.bind (ρ a0 0) fun j23 =>
          Option.bind (ag c3 j23 ((y4 + (2 : Int32)))) fun x24 =>
          Option.bind (ap c3 j22 ((1 : Int32)) x24) fun σ25 =>
          Option.bind (ρ a0 13) fun j26 =>
          Option.bind (ρ a0 0) fun j27 =>
          Option.bind (ag σ25 j27 ((y4 + (1 : Int32)))) fun x28 =>
          Option.bind (ap σ25 j26 ((2 : Int32)) x28) fun σ29 =>
          Option.bind (ρ a0 13) fun j30 =>
          Option.bind (ρ a0 0) fun j31 =>
          Option.bind (ag σ29 j31 ((y4 + (5 : Int32)))) fun x32 =>
          Option.bind (ap σ29 j30 ((4 : Int32)) x32) fun σ33 =>
          Option.bind (ρ a0 13) fun j34 =>
          Option.bind (ρ a0 0) fun j35 =>
          Option.bind (ag σ33 j35 ((y4 + (4 : Int32)))) fun x36 =>
          Option.bind (ap σ33 j34 ((5 : Int32)) x36) fun σ37 =>
          BX12_twist_216 ρ a0 a1 a2 σ37 y4
        else
          Option.bind (ρ a0 13) fun j5 =>
          Option.bind (ag c3 j5 ((1 : Int32))) fun x6 =>
          Option.bind (ρ a0 0) fun j7 =>
          Option.bind (ag c3 j7 y4) fun x8 =>
          Option.bind (ρ a0 0) fun j9 =>
          Option.bind (ag c3 j9 ((y4 + (5 : Int32)))) fun x10 =>
          Option.bind (ap c3 j5 ((1 : Int32)) ((x6 + (x8 + x10)))) fun σ11 =>
          Option.bind (ρ a0 13) fun j12 =>
          Option.bind (ag σ11 j12 ((3 : Int32))) fun x13 =>
          Option.bind (ρ a0 0) fun j14 =>
          Option.bind (ag σ11 j14 ((y4 + (4 : Int32)))) fun x15 =>
          Option.bind (ap σ11 j12 ((3 : Int32)) ((x13 + x15))) fun σ16 =>
          Option.bind (ρ a0 13) fun j17 =>
          Option.bind (ag σ16 j17 ((5 : Int32))) fun x18 =>
          Option.bind (ρ a0 0) fun j19 =>
          Option.bind (ag σ16 j19 y4) fun x20 =>
          Option.bind (ap σ16 j17 ((5 : Int32)) ((x18 + ((2 : Int32) * x20)))) fun σ21 =>
          BX12_twist_216 ρ a0 a1 a2 σ21 y4
def MX12_laysMark (σ : Sto) (ρ : Rho) (a0 : Nat) (a1 : Int32) (a2 : Int32) : Option (Sto) :=
  Option.bind (MX12_laysPlace σ a0 a2) fun c1 =>
  Option.bind (ρ a0 12) fun j2 =>
  Option.bind (rmi (((c1 a0 8) * (c1 a0 8))) ((c1 a0 7))) fun z3 =>
  Option.bind (ap c1 j2 (((6 : Int32) * a1)) z3) fun σ4 =>
  Option.bind (ρ a0 12) fun j5 =>
  Option.bind (rmi (((σ4 a0 9) * (σ4 a0 9))) ((σ4 a0 7))) fun z6 =>
  Option.bind (ap σ4 j5 ((((6 : Int32) * a1) + (1 : Int32))) z6) fun σ7 =>
  Option.bind (ρ a0 12) fun j8 =>
  Option.bind (rmi (((σ7 a0 10) * (σ7 a0 10))) ((σ7 a0 7))) fun z9 =>
  Option.bind (ap σ7 j8 ((((6 : Int32) * a1) + (2 : Int32))) z9) fun σ10 =>
  Option.bind (ρ a0 12) fun j11 =>
  Option.bind (rmi (((σ10 a0 9) * (σ10 a0 10))) ((σ10 a0 7))) fun z12 =>
  Option.bind (ap σ10 j11 ((((6 : Int32) * a1) + (3 : Int32))) z12) fun σ13 =>
  Option.bind (ρ a0 12) fun j14 =>
  Option.bind (rmi (((σ13 a0 10) * (σ13 a0 8))) ((σ13 a0 7))) fun z15 =>
  Option.bind (ap σ13 j14 ((((6 : Int32) * a1) + (4 : Int32))) z15) fun σ16 =>
  Option.bind (ρ a0 12) fun j17 =>
  Option.bind (rmi (((σ16 a0 8) * (σ16 a0 9))) ((σ16 a0 7))) fun z18 =>
  Option.bind (ap σ16 j17 ((((6 : Int32) * a1) + (5 : Int32))) z18) fun σ19 =>
  some σ19
def BX12_rankWith_46 (ρ : Rho) (a0 : Nat) (a1 : Int32) (σ : Sto) (v2 : Int32) : Option (Int32 × Sto) :=
  Option.bind (MX12_rank σ ρ a0 v2 ((6 : Int32))) fun c1 =>
  bn c1.1 fun y2 =>
  if a1 = (-1 : Int32) then
    some (y2, c1.2)
  else
    Option.bind (MX12_laysMark c1.2 ρ a0 y2 a1) fun c3 =>
    Option.bind (MX12_rank c3 ρ a0 ((y2 + (1 : Int32))) ((6 : Int32))) fun c4 =>
    some (c4.1, c4.2)
def FX12_rankWith_21 (ρ : Rho) (a0 : Nat) (a1 : Int32) (k46 : Sto → Int32 → Option (Int32 × Sto)) (rec : Sto → Int32 → Int32 → Option (Int32 × Sto)) (σ : Sto) (v2 : Int32) (v3 : Int32) : Option (Int32 × Sto) :=
  if v2 ≤ v3 then
    k46 σ v2
  else
    Option.bind (ρ a0 0) fun j1 =>
    Option.bind (ag σ j1 (((38 : Int32) + v3))) fun x2 =>
    Option.bind (MX12_laysMark σ ρ a0 v3 x2) fun c3 =>
    bn (v3 + (1 : Int32)) fun y4 =>
    rec c3 v2 y4
def MX12_rankWith (σ : Sto) (ρ : Rho) (a0 : Nat) (a1 : Int32) : Option (Int32 × Sto) :=
  Option.bind (ρ a0 0) fun j1 =>
  Option.bind (ag σ j1 ((36 : Int32))) fun x2 =>
  bn (su σ a0 7 x2) fun σ3 =>
  Option.bind (ρ a0 0) fun j4 =>
  Option.bind (ag σ3 j4 ((37 : Int32))) fun x5 =>
  bn x5 fun y6 =>
  bn ((0 : Int32)) fun y7 =>
  fixN (fun _ _ _ => none) (FX12_rankWith_21 ρ a0 a1 (BX12_rankWith_46 ρ a0 a1)) FU σ3 y6 y7
def BX12_hasOne_64 (ρ : Rho) (a0 : Nat) (rec : Sto → Int32 → Int32 → Option (Int32 × Sto)) (k71 : Sto → Int32 → Option (Int32 × Sto)) (σ : Sto) (v2 : Int32) (v3 : Int32) (t0 : Nat) (t1 : Int32) (t2 : Int32) : Option (Int32 × Sto) :=
  Option.bind (ap σ t0 t1 t2) fun σ1 =>
  bn (v3 + (1 : Int32)) fun y2 =>
  rec σ1 v2 y2
def BX12_hasOne_94 (ρ : Rho) (a0 : Nat) (rec : Sto → Int32 → Int32 → Option (Int32 × Sto)) (k117 : Sto → Option (Int32 × Sto)) (σ : Sto) (v2 : Int32) (v3 : Int32) (t0 : Nat) (t1 : Int32) : Option (Int32 × Sto) :=
  Option.bind (ρ a0 12) fun j1 =>
  Option.bind (ag σ j1 ((((6 : Int32) * v3) + v2))) fun x2 =>
  Option.bind (MX12_rest σ a0 ((-x2))) fun c3 =>
  Option.bind (ap σ t0 t1 c3) fun σ4 =>
  bn (v3 + (1 : Int32)) fun y5 =>
  rec σ4 v2 y5
def FX12_hasOne_149 (ρ : Rho) (a0 : Nat) (rec : Sto → Int32 → Int32 → Option (Int32 × Sto)) (σ : Sto) (v4 : Int32) (v5 : Int32) : Option (Int32 × Sto) :=
  if (6 : Int32) ≤ v5 then
    zr ((1 : Int32)) (some ((1 : Int32), σ))
  else
    Option.bind (ρ a0 13) fun j1 =>
    Option.bind (ρ a0 13) fun j2 =>
    Option.bind (ag σ j2 v5) fun x3 =>
    Option.bind (rmi ((x3 * v4)) ((σ a0 7))) fun z4 =>
    Option.bind (ap σ j1 v5 z4) fun σ5 =>
    bn (v5 + (1 : Int32)) fun y6 =>
    rec σ5 v4 y6
def BX12_hasOne_134 (ρ : Rho) (a0 : Nat) (σ : Sto) (v3 : Int32) : Option (Int32 × Sto) :=
  Option.bind (ρ a0 13) fun j1 =>
  Option.bind (ag σ j1 v3) fun x2 =>
  Option.bind (MX12_inverse σ a0 x2) fun c3 =>
  bn c3 fun y4 =>
  bn ((0 : Int32)) fun y5 =>
  fixN (fun _ _ _ => none) (FX12_hasOne_149 ρ a0) FU σ y4 y5
def FX12_hasOne_119 (ρ : Rho) (a0 : Nat) (k134 : Sto → Int32 → Option (Int32 × Sto)) (rec : Sto → Int32 → Option (Int32 × Sto)) (σ : Sto) (v3 : Int32) : Option (Int32 × Sto) :=
  Option.bind (ρ a0 13) fun j1 =>
  Option.bind (ag σ j1 v3) fun x2 =>
  if x2 = 0 then
    bn (v3 + (1 : Int32)) fun y3 =>
    rec σ y3
  else
    k134 σ v3
def BX12_hasOne_117 (ρ : Rho) (a0 : Nat) (σ : Sto) : Option (Int32 × Sto) :=
  bn ((0 : Int32)) fun y1 =>
  fixN (fun _ _ => none) (FX12_hasOne_119 ρ a0 (BX12_hasOne_134 ρ a0)) FU σ y1
def FX12_hasOne_73 (ρ : Rho) (a0 : Nat) (k117 : Sto → Option (Int32 × Sto)) (rec : Sto → Int32 → Int32 → Option (Int32 × Sto)) (σ : Sto) (v2 : Int32) (v3 : Int32) : Option (Int32 × Sto) :=
  if (5 : Int32) ≤ v3 then
    k117 σ
  else
    Option.bind (ρ a0 13) fun j1 =>
    if v2 ≤ v3 then
      BX12_hasOne_94 ρ a0 rec k117 σ v2 v3 j1 ((v3 + (1 : Int32)))
    else
      BX12_hasOne_94 ρ a0 rec k117 σ v2 v3 j1 v3
def BX12_hasOne_71 (ρ : Rho) (a0 : Nat) (σ : Sto) (v2 : Int32) : Option (Int32 × Sto) :=
  bn ((0 : Int32)) fun y1 =>
  fixN (fun _ _ _ => none) (FX12_hasOne_73 ρ a0 (BX12_hasOne_117 ρ a0)) FU σ v2 y1
def FX12_hasOne_43 (ρ : Rho) (a0 : Nat) (k71 : Sto → Int32 → Option (Int32 × Sto)) (rec : Sto → Int32 → Int32 → Option (Int32 × Sto)) (σ : Sto) (v2 : Int32) (v3 : Int32) : Option (Int32 × Sto) :=
  if (6 : Int32) ≤ v3 then
    k71 σ v2
  else
    Option.bind (ρ a0 13) fun j1 =>
    if v3 = v2 then
      BX12_hasOne_64 ρ a0 rec k71 σ v2 v3 j1 v3 ((1 : Int32))
    else
      BX12_hasOne_64 ρ a0 rec k71 σ v2 v3 j1 v3 ((0 : Int32))
def BX12_hasOne_41 (ρ : Rho) (a0 : Nat) (σ : Sto) (v2 : Int32) : Option (Int32 × Sto) :=
  bn ((0 : Int32)) fun y1 =>
  fixN (fun _ _ _ => none) (FX12_hasOne_43 ρ a0 (BX12_hasOne_71 ρ a0)) FU σ v2 y1
def FX12_hasOne_15 (ρ : Rho) (a0 : Nat) (k41 : Sto → Int32 → Option (Int32 × Sto)) (rec : Sto → Int32 → Option (Int32 × Sto)) (σ : Sto) (v2 : Int32) : Option (Int32 × Sto) :=
  if (5 : Int32) ≤ v2 then
    k41 σ v2
  else
    Option.bind (ρ a0 12) fun j1 =>
    Option.bind (ag σ j1 ((((6 : Int32) * v2) + v2))) fun x2 =>
    if x2 = (1 : Int32) then
      bn (v2 + (1 : Int32)) fun y3 =>
      rec σ y3
    else
      k41 σ v2
def MX12_hasOne (σ : Sto) (ρ : Rho) (a0 : Nat) : Option (Int32 × Sto) :=
  Option.bind (MX12_rankWith σ ρ a0 ((-1 : Int32))) fun c1 =>
  bn c1.1 fun y2 =>
  if y2 = (5 : Int32) then
    bn ((0 : Int32)) fun y3 =>
    fixN (fun _ _ => none) (FX12_hasOne_15 ρ a0 (BX12_hasOne_41 ρ a0)) FU c1.2 y3
  else
    zr ((0 : Int32)) (some ((0 : Int32), c1.2))
def BX12_through_40 (ρ : Rho) (a0 : Nat) (a1 : Int32) (σ : Sto) (t0 : Nat) (t1 : Int32) (t2 : Int32) : Option (Int32 × Sto) :=
  Option.bind (MX12_refused σ ρ t0 t1 t2) fun c1 =>
  some (c1.1, c1.2)
def MX12_through (σ : Sto) (ρ : Rho) (a0 : Nat) (a1 : Int32) : Option (Int32 × Sto) :=
  Option.bind (MX12_isConic a1) fun c1 =>
  if c1 = 0 then
    Option.bind (MX12_refused σ ρ a0 ((1 : Int32)) ((0 : Int32))) fun c5 =>
    some (c5.1, c5.2)
  else
    Option.bind (MX12_hasOne σ ρ a0) fun c2 =>
    if c2.1 = 0 then
      Option.bind (MX12_rankWith c2.2 ρ a0 ((-1 : Int32))) fun c4 =>
      if (5 : Int32) ≤ c4.1 then
        BX12_through_40 ρ a0 a1 c4.2 a0 ((10 : Int32)) ((12 : Int32))
      else
        BX12_through_40 ρ a0 a1 c4.2 a0 ((10 : Int32)) ((11 : Int32))
    else
      Option.bind (MX12_becomes c2.2 ρ a0 a1) fun c3 =>
      some (c3.1, c3.2)
def MX12_isPlace (σ : Sto) (ρ : Rho) (a0 : Nat) (a1 : Int32) : Option (Int32 × Sto) :=
  Option.bind (ρ a0 0) fun j1 =>
  Option.bind (ag σ j1 ((36 : Int32))) fun x2 =>
  bn (su σ a0 7 x2) fun σ3 =>
  Option.bind (MX12_places σ3 a0) fun c4 =>
  Option.bind (MX12_isIn a1 ((0 : Int32)) ((c4 - (1 : Int32)))) fun c5 =>
  zr c5 (some (c5, σ3))
def FX12_markOf_2 (σ : Sto) (ρ : Rho) (a0 : Nat) (a1 : Int32) (a2 : Int32) (rec : Int32 → Option (Int32)) (v3 : Int32) : Option (Int32) :=
  Option.bind (ρ a0 0) fun j1 =>
  Option.bind (ag σ j1 ((a1 + (37 : Int32)))) fun x2 =>
  if x2 ≤ v3 then
    some (-1 : Int32)
  else
    Option.bind (ρ a0 0) fun j3 =>
    Option.bind (ag σ j3 (((a1 + (38 : Int32)) + v3))) fun x4 =>
    if x4 = a2 then
      some v3
    else
      bn (v3 + (1 : Int32)) fun y5 =>
      rec y5
def MX12_markOf (σ : Sto) (ρ : Rho) (a0 : Nat) (a1 : Int32) (a2 : Int32) : Option (Int32) :=
  bn ((0 : Int32)) fun y1 =>
  fixN (fun _ => none) (FX12_markOf_2 σ ρ a0 a1 a2) FU y1
def BX12_mark_138 (ρ : Rho) (a0 : Nat) (a1 : Int32) (a2 : Int32) (σ : Sto) : Option (Int32 × Sto) :=
  Option.bind (MX12_refused σ ρ a0 ((0 : Int32)) ((0 : Int32))) fun c1 =>
  some (c1.1, c1.2)
def BX12_mark_66 (ρ : Rho) (a0 : Nat) (a1 : Int32) (a2 : Int32) (σ : Sto) (v3 : Int32) : Option (Int32 × Sto) :=
  Option.bind (MX12_keeps σ ρ a0) fun c1 =>
  if a2 = 0 then
    Option.bind (ρ a0 0) fun j2 =>
    Option.bind (ρ a0 0) fun j3 =>
    Option.bind (ag c1 j3 ((37 : Int32))) fun x4 =>
    Option.bind (ap c1 j2 (((38 : Int32) + x4)) a1) fun σ5 =>
    Option.bind (ρ a0 0) fun j6 =>
    Option.bind (ag σ5 j6 ((37 : Int32))) fun x7 =>
    Option.bind (ap σ5 j6 ((37 : Int32)) ((x7 + (1 : Int32)))) fun σ8 =>
    BX12_mark_138 ρ a0 a1 a2 σ8
  else
    Option.bind (ρ a0 0) fun j9 =>
    Option.bind (ag c1 j9 ((37 : Int32))) fun x10 =>
    Option.bind (ap c1 j9 ((37 : Int32)) ((x10 - (1 : Int32)))) fun σ11 =>
    Option.bind (ρ a0 0) fun j12 =>
    Option.bind (ag σ11 j12 ((37 : Int32))) fun x13 =>
    Option.bind (MX12_copies σ11 ρ a0 ((((38 : Int32) + v3) + (1 : Int32))) (((38 : Int32) + v3)) ((x13 - v3))) fun c14 =>
    BX12_mark_138 ρ a0 a1 a2 c14
def BX12_mark_32 (ρ : Rho) (a0 : Nat) (a1 : Int32) (a2 : Int32) (σ : Sto) (v3 : Int32) (t0 : Int32) : Option (Int32 × Sto) :=
  if t0 = a2 then
    Option.bind (MX12_refused σ ρ a0 ((2 : Int32)) ((0 : Int32))) fun c4 =>
    some (c4.1, c4.2)
  else
    if a2 = 0 then
      Option.bind (ρ a0 0) fun j1 =>
      Option.bind (ag σ j1 ((37 : Int32))) fun x2 =>
      if x2 = (8 : Int32) then
        Option.bind (MX12_refused σ ρ a0 ((3 : Int32)) ((0 : Int32))) fun c3 =>
        some (c3.1, c3.2)
      else
        BX12_mark_66 ρ a0 a1 a2 σ v3
    else
      BX12_mark_66 ρ a0 a1 a2 σ v3
def MX12_mark (σ : Sto) (ρ : Rho) (a0 : Nat) (a1 : Int32) (a2 : Int32) : Option (Int32 × Sto) :=
  Option.bind (MX12_isPlace σ ρ a0 a1) fun c1 =>
  if c1.1 = 0 then
    Option.bind (MX12_refused c1.2 ρ a0 ((1 : Int32)) ((0 : Int32))) fun c4 =>
    some (c4.1, c4.2)
  else
    Option.bind (MX12_markOf c1.2 ρ a0 ((0 : Int32)) a1) fun c2 =>
    bn c2 fun y3 =>
    if y3 = (-1 : Int32) then
      BX12_mark_32 ρ a0 a1 a2 c1.2 y3 ((1 : Int32))
    else
      BX12_mark_32 ρ a0 a1 a2 c1.2 y3 ((0 : Int32))
def MX12_why (σ : Sto) (ρ : Rho) (a0 : Nat) (a1 : Int32) : Option (Int32) :=
  Option.bind (MX12_isIn a1 ((0 : Int32)) ((1 : Int32))) fun c1 =>
  if c1 = 0 then
    some (-1 : Int32)
  else
    Option.bind (ρ a0 0) fun j2 =>
    Option.bind (ag σ j2 (((46 : Int32) + a1))) fun x3 =>
    some x3
def MX12_undo (σ : Sto) (ρ : Rho) (a0 : Nat) : Option (Int32 × Sto) :=
  if (σ a0 6) = 0 then
    some ((-1 : Int32), σ)
  else
    bn (su σ a0 6 (((σ a0 6) - (1 : Int32)))) fun σ1 =>
    Option.bind (MX12_copies σ1 ρ a0 (((94 : Int32) + ((46 : Int32) * (σ1 a0 6)))) ((0 : Int32)) ((46 : Int32))) fun c2 =>
    some ((c2 a0 6), c2)
def BX12_proper_30 (ρ : Rho) (a0 : Nat) (rec : Sto → Int32 → Int32 → Option (Int32 × Sto)) (σ : Sto) (v2 : Int32) (t0 : Int32) (t1 : Int32) : Option (Int32 × Sto) :=
  bn ((t0 + t1)) fun y1 =>
  bn (v2 + (1 : Int32)) fun y2 =>
  rec σ y1 y2
def FX12_proper_4 (ρ : Rho) (a0 : Nat) (rec : Sto → Int32 → Int32 → Option (Int32 × Sto)) (σ : Sto) (v1 : Int32) (v2 : Int32) : Option (Int32 × Sto) :=
  if (6 : Int32) ≤ v2 then
    some (v1, σ)
  else
    Option.bind (MX12_laysConic σ ρ a0 ((0 : Int32)) v2) fun c1 =>
    Option.bind (MX12_rankOf c1 ρ a0) fun c2 =>
    if c2.1 = (3 : Int32) then
      BX12_proper_30 ρ a0 rec c2.2 v2 v1 ((1 : Int32))
    else
      BX12_proper_30 ρ a0 rec c2.2 v2 v1 ((0 : Int32))
def MX12_proper (σ : Sto) (ρ : Rho) (a0 : Nat) : Option (Int32 × Sto) :=
  bn ((0 : Int32)) fun y1 =>
  bn ((0 : Int32)) fun y2 =>
  fixN (fun _ _ _ => none) (FX12_proper_4 ρ a0) FU σ y1 y2
def MX12_lineOf (σ : Sto) (a0 : Nat) (a1 : Int32) (a2 : Int32) : Option (Int32 × Sto) :=
  Option.bind (MX12_laysPlace σ a0 a1) fun c1 =>
  bn ((c1 a0 8)) fun y2 =>
  bn ((c1 a0 9)) fun y3 =>
  bn ((c1 a0 10)) fun y4 =>
  Option.bind (MX12_laysPlace c1 a0 a2) fun c5 =>
  Option.bind (MX12_numberOf c5 a0 (((y3 * (c5 a0 10)) - (y4 * (c5 a0 9)))) (((y4 * (c5 a0 8)) - (y2 * (c5 a0 10)))) (((y2 * (c5 a0 9)) - (y3 * (c5 a0 8))))) fun c6 =>
  some (c6, c5)
def MX12_areOnLine (σ : Sto) (a0 : Nat) (a1 : Int32) (a2 : Int32) (a3 : Int32) : Option (Int32 × Sto) :=
  Option.bind (MX12_lineOf σ a0 a1 a2) fun c1 =>
  Option.bind (MX12_isOnLine c1.2 a0 a3 c1.1) fun c2 =>
  zr c2.1 (some (c2.1, c2.2))
def BX12_lined_118 (ρ : Rho) (a0 : Nat) (rec : Sto → Int32 → Int32 → Int32 → Int32 → Int32 → Option (Int32 × Sto)) (k125 : Sto → Int32 → Int32 → Int32 → Int32 → Option (Int32 × Sto)) (σ : Sto) (v1 : Int32) (v2 : Int32) (v4 : Int32) (v5 : Int32) (t0 : Int32) : Option (Int32 × Sto) :=
  bn t0 fun y1 =>
  bn (v5 + (1 : Int32)) fun y2 =>
  rec σ v1 v2 y1 v4 y2
def BX12_lined_113 (ρ : Rho) (a0 : Nat) (rec : Sto → Int32 → Int32 → Int32 → Int32 → Int32 → Option (Int32 × Sto)) (k125 : Sto → Int32 → Int32 → Int32 → Int32 → Option (Int32 × Sto)) (σ : Sto) (v1 : Int32) (v2 : Int32) (v4 : Int32) (v5 : Int32) : Option (Int32 × Sto) :=
  BX12_lined_118 ρ a0 rec k125 σ v1 v2 v4 v5 ((1 : Int32))
def BX12_lined_117 (ρ : Rho) (a0 : Nat) (rec : Sto → Int32 → Int32 → Int32 → Int32 → Int32 → Option (Int32 × Sto)) (k125 : Sto → Int32 → Int32 → Int32 → Int32 → Option (Int32 × Sto)) (σ : Sto) (v1 : Int32) (v2 : Int32) (v4 : Int32) (v5 : Int32) : Option (Int32 × Sto) :=
  BX12_lined_118 ρ a0 rec k125 σ v1 v2 v4 v5 ((0 : Int32))
def BX12_lined_125 (ρ : Rho) (a0 : Nat) (rec : Sto → Int32 → Int32 → Int32 → Int32 → Option (Int32 × Sto)) (k131 : Sto → Int32 → Int32 → Int32 → Option (Int32 × Sto)) (σ : Sto) (v1 : Int32) (v2 : Int32) (v3 : Int32) (v4 : Int32) : Option (Int32 × Sto) :=
  bn (v4 + (1 : Int32)) fun y1 =>
  rec σ v1 v2 v3 y1
def FX12_lined_49 (ρ : Rho) (a0 : Nat) (k125 : Sto → Int32 → Int32 → Int32 → Int32 → Option (Int32 × Sto)) (rec : Sto → Int32 → Int32 → Int32 → Int32 → Int32 → Option (Int32 × Sto)) (σ : Sto) (v1 : Int32) (v2 : Int32) (v3 : Int32) (v4 : Int32) (v5 : Int32) : Option (Int32 × Sto) :=
  Option.bind (ρ a0 0) fun j1 =>
  Option.bind (ag σ j1 ((37 : Int32))) fun x2 =>
  if x2 ≤ v5 then
    k125 σ v1 v2 v3 v4
  else
    if v3 = 0 then
      if v4 = v2 then
        BX12_lined_117 ρ a0 rec k125 σ v1 v2 v4 v5
      else
        if v5 = v2 then
          BX12_lined_117 ρ a0 rec k125 σ v1 v2 v4 v5
        else
          Option.bind (ρ a0 0) fun j3 =>
          Option.bind (ag σ j3 (((38 : Int32) + v4))) fun x4 =>
          Option.bind (ρ a0 0) fun j5 =>
          Option.bind (ag σ j5 (((38 : Int32) + v5))) fun x6 =>
          Option.bind (ρ a0 0) fun j7 =>
          Option.bind (ag σ j7 (((38 : Int32) + v2))) fun x8 =>
          Option.bind (MX12_areOnLine σ a0 x4 x6 x8) fun c9 =>
          if c9.1 = 0 then
            BX12_lined_117 ρ a0 rec k125 c9.2 v1 v2 v4 v5
          else
            BX12_lined_113 ρ a0 rec k125 c9.2 v1 v2 v4 v5
    else
      BX12_lined_113 ρ a0 rec k125 σ v1 v2 v4 v5
def BX12_lined_141 (ρ : Rho) (a0 : Nat) (rec : Sto → Int32 → Int32 → Option (Int32 × Sto)) (σ : Sto) (v2 : Int32) (t0 : Int32) (t1 : Int32) : Option (Int32 × Sto) :=
  bn ((t0 + t1)) fun y1 =>
  bn (v2 + (1 : Int32)) fun y2 =>
  rec σ y1 y2
def BX12_lined_131 (ρ : Rho) (a0 : Nat) (rec : Sto → Int32 → Int32 → Option (Int32 × Sto)) (σ : Sto) (v1 : Int32) (v2 : Int32) (v3 : Int32) : Option (Int32 × Sto) :=
  if v3 = 0 then
    BX12_lined_141 ρ a0 rec σ v2 v1 ((0 : Int32))
  else
    BX12_lined_141 ρ a0 rec σ v2 v1 ((1 : Int32))
def FX12_lined_31 (ρ : Rho) (a0 : Nat) (k131 : Sto → Int32 → Int32 → Int32 → Option (Int32 × Sto)) (rec : Sto → Int32 → Int32 → Int32 → Int32 → Option (Int32 × Sto)) (σ : Sto) (v1 : Int32) (v2 : Int32) (v3 : Int32) (v4 : Int32) : Option (Int32 × Sto) :=
  Option.bind (ρ a0 0) fun j1 =>
  Option.bind (ag σ j1 ((37 : Int32))) fun x2 =>
  if x2 ≤ v4 then
    k131 σ v1 v2 v3
  else
    bn ((v4 + (1 : Int32))) fun y3 =>
    fixN (fun _ _ _ _ _ _ => none) (FX12_lined_49 ρ a0 (BX12_lined_125 ρ a0 rec k131)) FU σ v1 v2 v3 v4 y3
def FX12_lined_15 (ρ : Rho) (a0 : Nat) (rec : Sto → Int32 → Int32 → Option (Int32 × Sto)) (σ : Sto) (v1 : Int32) (v2 : Int32) : Option (Int32 × Sto) :=
  Option.bind (ρ a0 0) fun j1 =>
  Option.bind (ag σ j1 ((37 : Int32))) fun x2 =>
  if x2 ≤ v2 then
    some (v1, σ)
  else
    bn ((0 : Int32)) fun y3 =>
    bn ((0 : Int32)) fun y4 =>
    fixN (fun _ _ _ _ _ => none) (FX12_lined_31 ρ a0 (BX12_lined_131 ρ a0 rec)) FU σ v1 v2 y3 y4
def MX12_lined (σ : Sto) (ρ : Rho) (a0 : Nat) : Option (Int32 × Sto) :=
  Option.bind (ρ a0 0) fun j1 =>
  Option.bind (ag σ j1 ((36 : Int32))) fun x2 =>
  bn (su σ a0 7 x2) fun σ3 =>
  bn ((0 : Int32)) fun y4 =>
  bn ((0 : Int32)) fun y5 =>
  fixN (fun _ _ _ => none) (FX12_lined_15 ρ a0) FU σ3 y4 y5
def MX12_count (σ : Sto) (ρ : Rho) (a0 : Nat) (a1 : Int32) : Option (Int32 × Sto) :=
  Option.bind (ρ a0 0) fun j1 =>
  Option.bind (ag σ j1 ((36 : Int32))) fun x2 =>
  bn (su σ a0 7 x2) fun σ3 =>
  if a1 = (0 : Int32) then
    some ((σ3 a0 7), σ3)
  else
  if a1 = (1 : Int32) then
    Option.bind (MX12_places σ3 a0) fun c4 =>
    some (c4, σ3)
  else
  if a1 = (2 : Int32) then
    Option.bind (ρ a0 0) fun j5 =>
    Option.bind (ag σ3 j5 ((37 : Int32))) fun x6 =>
    some (x6, σ3)
  else
  if a1 = (3 : Int32) then
    Option.bind (MX12_rankWith σ3 ρ a0 ((-1 : Int32))) fun c7 =>
    some (((6 : Int32) - c7.1), c7.2)
  else
  if a1 = (4 : Int32) then
    some ((σ3 a0 6), σ3)
  else
  if a1 = (5 : Int32) then
    some ((σ3 a0 3), σ3)
  else
  if a1 = (6 : Int32) then
    Option.bind (MX12_proper σ3 ρ a0) fun c8 =>
    some (c8.1, c8.2)
  else
  if a1 = (7 : Int32) then
    Option.bind (MX12_lined σ3 ρ a0) fun c9 =>
    some (c9.1, c9.2)
  else
  some ((-1 : Int32), σ3)
def BX12_conic_136 (ρ : Rho) (a0 : Nat) (a1 : Int32) (a2 : Int32) (σ : Sto) : Option (Int32 × Sto) :=
  Option.bind (MX12_told σ ρ a0 a1 a2) fun c1 =>
  some (c1, σ)
def BX12_conic_153 (ρ : Rho) (a0 : Nat) (a1 : Int32) (a2 : Int32) (σ : Sto) : Option (Int32 × Sto) :=
  Option.bind (MX12_kindOf σ ρ a0) fun c1 =>
  if c1.1 = (4 : Int32) then
    Option.bind (MX12_sided c1.2 ρ a0 ((a2 - (7 : Int32)))) fun c2 =>
    some (c2.1, c2.2)
  else
    some ((-1 : Int32), c1.2)
def MX12_conic (σ : Sto) (ρ : Rho) (a0 : Nat) (a1 : Int32) (a2 : Int32) : Option (Int32 × Sto) :=
  Option.bind (MX12_isConic a1) fun c1 =>
  if c1 = 0 then
    some ((-2000000000 : Int32), σ)
  else
    Option.bind (MX12_laysConic σ ρ a0 ((0 : Int32)) a1) fun c2 =>
    Option.bind (MX12_isIn a2 ((10 : Int32)) ((15 : Int32))) fun c3 =>
    if c3 = 0 then
      Option.bind (MX12_isIn a2 ((20 : Int32)) ((25 : Int32))) fun c4 =>
      if c4 = 0 then
        if a2 = (0 : Int32) then
          Option.bind (MX12_sort c2 ρ a0 a1) fun c5 =>
          some (c5, c2)
        else
        if a2 = (1 : Int32) then
          Option.bind (MX12_kindOf c2 ρ a0) fun c6 =>
          some (c6.1, c6.2)
        else
        if a2 = (2 : Int32) then
          Option.bind (MX12_rankOf c2 ρ a0) fun c7 =>
          some (c7.1, c7.2)
        else
        if a2 = (3 : Int32) then
          BX12_conic_136 ρ a0 a1 a2 c2
        else
        if a2 = (4 : Int32) then
          BX12_conic_136 ρ a0 a1 a2 c2
        else
        if a2 = (5 : Int32) then
          BX12_conic_136 ρ a0 a1 a2 c2
        else
        if a2 = (6 : Int32) then
          Option.bind (MX12_pointsOn c2 ρ a0) fun c8 =>
          some (c8.1, c8.2)
        else
        if a2 = (7 : Int32) then
          Option.bind (MX12_linesOn c2 ρ a0) fun c9 =>
          some (c9.1, c9.2)
        else
        if a2 = (8 : Int32) then
          BX12_conic_153 ρ a0 a1 a2 c2
        else
        if a2 = (9 : Int32) then
          BX12_conic_153 ρ a0 a1 a2 c2
        else
        some ((-2000000000 : Int32), c2)
      else
        Option.bind (ρ a0 11) fun j10 =>
        Option.bind (ag c2 j10 ((a2 - (20 : Int32)))) fun x11 =>
        some (x11, c2)
    else
      Option.bind (ρ a0 0) fun j12 =>
      Option.bind (ag c2 j12 (((((6 : Int32) * a1) + a2) - (10 : Int32)))) fun x13 =>
      some (x13, c2)
def MX12_place (σ : Sto) (ρ : Rho) (a0 : Nat) (a1 : Int32) (a2 : Int32) : Option (Int32 × Sto) :=
  Option.bind (MX12_isPlace σ ρ a0 a1) fun c1 =>
  if c1.1 = 0 then
    some ((-1 : Int32), c1.2)
  else
    Option.bind (MX12_isIn a2 ((0 : Int32)) ((2 : Int32))) fun c2 =>
    if c2 = 0 then
      some ((-1 : Int32), c1.2)
    else
      Option.bind (MX12_laysPlace c1.2 a0 a1) fun c3 =>
      if a2 = 0 then
        some ((c3 a0 8), c3)
      else
        if a2 = (1 : Int32) then
          some ((c3 a0 9), c3)
        else
          some ((c3 a0 10), c3)
def MX12_number (σ : Sto) (ρ : Rho) (a0 : Nat) (a1 : Int32) (a2 : Int32) (a3 : Int32) : Option (Int32 × Sto) :=
  Option.bind (ρ a0 0) fun j1 =>
  Option.bind (ag σ j1 ((36 : Int32))) fun x2 =>
  bn (su σ a0 7 x2) fun σ3 =>
  Option.bind (MX12_numberOf σ3 a0 a1 a2 a3) fun c4 =>
  some (c4, σ3)
def MX12_joined (σ : Sto) (ρ : Rho) (a0 : Nat) (a1 : Int32) (a2 : Int32) : Option (Int32 × Sto) :=
  Option.bind (MX12_isPlace σ ρ a0 a1) fun c1 =>
  if c1.1 = 0 then
    some ((-1 : Int32), c1.2)
  else
    Option.bind (MX12_isPlace c1.2 ρ a0 a2) fun c2 =>
    if c2.1 = 0 then
      some ((-1 : Int32), c2.2)
    else
      if a1 = a2 then
        some ((-1 : Int32), c2.2)
      else
        Option.bind (MX12_lineOf c2.2 a0 a1 a2) fun c3 =>
        some (c3.1, c3.2)
def MX12_marked (σ : Sto) (ρ : Rho) (a0 : Nat) (a1 : Int32) : Option (Int32) :=
  Option.bind (ρ a0 0) fun j1 =>
  Option.bind (ag σ j1 ((37 : Int32))) fun x2 =>
  Option.bind (MX12_isIn a1 ((0 : Int32)) ((x2 - (1 : Int32)))) fun c3 =>
  if c3 = 0 then
    some (-1 : Int32)
  else
    Option.bind (ρ a0 0) fun j4 =>
    Option.bind (ag σ j4 (((38 : Int32) + a1))) fun x5 =>
    some x5
def MX12_lies (σ : Sto) (ρ : Rho) (a0 : Nat) (a1 : Int32) (a2 : Int32) : Option (Int32 × Sto) :=
  Option.bind (MX12_isConic a1) fun c1 =>
  if c1 = 0 then
    some ((-1 : Int32), σ)
  else
    Option.bind (MX12_isPlace σ ρ a0 a2) fun c2 =>
    if c2.1 = 0 then
      some ((-1 : Int32), c2.2)
    else
      Option.bind (MX12_laysConic c2.2 ρ a0 ((0 : Int32)) a1) fun c3 =>
      Option.bind (MX12_kindOf c3 ρ a0) fun c4 =>
      Option.bind (MX12_liesOf c4.2 ρ a0 a2 c4.1) fun c5 =>
      some (c5.1, c5.2)
def BX12_on_74 (ρ : Rho) (a0 : Nat) (a1 : Int32) (a2 : Int32) (a3 : Int32) (rec : Sto → Int32 → Int32 → Option (Int32 × Sto)) (σ : Sto) (v4 : Int32) (v5 : Int32) : Option (Int32 × Sto) :=
  bn (v5 + (1 : Int32)) fun y1 =>
  rec σ v4 y1
def BX12_on_62 (ρ : Rho) (a0 : Nat) (a1 : Int32) (a2 : Int32) (a3 : Int32) (rec : Sto → Int32 → Int32 → Option (Int32 × Sto)) (σ : Sto) (v4 : Int32) (v5 : Int32) : Option (Int32 × Sto) :=
  if v4 = a2 then
    some (v5, σ)
  else
    bn (v4 + (1 : Int32)) fun y1 =>
    BX12_on_74 ρ a0 a1 a2 a3 rec σ y1 v5
def FX12_on_25 (ρ : Rho) (a0 : Nat) (a1 : Int32) (a2 : Int32) (a3 : Int32) (rec : Sto → Int32 → Int32 → Option (Int32 × Sto)) (σ : Sto) (v4 : Int32) (v5 : Int32) : Option (Int32 × Sto) :=
  Option.bind (MX12_places σ a0) fun c1 =>
  if c1 ≤ v5 then
    some ((-1 : Int32), σ)
  else
    if a3 = 0 then
      Option.bind (MX12_isOn σ ρ a0 v5) fun c2 =>
      if c2.1 = 0 then
        BX12_on_74 ρ a0 a1 a2 a3 rec c2.2 v4 v5
      else
        BX12_on_62 ρ a0 a1 a2 a3 rec c2.2 v4 v5
    else
      Option.bind (MX12_isOfAll σ ρ a0 v5) fun c3 =>
      if c3.1 = 0 then
        BX12_on_74 ρ a0 a1 a2 a3 rec c3.2 v4 v5
      else
        BX12_on_62 ρ a0 a1 a2 a3 rec c3.2 v4 v5
def MX12_on (σ : Sto) (ρ : Rho) (a0 : Nat) (a1 : Int32) (a2 : Int32) (a3 : Int32) : Option (Int32 × Sto) :=
  Option.bind (MX12_isConic a1) fun c1 =>
  if c1 = 0 then
    some ((-1 : Int32), σ)
  else
    if 0 ≤ a2 then
      Option.bind (MX12_laysConic σ ρ a0 ((0 : Int32)) a1) fun c2 =>
      bn ((0 : Int32)) fun y3 =>
      bn ((0 : Int32)) fun y4 =>
      fixN (fun _ _ _ => none) (FX12_on_25 ρ a0 a1 a2 a3) FU c2 y3 y4
    else
      some ((-1 : Int32), σ)
def MX12_polar (σ : Sto) (ρ : Rho) (a0 : Nat) (a1 : Int32) (a2 : Int32) : Option (Int32 × Sto) :=
  Option.bind (MX12_isConic a1) fun c1 =>
  if c1 = 0 then
    some ((-1 : Int32), σ)
  else
    Option.bind (MX12_isPlace σ ρ a0 a2) fun c2 =>
    if c2.1 = 0 then
      some ((-1 : Int32), c2.2)
    else
      Option.bind (MX12_laysConic c2.2 ρ a0 ((0 : Int32)) a1) fun c3 =>
      Option.bind (MX12_polarOf c3 ρ a0 a2) fun c4 =>
      some (c4.1, c4.2)
def FX12_pole_35 (ρ : Rho) (a0 : Nat) (a1 : Int32) (a2 : Int32) (rec : Sto → Int32 → Option (Int32 × Sto)) (σ : Sto) (v3 : Int32) : Option (Int32 × Sto) :=
  Option.bind (MX12_places σ a0) fun c1 =>
  if c1 ≤ v3 then
    some ((-1 : Int32), σ)
  else
    Option.bind (MX12_polarOf σ ρ a0 v3) fun c2 =>
    if c2.1 = a2 then
      some (v3, c2.2)
    else
      bn (v3 + (1 : Int32)) fun y3 =>
      rec c2.2 y3
def MX12_pole (σ : Sto) (ρ : Rho) (a0 : Nat) (a1 : Int32) (a2 : Int32) : Option (Int32 × Sto) :=
  Option.bind (MX12_isConic a1) fun c1 =>
  if c1 = 0 then
    some ((-1 : Int32), σ)
  else
    Option.bind (MX12_isPlace σ ρ a0 a2) fun c2 =>
    if c2.1 = 0 then
      some ((-1 : Int32), c2.2)
    else
      Option.bind (MX12_laysConic c2.2 ρ a0 ((0 : Int32)) a1) fun c3 =>
      Option.bind (MX12_rankOf c3 ρ a0) fun c4 =>
      if c4.1 = (3 : Int32) then
        bn ((0 : Int32)) fun y5 =>
        fixN (fun _ _ => none) (FX12_pole_35 ρ a0 a1 a2) FU c4.2 y5
      else
        some ((-1 : Int32), c4.2)
def BX12_meets_62 (ρ : Rho) (a0 : Nat) (a1 : Int32) (a2 : Int32) (rec : Sto → Int32 → Int32 → Option (Int32 × Sto)) (σ : Sto) (v4 : Int32) (t0 : Int32) (t1 : Int32) : Option (Int32 × Sto) :=
  bn ((t0 + t1)) fun y1 =>
  bn (v4 + (1 : Int32)) fun y2 =>
  rec σ y1 y2
def BX12_meets_61 (ρ : Rho) (a0 : Nat) (a1 : Int32) (a2 : Int32) (rec : Sto → Int32 → Int32 → Option (Int32 × Sto)) (σ : Sto) (v4 : Int32) (t0 : Int32) : Option (Int32 × Sto) :=
  BX12_meets_62 ρ a0 a1 a2 rec σ v4 t0 ((0 : Int32))
def FX12_meets_28 (ρ : Rho) (a0 : Nat) (a1 : Int32) (a2 : Int32) (rec : Sto → Int32 → Int32 → Option (Int32 × Sto)) (σ : Sto) (v3 : Int32) (v4 : Int32) : Option (Int32 × Sto) :=
  Option.bind (MX12_places σ a0) fun c1 =>
  if c1 ≤ v4 then
    some (v3, σ)
  else
    Option.bind (MX12_isOnLine σ a0 v4 a2) fun c2 =>
    if c2.1 = 0 then
      BX12_meets_61 ρ a0 a1 a2 rec c2.2 v4 v3
    else
      Option.bind (MX12_isOn c2.2 ρ a0 v4) fun c3 =>
      if c3.1 = 0 then
        BX12_meets_61 ρ a0 a1 a2 rec c3.2 v4 v3
      else
        BX12_meets_62 ρ a0 a1 a2 rec c3.2 v4 v3 ((1 : Int32))
def MX12_meets (σ : Sto) (ρ : Rho) (a0 : Nat) (a1 : Int32) (a2 : Int32) : Option (Int32 × Sto) :=
  Option.bind (MX12_isConic a1) fun c1 =>
  if c1 = 0 then
    some ((-1 : Int32), σ)
  else
    Option.bind (MX12_isPlace σ ρ a0 a2) fun c2 =>
    if c2.1 = 0 then
      some ((-1 : Int32), c2.2)
    else
      Option.bind (MX12_laysConic c2.2 ρ a0 ((0 : Int32)) a1) fun c3 =>
      bn ((0 : Int32)) fun y4 =>
      bn ((0 : Int32)) fun y5 =>
      fixN (fun _ _ _ => none) (FX12_meets_28 ρ a0 a1 a2) FU c3 y4 y5
def BX12_isTangent_29 (ρ : Rho) (a0 : Nat) (a1 : Int32) (rec : Sto → Int32 → Option (Int32 × Sto)) (σ : Sto) (v2 : Int32) : Option (Int32 × Sto) :=
  bn (v2 + (1 : Int32)) fun y1 =>
  rec σ y1
def FX12_isTangent_2 (ρ : Rho) (a0 : Nat) (a1 : Int32) (rec : Sto → Int32 → Option (Int32 × Sto)) (σ : Sto) (v2 : Int32) : Option (Int32 × Sto) :=
  Option.bind (MX12_places σ a0) fun c1 =>
  if c1 ≤ v2 then
    zr ((0 : Int32)) (some ((0 : Int32), σ))
  else
    Option.bind (MX12_isOn σ ρ a0 v2) fun c2 =>
    if c2.1 = 0 then
      BX12_isTangent_29 ρ a0 a1 rec c2.2 v2
    else
      Option.bind (MX12_polarOf c2.2 ρ a0 v2) fun c3 =>
      if c3.1 = a1 then
        zr ((1 : Int32)) (some ((1 : Int32), c3.2))
      else
        BX12_isTangent_29 ρ a0 a1 rec c3.2 v2
def MX12_isTangent (σ : Sto) (ρ : Rho) (a0 : Nat) (a1 : Int32) : Option (Int32 × Sto) :=
  bn ((0 : Int32)) fun y1 =>
  fixN (fun _ _ => none) (FX12_isTangent_2 ρ a0 a1) FU σ y1
def BX12_tangent_98 (ρ : Rho) (a0 : Nat) (a1 : Int32) (a2 : Int32) (a3 : Int32) (rec : Sto → Int32 → Int32 → Option (Int32 × Sto)) (σ : Sto) (v4 : Int32) (v5 : Int32) : Option (Int32 × Sto) :=
  bn (v5 + (1 : Int32)) fun y1 =>
  rec σ v4 y1
def FX12_tangent_55 (ρ : Rho) (a0 : Nat) (a1 : Int32) (a2 : Int32) (a3 : Int32) (rec : Sto → Int32 → Int32 → Option (Int32 × Sto)) (σ : Sto) (v4 : Int32) (v5 : Int32) : Option (Int32 × Sto) :=
  Option.bind (MX12_places σ a0) fun c1 =>
  if c1 ≤ v5 then
    some ((-1 : Int32), σ)
  else
    Option.bind (MX12_isOnLine σ a0 a2 v5) fun c2 =>
    if c2.1 = 0 then
      BX12_tangent_98 ρ a0 a1 a2 a3 rec c2.2 v4 v5
    else
      Option.bind (MX12_isTangent c2.2 ρ a0 v5) fun c3 =>
      if c3.1 = 0 then
        BX12_tangent_98 ρ a0 a1 a2 a3 rec c3.2 v4 v5
      else
        if v4 = a3 then
          some (v5, c3.2)
        else
          bn (v4 + (1 : Int32)) fun y4 =>
          BX12_tangent_98 ρ a0 a1 a2 a3 rec c3.2 y4 v5
def MX12_tangent (σ : Sto) (ρ : Rho) (a0 : Nat) (a1 : Int32) (a2 : Int32) (a3 : Int32) : Option (Int32 × Sto) :=
  Option.bind (MX12_isConic a1) fun c1 =>
  if c1 = 0 then
    some ((-1 : Int32), σ)
  else
    Option.bind (MX12_isPlace σ ρ a0 a2) fun c2 =>
    if c2.1 = 0 then
      some ((-1 : Int32), c2.2)
    else
      if (-1 : Int32) ≤ a3 then
        Option.bind (MX12_laysConic c2.2 ρ a0 ((0 : Int32)) a1) fun c3 =>
        Option.bind (MX12_rankOf c3 ρ a0) fun c4 =>
        if c4.1 = (3 : Int32) then
          if a3 = (-1 : Int32) then
            Option.bind (MX12_tangents c4.2 ρ a0 a2) fun c7 =>
            some (c7.1, c7.2)
          else
            bn ((0 : Int32)) fun y5 =>
            bn ((0 : Int32)) fun y6 =>
            fixN (fun _ _ _ => none) (FX12_tangent_55 ρ a0 a1 a2 a3) FU c4.2 y5 y6
        else
          some ((-1 : Int32), c4.2)
      else
        some ((-1 : Int32), c2.2)
def BX12_isPencil_45 (ρ : Rho) (a0 : Nat) (a1 : Int32) (a2 : Int32) (rec : Sto → Int32 → Option (Int32 × Sto)) (k63 : Sto → Option (Int32 × Sto)) (σ : Sto) (v3 : Int32) (t0 : Nat) (t1 : Int32) (t2 : Int32) : Option (Int32 × Sto) :=
  Option.bind (MX12_laysConic σ ρ t0 t1 t2) fun c1 =>
  Option.bind (MX12_isVoid c1 ρ a0) fun c2 =>
  if c2 = 0 then
    bn (v3 + (1 : Int32)) fun y3 =>
    rec c1 y3
  else
    zr ((0 : Int32)) (some ((0 : Int32), c1))
def BX12_isPencil_134 (ρ : Rho) (a0 : Nat) (a1 : Int32) (a2 : Int32) (rec : Sto → Int32 → Int32 → Int32 → Option (Int32 × Sto)) (k142 : Sto → Int32 → Int32 → Option (Int32 × Sto)) (σ : Sto) (v3 : Int32) (v5 : Int32) (t0 : Int32) : Option (Int32 × Sto) :=
  bn t0 fun y1 =>
  bn (v5 + (1 : Int32)) fun y2 =>
  rec σ v3 y1 y2
def BX12_isPencil_133 (ρ : Rho) (a0 : Nat) (a1 : Int32) (a2 : Int32) (rec : Sto → Int32 → Int32 → Int32 → Option (Int32 × Sto)) (k142 : Sto → Int32 → Int32 → Option (Int32 × Sto)) (σ : Sto) (v3 : Int32) (v5 : Int32) : Option (Int32 × Sto) :=
  BX12_isPencil_134 ρ a0 a1 a2 rec k142 σ v3 v5 ((0 : Int32))
def BX12_isPencil_142 (ρ : Rho) (a0 : Nat) (a1 : Int32) (a2 : Int32) (rec : Sto → Int32 → Option (Int32 × Sto)) (σ : Sto) (v3 : Int32) (v4 : Int32) : Option (Int32 × Sto) :=
  if v4 = 0 then
    bn (v3 + (1 : Int32)) fun y1 =>
    rec σ y1
  else
    zr ((0 : Int32)) (some ((0 : Int32), σ))
def FX12_isPencil_79 (ρ : Rho) (a0 : Nat) (a1 : Int32) (a2 : Int32) (k142 : Sto → Int32 → Int32 → Option (Int32 × Sto)) (rec : Sto → Int32 → Int32 → Int32 → Option (Int32 × Sto)) (σ : Sto) (v3 : Int32) (v4 : Int32) (v5 : Int32) : Option (Int32 × Sto) :=
  if (6 : Int32) ≤ v5 then
    k142 σ v3 v4
  else
    if v4 = 0 then
      BX12_isPencil_133 ρ a0 a1 a2 rec k142 σ v3 v5
    else
      Option.bind (ρ a0 0) fun j1 =>
      Option.bind (ag σ j1 ((((6 : Int32) * a1) + v5))) fun x2 =>
      Option.bind (MX12_rest σ a0 x2) fun c3 =>
      Option.bind (ρ a0 0) fun j4 =>
      Option.bind (ag σ j4 ((((6 : Int32) * a2) + v5))) fun x5 =>
      Option.bind (MX12_rest σ a0 (((v3 * c3) - x5))) fun c6 =>
      if c6 = 0 then
        BX12_isPencil_134 ρ a0 a1 a2 rec k142 σ v3 v5 ((1 : Int32))
      else
        BX12_isPencil_133 ρ a0 a1 a2 rec k142 σ v3 v5
def FX12_isPencil_65 (ρ : Rho) (a0 : Nat) (a1 : Int32) (a2 : Int32) (rec : Sto → Int32 → Option (Int32 × Sto)) (σ : Sto) (v3 : Int32) : Option (Int32 × Sto) :=
  if (σ a0 7) ≤ v3 then
    zr ((1 : Int32)) (some ((1 : Int32), σ))
  else
    bn ((1 : Int32)) fun y1 =>
    bn ((0 : Int32)) fun y2 =>
    fixN (fun _ _ _ _ => none) (FX12_isPencil_79 ρ a0 a1 a2 (BX12_isPencil_142 ρ a0 a1 a2 rec)) FU σ v3 y1 y2
def BX12_isPencil_63 (ρ : Rho) (a0 : Nat) (a1 : Int32) (a2 : Int32) (σ : Sto) : Option (Int32 × Sto) :=
  bn ((1 : Int32)) fun y1 =>
  fixN (fun _ _ => none) (FX12_isPencil_65 ρ a0 a1 a2) FU σ y1
def FX12_isPencil_29 (ρ : Rho) (a0 : Nat) (a1 : Int32) (a2 : Int32) (k63 : Sto → Option (Int32 × Sto)) (rec : Sto → Int32 → Option (Int32 × Sto)) (σ : Sto) (v3 : Int32) : Option (Int32 × Sto) :=
  if (2 : Int32) ≤ v3 then
    k63 σ
  else
    if v3 = 0 then
      BX12_isPencil_45 ρ a0 a1 a2 rec k63 σ v3 a0 ((0 : Int32)) a1
    else
      BX12_isPencil_45 ρ a0 a1 a2 rec k63 σ v3 a0 ((0 : Int32)) a2
def MX12_isPencil (σ : Sto) (ρ : Rho) (a0 : Nat) (a1 : Int32) (a2 : Int32) : Option (Int32 × Sto) :=
  Option.bind (MX12_isConic a1) fun c1 =>
  if c1 = 0 then
    zr ((0 : Int32)) (some ((0 : Int32), σ))
  else
    Option.bind (MX12_isConic a2) fun c2 =>
    if c2 = 0 then
      zr ((0 : Int32)) (some ((0 : Int32), σ))
    else
      Option.bind (ρ a0 0) fun j3 =>
      Option.bind (ag σ j3 ((36 : Int32))) fun x4 =>
      bn (su σ a0 7 x4) fun σ5 =>
      bn ((0 : Int32)) fun y6 =>
      fixN (fun _ _ => none) (FX12_isPencil_29 ρ a0 a1 a2 (BX12_isPencil_63 ρ a0 a1 a2)) FU σ5 y6
def BX12_laysMember_77 (ρ : Rho) (a0 : Nat) (a1 : Int32) (a2 : Int32) (a3 : Int32) (rec : Sto → Int32 → Option (Sto)) (σ : Sto) (v4 : Int32) (t0 : Nat) (t1 : Int32) (t2 : Int32) : Option (Sto) :=
  Option.bind (ap σ t0 t1 t2) fun σ1 =>
  bn (v4 + (1 : Int32)) fun y2 =>
  rec σ1 y2
def FX12_laysMember_3 (ρ : Rho) (a0 : Nat) (a1 : Int32) (a2 : Int32) (a3 : Int32) (rec : Sto → Int32 → Option (Sto)) (σ : Sto) (v4 : Int32) : Option (Sto) :=
  if (6 : Int32) ≤ v4 then
    some σ
  else
    Option.bind (ρ a0 0) fun j1 =>
    Option.bind (ag σ j1 ((((6 : Int32) * a1) + v4))) fun x2 =>
    Option.bind (MX12_rest σ a0 x2) fun c3 =>
    bn c3 fun y4 =>
    Option.bind (ρ a0 0) fun j5 =>
    Option.bind (ag σ j5 ((((6 : Int32) * a2) + v4))) fun x6 =>
    Option.bind (MX12_rest σ a0 x6) fun c7 =>
    bn c7 fun y8 =>
    Option.bind (ρ a0 11) fun j9 =>
    if a3 = (σ a0 7) then
      BX12_laysMember_77 ρ a0 a1 a2 a3 rec σ v4 j9 v4 y4
    else
      Option.bind (rmi (((y4 * a3) + y8)) ((σ a0 7))) fun z10 =>
      BX12_laysMember_77 ρ a0 a1 a2 a3 rec σ v4 j9 v4 z10
def MX12_laysMember (σ : Sto) (ρ : Rho) (a0 : Nat) (a1 : Int32) (a2 : Int32) (a3 : Int32) : Option (Sto) :=
  bn ((0 : Int32)) fun y1 =>
  fixN (fun _ _ => none) (FX12_laysMember_3 ρ a0 a1 a2 a3) FU σ y1
def MX12_isBase (σ : Sto) (ρ : Rho) (a0 : Nat) (a1 : Int32) (a2 : Int32) (a3 : Int32) : Option (Int32 × Sto) :=
  Option.bind (MX12_laysConic σ ρ a0 ((0 : Int32)) a1) fun c1 =>
  Option.bind (MX12_isOn c1 ρ a0 a3) fun c2 =>
  bn c2.1 fun y3 =>
  Option.bind (MX12_laysConic c2.2 ρ a0 ((0 : Int32)) a2) fun c4 =>
  if y3 = 0 then
    zr ((0 : Int32)) (some ((0 : Int32), c4))
  else
    Option.bind (MX12_isOn c4 ρ a0 a3) fun c5 =>
    if c5.1 = 0 then
      zr ((0 : Int32)) (some ((0 : Int32), c5.2))
    else
      zr ((1 : Int32)) (some ((1 : Int32), c5.2))
def BX12_base_41 (ρ : Rho) (a0 : Nat) (a1 : Int32) (a2 : Int32) (a3 : Int32) (rec : Sto → Int32 → Int32 → Option (Int32 × Sto)) (k47 : Sto → Int32 → Option (Int32 × Sto)) (σ : Sto) (v4 : Int32) (v5 : Int32) : Option (Int32 × Sto) :=
  bn (v5 + (1 : Int32)) fun y1 =>
  rec σ v4 y1
def BX12_base_47 (ρ : Rho) (a0 : Nat) (a1 : Int32) (a2 : Int32) (a3 : Int32) (σ : Sto) (v4 : Int32) : Option (Int32 × Sto) :=
  some (((-1 : Int32) - v4), σ)
def FX12_base_6 (ρ : Rho) (a0 : Nat) (a1 : Int32) (a2 : Int32) (a3 : Int32) (k47 : Sto → Int32 → Option (Int32 × Sto)) (rec : Sto → Int32 → Int32 → Option (Int32 × Sto)) (σ : Sto) (v4 : Int32) (v5 : Int32) : Option (Int32 × Sto) :=
  Option.bind (MX12_places σ a0) fun c1 =>
  if c1 ≤ v5 then
    k47 σ v4
  else
    Option.bind (MX12_isBase σ ρ a0 a1 a2 v5) fun c2 =>
    if c2.1 = 0 then
      BX12_base_41 ρ a0 a1 a2 a3 rec k47 c2.2 v4 v5
    else
      if v4 = a3 then
        some (v5, c2.2)
      else
        bn (v4 + (1 : Int32)) fun y3 =>
        BX12_base_41 ρ a0 a1 a2 a3 rec k47 c2.2 y3 v5
def MX12_base (σ : Sto) (ρ : Rho) (a0 : Nat) (a1 : Int32) (a2 : Int32) (a3 : Int32) : Option (Int32 × Sto) :=
  bn ((0 : Int32)) fun y1 =>
  bn ((0 : Int32)) fun y2 =>
  fixN (fun _ _ _ => none) (FX12_base_6 ρ a0 a1 a2 a3 (BX12_base_47 ρ a0 a1 a2 a3)) FU σ y1 y2
def BX12_fallen_36 (ρ : Rho) (a0 : Nat) (a1 : Int32) (a2 : Int32) (rec : Sto → Int32 → Int32 → Option (Int32 × Sto)) (σ : Sto) (v4 : Int32) (t0 : Int32) (t1 : Int32) : Option (Int32 × Sto) :=
  bn ((t0 + t1)) fun y1 =>
  bn (v4 + (1 : Int32)) fun y2 =>
  rec σ y1 y2
def FX12_fallen_5 (ρ : Rho) (a0 : Nat) (a1 : Int32) (a2 : Int32) (rec : Sto → Int32 → Int32 → Option (Int32 × Sto)) (σ : Sto) (v3 : Int32) (v4 : Int32) : Option (Int32 × Sto) :=
  if (σ a0 7) < v4 then
    some (v3, σ)
  else
    Option.bind (MX12_laysMember σ ρ a0 a1 a2 v4) fun c1 =>
    Option.bind (MX12_rankOf c1 ρ a0) fun c2 =>
    if (3 : Int32) ≤ c2.1 then
      BX12_fallen_36 ρ a0 a1 a2 rec c2.2 v4 v3 ((0 : Int32))
    else
      BX12_fallen_36 ρ a0 a1 a2 rec c2.2 v4 v3 ((1 : Int32))
def MX12_fallen (σ : Sto) (ρ : Rho) (a0 : Nat) (a1 : Int32) (a2 : Int32) : Option (Int32 × Sto) :=
  bn ((0 : Int32)) fun y1 =>
  bn ((0 : Int32)) fun y2 =>
  fixN (fun _ _ _ => none) (FX12_fallen_5 ρ a0 a1 a2) FU σ y1 y2
def BX12_touching_104 (ρ : Rho) (a0 : Nat) (a1 : Int32) (a2 : Int32) (rec : Sto → Int32 → Int32 → Option (Int32 × Sto)) (σ : Sto) (v4 : Int32) (v5 : Int32) : Option (Int32 × Sto) :=
  bn (v5 + (1 : Int32)) fun y1 =>
  rec σ v4 y1
def BX12_touching_101 (ρ : Rho) (a0 : Nat) (a1 : Int32) (a2 : Int32) (rec : Sto → Int32 → Int32 → Option (Int32 × Sto)) (σ : Sto) (v5 : Int32) (t0 : Int32) (t1 : Int32) : Option (Int32 × Sto) :=
  bn ((t0 + t1)) fun y1 =>
  BX12_touching_104 ρ a0 a1 a2 rec σ y1 v5
def FX12_touching_46 (ρ : Rho) (a0 : Nat) (a1 : Int32) (a2 : Int32) (rec : Sto → Int32 → Int32 → Option (Int32 × Sto)) (σ : Sto) (v4 : Int32) (v5 : Int32) : Option (Int32 × Sto) :=
  Option.bind (MX12_places σ a0) fun c1 =>
  if c1 ≤ v5 then
    some (v4, σ)
  else
    Option.bind (MX12_isBase σ ρ a0 a1 a2 v5) fun c2 =>
    if c2.1 = 0 then
      BX12_touching_104 ρ a0 a1 a2 rec c2.2 v4 v5
    else
      Option.bind (MX12_polarOf c2.2 ρ a0 v5) fun c3 =>
      bn c3.1 fun y4 =>
      Option.bind (MX12_laysConic c3.2 ρ a0 ((0 : Int32)) a1) fun c5 =>
      Option.bind (MX12_polarOf c5 ρ a0 v5) fun c6 =>
      if c6.1 = y4 then
        BX12_touching_101 ρ a0 a1 a2 rec c6.2 v5 v4 ((1 : Int32))
      else
        BX12_touching_101 ρ a0 a1 a2 rec c6.2 v5 v4 ((0 : Int32))
def BX12_touching_19 (ρ : Rho) (a0 : Nat) (a1 : Int32) (a2 : Int32) (σ : Sto) (t0 : Int32) : Option (Int32 × Sto) :=
  bn t0 fun y1 =>
  Option.bind (MX12_laysConic σ ρ a0 ((0 : Int32)) a2) fun c2 =>
  if y1 = 0 then
    some ((-1 : Int32), c2)
  else
    Option.bind (MX12_rankOf c2 ρ a0) fun c3 =>
    if c3.1 = (3 : Int32) then
      bn ((0 : Int32)) fun y4 =>
      bn ((0 : Int32)) fun y5 =>
      fixN (fun _ _ _ => none) (FX12_touching_46 ρ a0 a1 a2) FU c3.2 y4 y5
    else
      some ((-1 : Int32), c3.2)
def MX12_touching (σ : Sto) (ρ : Rho) (a0 : Nat) (a1 : Int32) (a2 : Int32) : Option (Int32 × Sto) :=
  Option.bind (MX12_laysConic σ ρ a0 ((0 : Int32)) a1) fun c1 =>
  Option.bind (MX12_rankOf c1 ρ a0) fun c2 =>
  if c2.1 = (3 : Int32) then
    BX12_touching_19 ρ a0 a1 a2 c2.2 ((1 : Int32))
  else
    BX12_touching_19 ρ a0 a1 a2 c2.2 ((0 : Int32))
def MX12_pencil (σ : Sto) (ρ : Rho) (a0 : Nat) (a1 : Int32) (a2 : Int32) (a3 : Int32) : Option (Int32 × Sto) :=
  Option.bind (MX12_isPencil σ ρ a0 a1 a2) fun c1 =>
  if c1.1 = 0 then
    some ((-1 : Int32), c1.2)
  else
    if a3 = 0 then
      Option.bind (MX12_base c1.2 ρ a0 a1 a2 ((-1 : Int32))) fun c14 =>
      some (((-1 : Int32) - c14.1), c14.2)
    else
      if a3 = (1 : Int32) then
        Option.bind (MX12_fallen c1.2 ρ a0 a1 a2) fun c13 =>
        some (c13.1, c13.2)
      else
        if a3 = (2 : Int32) then
          Option.bind (MX12_touching c1.2 ρ a0 a1 a2) fun c12 =>
          some (c12.1, c12.2)
        else
          Option.bind (MX12_isIn a3 ((100 : Int32)) ((999 : Int32))) fun c2 =>
          if c2 = 0 then
            Option.bind (rmi a3 ((1000 : Int32))) fun z3 =>
            bn z3 fun y4 =>
            Option.bind (MX12_isIn a3 ((1000 : Int32)) ((3999 : Int32))) fun c5 =>
            if c5 = 0 then
              some ((-1 : Int32), c1.2)
            else
              if y4 ≤ (c1.2 a0 7) then
                Option.bind (MX12_laysMember c1.2 ρ a0 a1 a2 y4) fun c6 =>
                if (2000 : Int32) ≤ a3 then
                  if (3000 : Int32) ≤ a3 then
                    Option.bind (MX12_linesOn c6 ρ a0) fun c7 =>
                    some (c7.1, c7.2)
                  else
                    Option.bind (MX12_pointsOn c6 ρ a0) fun c8 =>
                    some (c8.1, c8.2)
                else
                  Option.bind (MX12_kindOf c6 ρ a0) fun c9 =>
                  some (c9.1, c9.2)
              else
                some ((-1 : Int32), c1.2)
          else
            Option.bind (MX12_base c1.2 ρ a0 a1 a2 ((a3 - (100 : Int32)))) fun c10 =>
            bn c10.1 fun y11 =>
            if 0 ≤ y11 then
              some (y11, c10.2)
            else
              some ((-1 : Int32), c10.2)
def MX12_member (σ : Sto) (ρ : Rho) (a0 : Nat) (a1 : Int32) (a2 : Int32) (a3 : Int32) (a4 : Int32) : Option (Int32 × Sto) :=
  Option.bind (MX12_isPencil σ ρ a0 a1 a2) fun c1 =>
  if c1.1 = 0 then
    some ((-1 : Int32), c1.2)
  else
    Option.bind (MX12_isIn a3 ((0 : Int32)) ((c1.2 a0 7))) fun c2 =>
    if c2 = 0 then
      some ((-1 : Int32), c1.2)
    else
      Option.bind (MX12_isIn a4 ((0 : Int32)) ((5 : Int32))) fun c3 =>
      if c3 = 0 then
        some ((-1 : Int32), c1.2)
      else
        Option.bind (MX12_laysMember c1.2 ρ a0 a1 a2 a3) fun c4 =>
        Option.bind (ρ a0 11) fun j5 =>
        Option.bind (ag c4 j5 a4) fun x6 =>
        some (x6, c4)
def FX12_passing_22 (ρ : Rho) (a0 : Nat) (a1 : Int32) (a2 : Int32) (a3 : Int32) (rec : Sto → Int32 → Option (Int32 × Sto)) (σ : Sto) (v4 : Int32) : Option (Int32 × Sto) :=
  if (σ a0 7) < v4 then
    some ((-1 : Int32), σ)
  else
    Option.bind (MX12_laysMember σ ρ a0 a1 a2 v4) fun c1 =>
    Option.bind (MX12_isOn c1 ρ a0 a3) fun c2 =>
    if c2.1 = 0 then
      bn (v4 + (1 : Int32)) fun y3 =>
      rec c2.2 y3
    else
      some (v4, c2.2)
def MX12_passing (σ : Sto) (ρ : Rho) (a0 : Nat) (a1 : Int32) (a2 : Int32) (a3 : Int32) : Option (Int32 × Sto) :=
  Option.bind (MX12_isPencil σ ρ a0 a1 a2) fun c1 =>
  if c1.1 = 0 then
    some ((-1 : Int32), c1.2)
  else
    Option.bind (MX12_isPlace c1.2 ρ a0 a3) fun c2 =>
    if c2.1 = 0 then
      some ((-1 : Int32), c2.2)
    else
      bn ((0 : Int32)) fun y3 =>
      fixN (fun _ _ => none) (FX12_passing_22 ρ a0 a1 a2 a3) FU c2.2 y3
def MX12_only (σ : Sto) (ρ : Rho) (a0 : Nat) (a1 : Int32) : Option (Int32 × Sto) :=
  Option.bind (MX12_isIn a1 ((0 : Int32)) ((5 : Int32))) fun c1 =>
  if c1 = 0 then
    some ((-1 : Int32), σ)
  else
    Option.bind (MX12_hasOne σ ρ a0) fun c2 =>
    if c2.1 = 0 then
      some ((-1 : Int32), c2.2)
    else
      Option.bind (ρ a0 13) fun j3 =>
      Option.bind (ag c2.2 j3 a1) fun x4 =>
      some (x4, c2.2)
def MX12_freed (σ : Sto) (ρ : Rho) (a0 : Nat) (a1 : Int32) : Option (Int32 × Sto) :=
  Option.bind (MX12_isPlace σ ρ a0 a1) fun c1 =>
  if c1.1 = 0 then
    some ((-1 : Int32), c1.2)
  else
    Option.bind (MX12_markOf c1.2 ρ a0 ((0 : Int32)) a1) fun c2 =>
    if c2 = (-1 : Int32) then
      Option.bind (MX12_rankWith c1.2 ρ a0 a1) fun c3 =>
      some (((6 : Int32) - c3.1), c3.2)
    else
      some ((-1 : Int32), c1.2)
def BX12_useful_43 (ρ : Rho) (a0 : Nat) (rec : Sto → Int32 → Int32 → Int32 → Option (Int32 × Sto)) (σ : Sto) (v1 : Int32) (v3 : Int32) (t0 : Int32) (t1 : Int32) : Option (Int32 × Sto) :=
  bn ((t0 + t1)) fun y1 =>
  bn (v3 + (1 : Int32)) fun y2 =>
  rec σ v1 y1 y2
def BX12_useful_42 (ρ : Rho) (a0 : Nat) (rec : Sto → Int32 → Int32 → Int32 → Option (Int32 × Sto)) (σ : Sto) (v1 : Int32) (v3 : Int32) (t0 : Int32) : Option (Int32 × Sto) :=
  BX12_useful_43 ρ a0 rec σ v1 v3 t0 ((0 : Int32))
def FX12_useful_10 (ρ : Rho) (a0 : Nat) (rec : Sto → Int32 → Int32 → Int32 → Option (Int32 × Sto)) (σ : Sto) (v1 : Int32) (v2 : Int32) (v3 : Int32) : Option (Int32 × Sto) :=
  Option.bind (MX12_places σ a0) fun c1 =>
  if c1 ≤ v3 then
    some (v2, σ)
  else
    Option.bind (MX12_markOf σ ρ a0 ((0 : Int32)) v3) fun c2 =>
    if c2 = (-1 : Int32) then
      Option.bind (MX12_rankWith σ ρ a0 v3) fun c3 =>
      if c3.1 ≤ v1 then
        BX12_useful_42 ρ a0 rec c3.2 v1 v3 v2
      else
        BX12_useful_43 ρ a0 rec c3.2 v1 v3 v2 ((1 : Int32))
    else
      BX12_useful_42 ρ a0 rec σ v1 v3 v2
def MX12_useful (σ : Sto) (ρ : Rho) (a0 : Nat) : Option (Int32 × Sto) :=
  Option.bind (MX12_rankWith σ ρ a0 ((-1 : Int32))) fun c1 =>
  bn c1.1 fun y2 =>
  bn ((0 : Int32)) fun y3 =>
  bn ((0 : Int32)) fun y4 =>
  fixN (fun _ _ _ _ => none) (FX12_useful_10 ρ a0) FU c1.2 y2 y3 y4
def BX12_feed_71 (ρ : Rho) (a0 : Nat) (a1 : Int32) (a2 : Int32) (a3 : Int32) (a4 : Int32) (a5 : Int32) (rec : Sto → Int32 → Option (Int32 × Sto)) (k108 : Sto → Option (Int32 × Sto)) (σ : Sto) (v6 : Int32) (t0 : Int32) : Option (Int32 × Sto) :=
  bn t0 fun y1 =>
  Option.bind (ρ a0 1) fun j2 =>
  Option.bind (ap σ j2 (((σ a0 3) + v6)) (((y1 >>> (((24 : Int32) - ((8 : Int32) * (v6 &&& (3 : Int32)))) &&& 31)) &&& (255 : Int32)))) fun σ3 =>
  bn (v6 + (1 : Int32)) fun y4 =>
  rec σ3 y4
def BX12_feed_108 (ρ : Rho) (a0 : Nat) (a1 : Int32) (a2 : Int32) (a3 : Int32) (a4 : Int32) (a5 : Int32) (σ : Sto) : Option (Int32 × Sto) :=
  bn (su σ a0 3 (((σ a0 3) + (20 : Int32)))) fun σ1 =>
  some ((σ1 a0 3), σ1)
def FX12_feed_18 (ρ : Rho) (a0 : Nat) (a1 : Int32) (a2 : Int32) (a3 : Int32) (a4 : Int32) (a5 : Int32) (k108 : Sto → Option (Int32 × Sto)) (rec : Sto → Int32 → Option (Int32 × Sto)) (σ : Sto) (v6 : Int32) : Option (Int32 × Sto) :=
  if (20 : Int32) ≤ v6 then
    k108 σ
  else
    if (4 : Int32) ≤ v6 then
      if (8 : Int32) ≤ v6 then
        if (12 : Int32) ≤ v6 then
          if (16 : Int32) ≤ v6 then
            BX12_feed_71 ρ a0 a1 a2 a3 a4 a5 rec k108 σ v6 a5
          else
            BX12_feed_71 ρ a0 a1 a2 a3 a4 a5 rec k108 σ v6 a4
        else
          BX12_feed_71 ρ a0 a1 a2 a3 a4 a5 rec k108 σ v6 a3
      else
        BX12_feed_71 ρ a0 a1 a2 a3 a4 a5 rec k108 σ v6 a2
    else
      BX12_feed_71 ρ a0 a1 a2 a3 a4 a5 rec k108 σ v6 a1
def MX12_feed (σ : Sto) (ρ : Rho) (a0 : Nat) (a1 : Int32) (a2 : Int32) (a3 : Int32) (a4 : Int32) (a5 : Int32) : Option (Int32 × Sto) :=
  if ((σ a0 3) + (20 : Int32)) ≤ (500 : Int32) then
    bn ((0 : Int32)) fun y1 =>
    fixN (fun _ _ => none) (FX12_feed_18 ρ a0 a1 a2 a3 a4 a5 (BX12_feed_108 ρ a0 a1 a2 a3 a4 a5)) FU σ y1
  else
    some ((-1 : Int32), σ)
def MX12_end (σ : Sto) (a0 : Nat) (a1 : Int32) : Option (Int32 × Sto) :=
  Option.bind (MX12_isIn a1 ((0 : Int32)) ((σ a0 3))) fun c1 =>
  if c1 = 0 then
    some ((-1 : Int32), σ)
  else
    bn (su σ a0 3 a1) fun σ2 =>
    some (a1, σ2)
def MX12_fault (σ : Sto) (a0 : Nat) (a1 : Int32) : Option (Int32) :=
  if a1 = 0 then
    some (σ a0 4)
  else
    if a1 = (1 : Int32) then
      some (σ a0 5)
    else
      some (-1 : Int32)
def MX12_byteAt (σ : Sto) (ρ : Rho) (a0 : Nat) (a1 : Int32) : Option (Int32) :=
  if (σ a0 14) ≤ a1 then
    some (-1 : Int32)
  else
    Option.bind (ρ a0 1) fun j1 =>
    Option.bind (ag σ j1 a1) fun x2 =>
    some x2
def MX12_isLetter (a0 : Int32) : Option (Int32) :=
  if a0 < (97 : Int32) then
    zr ((0 : Int32)) (some (0 : Int32))
  else
    if (122 : Int32) < a0 then
      zr ((0 : Int32)) (some (0 : Int32))
    else
      zr ((1 : Int32)) (some (1 : Int32))
def MX12_isDigit (a0 : Int32) : Option (Int32) :=
  if a0 < (48 : Int32) then
    zr ((0 : Int32)) (some (0 : Int32))
  else
    if (57 : Int32) < a0 then
      zr ((0 : Int32)) (some (0 : Int32))
    else
      zr ((1 : Int32)) (some (1 : Int32))
def BX12_takes_26 (ρ : Rho) (a0 : Nat) (rec : Sto → Option (Sto)) (k39 : Sto → Option (Sto)) (σ : Sto) : Option (Sto) :=
  bn (su σ a0 15 (((σ a0 15) + (1 : Int32)))) fun σ1 =>
  rec σ1
def BX12_takes_139 (ρ : Rho) (a0 : Nat) (rec : Sto → Option (Sto)) (k155 : Sto → Option (Sto)) (σ : Sto) (t0 : Nat) (t1 : Int64) : Option (Sto) :=
  bn (su (su σ t0 18 (jlo t1)) t0 1018 (jhi t1)) fun σ1 =>
  bn (su σ1 a0 15 (((σ1 a0 15) + (1 : Int32)))) fun σ2 =>
  rec σ2
def BX12_takes_155 (ρ : Rho) (a0 : Nat) (σ : Sto) : Option (Sto) :=
  bn (su σ a0 16 ((1 : Int32))) fun σ1 =>
  some σ1
def FX12_takes_80 (ρ : Rho) (a0 : Nat) (k155 : Sto → Option (Sto)) (rec : Sto → Option (Sto)) (σ : Sto) : Option (Sto) :=
  Option.bind (MX12_byteAt σ ρ a0 ((σ a0 15))) fun c1 =>
  Option.bind (MX12_isLetter c1) fun c2 =>
  if c2 = 0 then
    k155 σ
  else
    if (9 : Int32) ≤ ((σ a0 15) - (σ a0 17)) then
      BX12_takes_139 ρ a0 rec k155 σ a0 ((-1 : Int64))
    else
      Option.bind (MX12_byteAt σ ρ a0 ((σ a0 15))) fun c3 =>
      BX12_takes_139 ρ a0 rec k155 σ a0 ((((((27 : Int64) * (jn (σ a0 18) (σ a0 1018))) + c3.toInt64) - (97 : Int64)) + (1 : Int64)))
def BX12_takes_227 (ρ : Rho) (a0 : Nat) (rec : Sto → Option (Sto)) (k243 : Sto → Option (Sto)) (σ : Sto) (t0 : Nat) (t1 : Int64) : Option (Sto) :=
  bn (su (su σ t0 18 (jlo t1)) t0 1018 (jhi t1)) fun σ1 =>
  bn (su σ1 a0 15 (((σ1 a0 15) + (1 : Int32)))) fun σ2 =>
  rec σ2
def BX12_takes_262 (ρ : Rho) (a0 : Nat) (σ : Sto) (t0 : Nat) (t1 : Int32) : Option (Sto) :=
  bn (su σ t0 16 t1) fun σ1 =>
  some σ1
def BX12_takes_243 (ρ : Rho) (a0 : Nat) (σ : Sto) : Option (Sto) :=
  if ((σ a0 15) - (σ a0 17)) ≤ (3 : Int32) then
    BX12_takes_262 ρ a0 σ a0 ((2 : Int32))
  else
    BX12_takes_262 ρ a0 σ a0 ((4 : Int32))
def FX12_takes_170 (ρ : Rho) (a0 : Nat) (k243 : Sto → Option (Sto)) (rec : Sto → Option (Sto)) (σ : Sto) : Option (Sto) :=
  Option.bind (MX12_byteAt σ ρ a0 ((σ a0 15))) fun c1 =>
  Option.bind (MX12_isDigit c1) fun c2 =>
  if c2 = 0 then
    k243 σ
  else
    if (3 : Int32) ≤ ((σ a0 15) - (σ a0 17)) then
      BX12_takes_227 ρ a0 rec k243 σ a0 ((jn (σ a0 18) (σ a0 1018)))
    else
      Option.bind (MX12_byteAt σ ρ a0 ((σ a0 15))) fun c3 =>
      BX12_takes_227 ρ a0 rec k243 σ a0 (((((10 : Int64) * (jn (σ a0 18) (σ a0 1018))) + c3.toInt64) - (48 : Int64)))
def BX12_takes_302 (ρ : Rho) (a0 : Nat) (σ : Sto) (t0 : Nat) (t1 : Int32) : Option (Sto) :=
  bn (su σ t0 16 t1) fun σ1 =>
  some σ1
def BX12_takes_297 (ρ : Rho) (a0 : Nat) (σ : Sto) (t0 : Nat) : Option (Sto) :=
  BX12_takes_302 ρ a0 σ t0 ((3 : Int32))
def BX12_takes_39 (ρ : Rho) (a0 : Nat) (σ : Sto) : Option (Sto) :=
  bn (su σ a0 17 ((σ a0 15))) fun σ1 =>
  Option.bind (MX12_byteAt σ1 ρ a0 ((σ1 a0 15))) fun c2 =>
  bn c2 fun y3 =>
  bn (su (su σ1 a0 18 (jlo ((0 : Int64)))) a0 1018 (jhi ((0 : Int64)))) fun σ4 =>
  if 0 ≤ y3 then
    Option.bind (MX12_isLetter y3) fun c5 =>
    if c5 = 0 then
      Option.bind (MX12_isDigit y3) fun c6 =>
      if c6 = 0 then
        bn (su σ4 a0 15 (((σ4 a0 15) + (1 : Int32)))) fun σ7 =>
        bn (su (su σ7 a0 18 (jlo y3.toInt64)) a0 1018 (jhi y3.toInt64)) fun σ8 =>
        if y3 = (59 : Int32) then
          BX12_takes_297 ρ a0 σ8 a0
        else
          if y3 = (45 : Int32) then
            BX12_takes_297 ρ a0 σ8 a0
          else
            BX12_takes_302 ρ a0 σ8 a0 ((4 : Int32))
      else
        fixN (fun _ => none) (FX12_takes_170 ρ a0 (BX12_takes_243 ρ a0)) FU σ4
    else
      fixN (fun _ => none) (FX12_takes_80 ρ a0 (BX12_takes_155 ρ a0)) FU σ4
  else
    bn (su σ4 a0 16 ((0 : Int32))) fun σ9 =>
    some σ9
def FX12_takes_0 (ρ : Rho) (a0 : Nat) (k39 : Sto → Option (Sto)) (rec : Sto → Option (Sto)) (σ : Sto) : Option (Sto) :=
  Option.bind (MX12_byteAt σ ρ a0 ((σ a0 15))) fun c1 =>
  if c1 = (32 : Int32) then
    BX12_takes_26 ρ a0 rec k39 σ
  else
    Option.bind (MX12_byteAt σ ρ a0 ((σ a0 15))) fun c2 =>
    if c2 = (10 : Int32) then
      BX12_takes_26 ρ a0 rec k39 σ
    else
      k39 σ
def MX12_takes (σ : Sto) (ρ : Rho) (a0 : Nat) : Option (Sto) :=
  fixN (fun _ => none) (FX12_takes_0 ρ a0 (BX12_takes_39 ρ a0)) FU σ
def MX12_fails (σ : Sto) (a0 : Nat) (a1 : Int32) (a2 : Int32) : Option (Sto) :=
  if (σ a0 4) ≤ 0 then
    bn (su σ a0 4 a1) fun σ1 =>
    bn (su σ1 a0 5 a2) fun σ2 =>
    some σ2
  else
    some σ
def MX12_isGood (σ : Sto) (a0 : Nat) : Option (Int32) :=
  if (σ a0 4) = 0 then
    zr ((1 : Int32)) (some (1 : Int32))
  else
    zr ((0 : Int32)) (some (0 : Int32))
def BX12_hasWord_29 (ρ : Rho) (a0 : Nat) (a1 : Int64) (σ : Sto) (t0 : Int32) : Option (Int32 × Sto) :=
  bn t0 fun y1 =>
  if y1 = 0 then
    zr y1 (some (y1, σ))
  else
    Option.bind (MX12_takes σ ρ a0) fun c2 =>
    zr y1 (some (y1, c2))
def BX12_hasWord_28 (ρ : Rho) (a0 : Nat) (a1 : Int64) (σ : Sto) : Option (Int32 × Sto) :=
  BX12_hasWord_29 ρ a0 a1 σ ((0 : Int32))
def MX12_hasWord (σ : Sto) (ρ : Rho) (a0 : Nat) (a1 : Int64) : Option (Int32 × Sto) :=
  Option.bind (MX12_isGood σ a0) fun c1 =>
  if c1 = 0 then
    BX12_hasWord_28 ρ a0 a1 σ
  else
    if (σ a0 16) = (1 : Int32) then
      if (lg_cmp ((jn (σ a0 18) (σ a0 1018))) a1) = 0 then
        BX12_hasWord_29 ρ a0 a1 σ ((1 : Int32))
      else
        BX12_hasWord_28 ρ a0 a1 σ
    else
      BX12_hasWord_28 ρ a0 a1 σ
def BX12_hasSign_30 (ρ : Rho) (a0 : Nat) (a1 : Int32) (σ : Sto) (t0 : Int32) : Option (Int32 × Sto) :=
  bn t0 fun y1 =>
  if y1 = 0 then
    zr y1 (some (y1, σ))
  else
    Option.bind (MX12_takes σ ρ a0) fun c2 =>
    zr y1 (some (y1, c2))
def BX12_hasSign_29 (ρ : Rho) (a0 : Nat) (a1 : Int32) (σ : Sto) : Option (Int32 × Sto) :=
  BX12_hasSign_30 ρ a0 a1 σ ((0 : Int32))
def MX12_hasSign (σ : Sto) (ρ : Rho) (a0 : Nat) (a1 : Int32) : Option (Int32 × Sto) :=
  Option.bind (MX12_isGood σ a0) fun c1 =>
  if c1 = 0 then
    BX12_hasSign_29 ρ a0 a1 σ
  else
    if (σ a0 16) = (3 : Int32) then
      if (lg_cmp ((jn (σ a0 18) (σ a0 1018))) a1.toInt64) = 0 then
        BX12_hasSign_30 ρ a0 a1 σ ((1 : Int32))
      else
        BX12_hasSign_29 ρ a0 a1 σ
    else
      BX12_hasSign_29 ρ a0 a1 σ
def BX12_numeral_50 (ρ : Rho) (a0 : Nat) (a1 : Int32) (σ : Sto) : Option (Int32 × Sto) :=
  Option.bind (MX12_isGood σ a0) fun c1 =>
  if c1 = 0 then
    some ((0 : Int32), σ)
  else
    bn (((jn (σ a0 18) (σ a0 1018))).toInt32) fun y2 =>
    Option.bind (MX12_takes σ ρ a0) fun c3 =>
    some (y2, c3)
def BX12_numeral_24 (ρ : Rho) (a0 : Nat) (a1 : Int32) (σ : Sto) : Option (Int32 × Sto) :=
  Option.bind (MX12_isGood σ a0) fun c1 =>
  if c1 = 0 then
    BX12_numeral_50 ρ a0 a1 σ
  else
    if (lg_cmp ((jn (σ a0 18) (σ a0 1018))) a1.toInt64) ≤ 0 then
      BX12_numeral_50 ρ a0 a1 σ
    else
      Option.bind (MX12_fails σ a0 ((2 : Int32)) ((σ a0 17))) fun c2 =>
      BX12_numeral_50 ρ a0 a1 c2
def MX12_numeral (σ : Sto) (ρ : Rho) (a0 : Nat) (a1 : Int32) : Option (Int32 × Sto) :=
  Option.bind (MX12_isGood σ a0) fun c1 =>
  if c1 = 0 then
    BX12_numeral_24 ρ a0 a1 σ
  else
    if (σ a0 16) = (2 : Int32) then
      BX12_numeral_24 ρ a0 a1 σ
    else
      Option.bind (MX12_fails σ a0 ((1 : Int32)) ((σ a0 17))) fun c2 =>
      BX12_numeral_24 ρ a0 a1 c2
def MX12_signed (σ : Sto) (ρ : Rho) (a0 : Nat) : Option (Int32 × Sto) :=
  Option.bind (MX12_hasSign σ ρ a0 ((45 : Int32))) fun c1 =>
  bn c1.1 fun y2 =>
  Option.bind (MX12_numeral c1.2 ρ a0 ((99 : Int32))) fun c3 =>
  bn c3.1 fun y4 =>
  if y2 = 0 then
    some (y4, c3.2)
  else
    some ((-y4), c3.2)
def MX12_ends (σ : Sto) (ρ : Rho) (a0 : Nat) : Option (Sto) :=
  Option.bind (MX12_isGood σ a0) fun c1 =>
  if c1 = 0 then
    some σ
  else
    Option.bind (MX12_hasSign σ ρ a0 ((59 : Int32))) fun c2 =>
    if c2.1 = 0 then
      Option.bind (MX12_fails c2.2 a0 ((1 : Int32)) ((c2.2 a0 17))) fun c3 =>
      some c3
    else
      some c2.2
def BX12_readsPrime_35 (ρ : Rho) (a0 : Nat) (σ : Sto) : Option (Sto) :=
  Option.bind (MX12_numeral σ ρ a0 ((23 : Int32))) fun c1 =>
  bn c1.1 fun y2 =>
  Option.bind (MX12_ends c1.2 ρ a0) fun c3 =>
  Option.bind (MX12_isGood c3 a0) fun c4 =>
  if c4 = 0 then
    some c3
  else
    Option.bind (ρ a0 0) fun j5 =>
    Option.bind (ag c3 j5 ((84 : Int32))) fun x6 =>
    if y2 = x6 then
      some c3
    else
      Option.bind (ρ a0 0) fun j7 =>
      Option.bind (ap c3 j7 ((84 : Int32)) y2) fun σ8 =>
      Option.bind (ρ a0 0) fun j9 =>
      Option.bind (ap σ8 j9 ((85 : Int32)) ((0 : Int32))) fun σ10 =>
      some σ10
def MX12_readsPrime (σ : Sto) (ρ : Rho) (a0 : Nat) : Option (Sto) :=
  Option.bind (MX12_isGood σ a0) fun c1 =>
  if c1 = 0 then
    BX12_readsPrime_35 ρ a0 σ
  else
    if (σ a0 16) = (2 : Int32) then
      Option.bind (MX12_isPrime (((jn (σ a0 18) (σ a0 1018))).toInt32)) fun c2 =>
      if c2 = 0 then
        Option.bind (MX12_fails σ a0 ((2 : Int32)) ((σ a0 17))) fun c3 =>
        BX12_readsPrime_35 ρ a0 c3
      else
        BX12_readsPrime_35 ρ a0 σ
    else
      BX12_readsPrime_35 ρ a0 σ
def BX12_readsPoint_57 (ρ : Rho) (a0 : Nat) (a1 : Int32) (σ : Sto) : Option (Sto) :=
  Option.bind (MX12_fails σ a0 ((3 : Int32)) a1) fun c1 =>
  some c1
def MX12_readsPoint (σ : Sto) (ρ : Rho) (a0 : Nat) (a1 : Int32) : Option (Sto) :=
  Option.bind (ρ a0 0) fun j1 =>
  Option.bind (ag σ j1 ((84 : Int32))) fun x2 =>
  bn (su σ a0 7 x2) fun σ3 =>
  Option.bind (MX12_places σ3 a0) fun c4 =>
  Option.bind (MX12_numeral σ3 ρ a0 ((c4 - (1 : Int32)))) fun c5 =>
  bn c5.1 fun y6 =>
  Option.bind (MX12_ends c5.2 ρ a0) fun c7 =>
  Option.bind (MX12_isGood c7 a0) fun c8 =>
  if c8 = 0 then
    some c7
  else
    Option.bind (MX12_markOf c7 ρ a0 ((48 : Int32)) y6) fun c9 =>
    if c9 = (-1 : Int32) then
      Option.bind (ρ a0 0) fun j10 =>
      Option.bind (ag c7 j10 ((85 : Int32))) fun x11 =>
      if x11 = (8 : Int32) then
        BX12_readsPoint_57 ρ a0 a1 c7
      else
        Option.bind (ρ a0 0) fun j12 =>
        Option.bind (ρ a0 0) fun j13 =>
        Option.bind (ag c7 j13 ((85 : Int32))) fun x14 =>
        Option.bind (ap c7 j12 (((86 : Int32) + x14)) y6) fun σ15 =>
        Option.bind (ρ a0 0) fun j16 =>
        Option.bind (ag σ15 j16 ((85 : Int32))) fun x17 =>
        Option.bind (ap σ15 j16 ((85 : Int32)) ((x17 + (1 : Int32)))) fun σ18 =>
        some σ18
    else
      BX12_readsPoint_57 ρ a0 a1 c7
def BX12_readsConic_235 (ρ : Rho) (a0 : Nat) (a1 : Int32) (a2 : Int32) (σ : Sto) (v3 : Int32) : Option (Sto) :=
  Option.bind (MX12_whyNot σ ρ a0) fun c1 =>
  if c1 ≤ 0 then
    Option.bind (MX12_takesIts σ ρ a0 ((48 : Int32)) v3) fun c2 =>
    some c2
  else
    Option.bind (MX12_fails σ a0 ((3 : Int32)) a1) fun c3 =>
    some c3
def BX12_readsConic_75 (ρ : Rho) (a0 : Nat) (a1 : Int32) (a2 : Int32) (σ : Sto) (v3 : Int32) : Option (Sto) :=
  if a2 = 0 then
    BX12_readsConic_235 ρ a0 a1 a2 σ v3
  else
    Option.bind (ρ a0 13) fun j1 =>
    Option.bind (ρ a0 19) fun j2 =>
    Option.bind (ag σ j2 ((0 : Int32))) fun x3 =>
    Option.bind (ρ a0 19) fun j4 =>
    Option.bind (ag σ j4 ((3 : Int32))) fun x5 =>
    Option.bind (ap σ j1 ((0 : Int32)) ((x3 * x5))) fun σ6 =>
    Option.bind (ρ a0 13) fun j7 =>
    Option.bind (ρ a0 19) fun j8 =>
    Option.bind (ag σ6 j8 ((1 : Int32))) fun x9 =>
    Option.bind (ρ a0 19) fun j10 =>
    Option.bind (ag σ6 j10 ((4 : Int32))) fun x11 =>
    Option.bind (ap σ6 j7 ((1 : Int32)) ((x9 * x11))) fun σ12 =>
    Option.bind (ρ a0 13) fun j13 =>
    Option.bind (ρ a0 19) fun j14 =>
    Option.bind (ag σ12 j14 ((2 : Int32))) fun x15 =>
    Option.bind (ρ a0 19) fun j16 =>
    Option.bind (ag σ12 j16 ((5 : Int32))) fun x17 =>
    Option.bind (ap σ12 j13 ((2 : Int32)) ((x15 * x17))) fun σ18 =>
    Option.bind (ρ a0 13) fun j19 =>
    Option.bind (ρ a0 19) fun j20 =>
    Option.bind (ag σ18 j20 ((1 : Int32))) fun x21 =>
    Option.bind (ρ a0 19) fun j22 =>
    Option.bind (ag σ18 j22 ((5 : Int32))) fun x23 =>
    Option.bind (ρ a0 19) fun j24 =>
    Option.bind (ag σ18 j24 ((2 : Int32))) fun x25 =>
    Option.bind (ρ a0 19) fun j26 =>
    Option.bind (ag σ18 j26 ((4 : Int32))) fun x27 =>
    Option.bind (ap σ18 j19 ((3 : Int32)) (((x21 * x23) + (x25 * x27)))) fun σ28 =>
    Option.bind (ρ a0 13) fun j29 =>
    Option.bind (ρ a0 19) fun j30 =>
    Option.bind (ag σ28 j30 ((2 : Int32))) fun x31 =>
    Option.bind (ρ a0 19) fun j32 =>
    Option.bind (ag σ28 j32 ((3 : Int32))) fun x33 =>
    Option.bind (ρ a0 19) fun j34 =>
    Option.bind (ag σ28 j34 ((0 : Int32))) fun x35 =>
    Option.bind (ρ a0 19) fun j36 =>
    Option.bind (ag σ28 j36 ((5 : Int32))) fun x37 =>
    Option.bind (ap σ28 j29 ((4 : Int32)) (((x31 * x33) + (x35 * x37)))) fun σ38 =>
    Option.bind (ρ a0 13) fun j39 =>
    Option.bind (ρ a0 19) fun j40 =>
    Option.bind (ag σ38 j40 ((0 : Int32))) fun x41 =>
    Option.bind (ρ a0 19) fun j42 =>
    Option.bind (ag σ38 j42 ((4 : Int32))) fun x43 =>
    Option.bind (ρ a0 19) fun j44 =>
    Option.bind (ag σ38 j44 ((1 : Int32))) fun x45 =>
    Option.bind (ρ a0 19) fun j46 =>
    Option.bind (ag σ38 j46 ((3 : Int32))) fun x47 =>
    Option.bind (ap σ38 j39 ((5 : Int32)) (((x41 * x43) + (x45 * x47)))) fun σ48 =>
    BX12_readsConic_235 ρ a0 a1 a2 σ48 v3
def FX12_readsConic_48 (ρ : Rho) (a0 : Nat) (a1 : Int32) (a2 : Int32) (k75 : Sto → Int32 → Option (Sto)) (rec : Sto → Int32 → Int32 → Option (Sto)) (σ : Sto) (v3 : Int32) (v4 : Int32) : Option (Sto) :=
  if (6 : Int32) ≤ v4 then
    k75 σ v3
  else
    Option.bind (ρ a0 13) fun j1 =>
    Option.bind (ρ a0 19) fun j2 =>
    Option.bind (ag σ j2 v4) fun x3 =>
    Option.bind (ap σ j1 v4 x3) fun σ4 =>
    bn (v4 + (1 : Int32)) fun y5 =>
    rec σ4 v3 y5
def BX12_readsConic_33 (ρ : Rho) (a0 : Nat) (a1 : Int32) (a2 : Int32) (σ : Sto) (v3 : Int32) : Option (Sto) :=
  Option.bind (MX12_ends σ ρ a0) fun c1 =>
  Option.bind (MX12_isGood c1 a0) fun c2 =>
  if c2 = 0 then
    some c1
  else
    bn ((0 : Int32)) fun y3 =>
    fixN (fun _ _ _ => none) (FX12_readsConic_48 ρ a0 a1 a2 (BX12_readsConic_75 ρ a0 a1 a2)) FU c1 v3 y3
def FX12_readsConic_9 (ρ : Rho) (a0 : Nat) (a1 : Int32) (a2 : Int32) (k33 : Sto → Int32 → Option (Sto)) (rec : Sto → Int32 → Int32 → Option (Sto)) (σ : Sto) (v3 : Int32) (v4 : Int32) : Option (Sto) :=
  if (6 : Int32) ≤ v4 then
    k33 σ v3
  else
    Option.bind (ρ a0 19) fun j1 =>
    Option.bind (MX12_signed σ ρ a0) fun c2 =>
    Option.bind (ap c2.2 j1 v4 c2.1) fun σ3 =>
    bn (v4 + (1 : Int32)) fun y4 =>
    rec σ3 v3 y4
def MX12_readsConic (σ : Sto) (ρ : Rho) (a0 : Nat) (a1 : Int32) (a2 : Int32) : Option (Sto) :=
  Option.bind (MX12_numeral σ ρ a0 ((5 : Int32))) fun c1 =>
  bn c1.1 fun y2 =>
  bn ((0 : Int32)) fun y3 =>
  fixN (fun _ _ _ => none) (FX12_readsConic_9 ρ a0 a1 a2 (BX12_readsConic_33 ρ a0 a1 a2)) FU c1.2 y2 y3
def MX12_readsLine (σ : Sto) (ρ : Rho) (a0 : Nat) : Option (Sto) :=
  bn ((σ a0 17)) fun y1 =>
  Option.bind (MX12_hasWord σ ρ a0 ((8864267 : Int64))) fun c2 =>
  if c2.1 = 0 then
    Option.bind (MX12_hasWord c2.2 ρ a0 ((8805260 : Int64))) fun c3 =>
    if c3.1 = 0 then
      Option.bind (MX12_hasWord c3.2 ρ a0 ((1900020 : Int64))) fun c4 =>
      if c4.1 = 0 then
        Option.bind (MX12_hasWord c4.2 ρ a0 ((315918 : Int64))) fun c5 =>
        if c5.1 = 0 then
          Option.bind (MX12_fails c5.2 a0 ((1 : Int32)) ((c5.2 a0 17))) fun c6 =>
          some c6
        else
          Option.bind (MX12_readsConic c5.2 ρ a0 y1 ((1 : Int32))) fun c7 =>
          some c7
      else
        Option.bind (MX12_readsConic c4.2 ρ a0 y1 ((0 : Int32))) fun c8 =>
        some c8
    else
      Option.bind (MX12_readsPoint c3.2 ρ a0 y1) fun c9 =>
      some c9
  else
    Option.bind (MX12_readsPrime c2.2 ρ a0) fun c10 =>
    some c10
def BX12_text_64 (ρ : Rho) (a0 : Nat) (σ : Sto) (v1 : Int32) : Option (Int32 × Sto) :=
  Option.bind (MX12_isGood σ a0) fun c1 =>
  if c1 = 0 then
    some ((-1 : Int32), σ)
  else
    Option.bind (MX12_copies σ ρ a0 ((48 : Int32)) ((0 : Int32)) ((46 : Int32))) fun c2 =>
    bn (su c2 a0 6 ((0 : Int32))) fun σ3 =>
    some (v1, σ3)
def FX12_text_40 (ρ : Rho) (a0 : Nat) (k64 : Sto → Int32 → Option (Int32 × Sto)) (rec : Sto → Int32 → Option (Int32 × Sto)) (σ : Sto) (v1 : Int32) : Option (Int32 × Sto) :=
  Option.bind (MX12_isGood σ a0) fun c1 =>
  if c1 = 0 then
    k64 σ v1
  else
    if (σ a0 16) = 0 then
      k64 σ v1
    else
      Option.bind (MX12_readsLine σ ρ a0) fun c2 =>
      bn (v1 + (1 : Int32)) fun y3 =>
      rec c2 y3
def MX12_text (σ : Sto) (ρ : Rho) (a0 : Nat) : Option (Int32 × Sto) :=
  bn (su σ a0 14 ((σ a0 3))) fun σ1 =>
  bn (su σ1 a0 3 ((0 : Int32))) fun σ2 =>
  bn (su σ2 a0 4 ((0 : Int32))) fun σ3 =>
  bn (su σ3 a0 5 ((-1 : Int32))) fun σ4 =>
  bn (su σ4 a0 15 ((0 : Int32))) fun σ5 =>
  Option.bind (MX12_firsts σ5 ρ a0 ((48 : Int32))) fun c6 =>
  Option.bind (MX12_takes c6 ρ a0) fun c7 =>
  bn ((0 : Int32)) fun y8 =>
  fixN (fun _ _ => none) (FX12_text_40 ρ a0 (BX12_text_64 ρ a0)) FU c7 y8
def BX12_image_61 (ρ : Rho) (a0 : Nat) (a1 : Int32) (σ : Sto) (v2 : Int32) : Option (Int32 × Sto) :=
  Option.bind (ρ a0 0) fun j1 =>
  Option.bind (ap σ j1 (((v2 + (48 : Int32)) + (500 : Int32))) ((σ a0 3))) fun σ2 =>
  Option.bind (ρ a0 0) fun j3 =>
  Option.bind (ap σ2 j3 ((((v2 + (48 : Int32)) + (500 : Int32)) + (1 : Int32))) ((σ2 a0 4))) fun σ4 =>
  Option.bind (ρ a0 0) fun j5 =>
  Option.bind (ap σ4 j5 ((((v2 + (48 : Int32)) + (500 : Int32)) + (2 : Int32))) ((σ4 a0 5))) fun σ6 =>
  Option.bind (ρ a0 2) fun j7 =>
  Option.bind (ap σ6 j7 a1 ((1 : Int32))) fun σ8 =>
  zr ((1 : Int32)) (some ((1 : Int32), σ8))
def FX12_image_31 (ρ : Rho) (a0 : Nat) (a1 : Int32) (k61 : Sto → Int32 → Option (Int32 × Sto)) (rec : Sto → Int32 → Int32 → Option (Int32 × Sto)) (σ : Sto) (v2 : Int32) (v3 : Int32) : Option (Int32 × Sto) :=
  if (500 : Int32) ≤ v3 then
    k61 σ v2
  else
    Option.bind (ρ a0 0) fun j1 =>
    Option.bind (ρ a0 1) fun j2 =>
    Option.bind (ag σ j2 v3) fun x3 =>
    Option.bind (ap σ j1 (((v2 + (48 : Int32)) + v3)) x3) fun σ4 =>
    bn (v3 + (1 : Int32)) fun y5 =>
    rec σ4 v2 y5
def MX12_image (σ : Sto) (ρ : Rho) (a0 : Nat) (a1 : Int32) : Option (Int32 × Sto) :=
  Option.bind (MX12_isIn a1 ((0 : Int32)) ((2 : Int32))) fun c1 =>
  if c1 = 0 then
    zr ((0 : Int32)) (some ((0 : Int32), σ))
  else
    bn (((462 : Int32) + ((551 : Int32) * a1))) fun y2 =>
    Option.bind (MX12_copies σ ρ a0 ((0 : Int32)) y2 ((48 : Int32))) fun c3 =>
    bn ((0 : Int32)) fun y4 =>
    fixN (fun _ _ _ => none) (FX12_image_31 ρ a0 a1 (BX12_image_61 ρ a0 a1)) FU c3 y2 y4
def BX12_again_70 (ρ : Rho) (a0 : Nat) (a1 : Int32) (σ : Sto) (v2 : Int32) : Option (Int32 × Sto) :=
  Option.bind (ρ a0 0) fun j1 =>
  Option.bind (ag σ j1 (((v2 + (48 : Int32)) + (500 : Int32)))) fun x2 =>
  bn (su σ a0 3 x2) fun σ3 =>
  Option.bind (ρ a0 0) fun j4 =>
  Option.bind (ag σ3 j4 ((((v2 + (48 : Int32)) + (500 : Int32)) + (1 : Int32)))) fun x5 =>
  bn (su σ3 a0 4 x5) fun σ6 =>
  Option.bind (ρ a0 0) fun j7 =>
  Option.bind (ag σ6 j7 ((((v2 + (48 : Int32)) + (500 : Int32)) + (2 : Int32)))) fun x8 =>
  bn (su σ6 a0 5 x8) fun σ9 =>
  bn (su σ9 a0 6 ((0 : Int32))) fun σ10 =>
  zr ((1 : Int32)) (some ((1 : Int32), σ10))
def FX12_again_40 (ρ : Rho) (a0 : Nat) (a1 : Int32) (k70 : Sto → Int32 → Option (Int32 × Sto)) (rec : Sto → Int32 → Int32 → Option (Int32 × Sto)) (σ : Sto) (v2 : Int32) (v3 : Int32) : Option (Int32 × Sto) :=
  if (500 : Int32) ≤ v3 then
    k70 σ v2
  else
    Option.bind (ρ a0 1) fun j1 =>
    Option.bind (ρ a0 0) fun j2 =>
    Option.bind (ag σ j2 (((v2 + (48 : Int32)) + v3))) fun x3 =>
    Option.bind (ap σ j1 v3 x3) fun σ4 =>
    bn (v3 + (1 : Int32)) fun y5 =>
    rec σ4 v2 y5
def MX12_again (σ : Sto) (ρ : Rho) (a0 : Nat) (a1 : Int32) : Option (Int32 × Sto) :=
  Option.bind (MX12_isIn a1 ((0 : Int32)) ((2 : Int32))) fun c1 =>
  if c1 = 0 then
    zr ((0 : Int32)) (some ((0 : Int32), σ))
  else
    Option.bind (ρ a0 2) fun j2 =>
    Option.bind (ag σ j2 a1) fun x3 =>
    if x3 = 0 then
      zr ((0 : Int32)) (some ((0 : Int32), σ))
    else
      bn (((462 : Int32) + ((551 : Int32) * a1))) fun y4 =>
      Option.bind (MX12_copies σ ρ a0 y4 ((0 : Int32)) ((48 : Int32))) fun c5 =>
      bn ((0 : Int32)) fun y6 =>
      fixN (fun _ _ _ => none) (FX12_again_40 ρ a0 a1 (BX12_again_70 ρ a0 a1)) FU c5 y4 y6
def MX3_init (a0 : Nat) : Option (Unit) :=
  some ()
def MX11_isConic (a0 : Int32) : Option (Int32) :=
  if a0 < 0 then
    zr ((0 : Int32)) (some (0 : Int32))
  else
    if (6 : Int32) ≤ a0 then
      zr ((0 : Int32)) (some (0 : Int32))
    else
      zr ((1 : Int32)) (some (1 : Int32))
def MX3_fill (σ : Sto) (a0 : Nat) (a1 : Int32) (a2 : Int32) (a3 : Int32) (a4 : Int32) (a5 : Int32) (a6 : Int32) : Option (Sto) :=
  bn (su σ a0 0 a1) fun σ1 =>
  bn (su σ1 a0 1 a2) fun σ2 =>
  bn (su σ2 a0 2 a3) fun σ3 =>
  bn (su σ3 a0 3 a4) fun σ4 =>
  bn (su σ4 a0 4 a5) fun σ5 =>
  bn (su σ5 a0 5 a6) fun σ6 =>
  some σ6
def MX8_read (σ : Sto) (ρ : Rho) (a0 : Nat) (a1 : Int32) (a2 : Nat) : Option (Sto) :=
  Option.bind (MX11_isConic a1) fun c1 =>
  if c1 = 0 then
    some σ
  else
    bn ((a1 * (6 : Int32))) fun y2 =>
    Option.bind (ρ a0 3) fun j3 =>
    Option.bind (ag σ j3 y2) fun x4 =>
    Option.bind (ρ a0 3) fun j5 =>
    Option.bind (ag σ j5 ((y2 + (1 : Int32)))) fun x6 =>
    Option.bind (ρ a0 3) fun j7 =>
    Option.bind (ag σ j7 ((y2 + (2 : Int32)))) fun x8 =>
    Option.bind (ρ a0 3) fun j9 =>
    Option.bind (ag σ j9 ((y2 + (3 : Int32)))) fun x10 =>
    Option.bind (ρ a0 3) fun j11 =>
    Option.bind (ag σ j11 ((y2 + (4 : Int32)))) fun x12 =>
    Option.bind (ρ a0 3) fun j13 =>
    Option.bind (ag σ j13 ((y2 + (5 : Int32)))) fun x14 =>
    Option.bind (MX3_fill σ a2 x4 x6 x8 x10 x12 x14) fun c15 =>
    some c15
def MJ9_floorMod_7cf53 (a0 : Int32) (a1 : Int32) : Option (Int32) :=
  Option.bind (rmi a0 a1) fun z1 =>
  bn z1 fun y2 =>
  if 0 ≤ (a0 ^^^ a1) then
    some y2
  else
    if y2 = 0 then
      some y2
    else
      some (y2 + a1)
def MX2_rest (a0 : Int32) (a1 : Int32) : Option (Int32) :=
  if a1 ≤ 0 then
    some (0 : Int32)
  else
    Option.bind (MJ9_floorMod_7cf53 a0 a1) fun c1 =>
    some c1
def MX3_reduce (σ : Sto) (a0 : Nat) (a1 : Int32) : Option (Sto) :=
  Option.bind (MX2_rest ((σ a0 0)) a1) fun c1 =>
  Option.bind (MX2_rest ((σ a0 1)) a1) fun c2 =>
  Option.bind (MX2_rest ((σ a0 2)) a1) fun c3 =>
  Option.bind (MX2_rest ((σ a0 3)) a1) fun c4 =>
  Option.bind (MX2_rest ((σ a0 4)) a1) fun c5 =>
  Option.bind (MX2_rest ((σ a0 5)) a1) fun c6 =>
  Option.bind (MX3_fill σ a0 c1 c2 c3 c4 c5 c6) fun c7 =>
  some c7
def MX0_take (σ : Sto) (ρ : Rho) (a0 : Nat) (a1 : Nat) (a2 : Int32) : Option (Sto) :=
  bn (su σ a0 1 ((σ a1 0))) fun σ1 =>
  Option.bind (ρ a0 0) fun j2 =>
  Option.bind (MX8_read σ1 ρ a1 a2 j2) fun c3 =>
  Option.bind (ρ a0 0) fun j4 =>
  Option.bind (MX3_reduce c3 j4 ((c3 a0 1))) fun c5 =>
  some c5
def MX0_becomeDual (σ : Sto) (ρ : Rho) (a0 : Nat) (a1 : Nat) : Option (Sto) :=
  Option.bind (ρ a1 0) fun j1 =>
  bn (su σ a0 1 ((σ a1 1))) fun σ2 =>
  Option.bind (ρ a0 0) fun j3 =>
  Option.bind (MX3_fill σ2 j3 (((((4 : Int32) * (σ2 j1 1)) * (σ2 j1 2)) - ((σ2 j1 3) * (σ2 j1 3)))) (((((4 : Int32) * (σ2 j1 0)) * (σ2 j1 2)) - ((σ2 j1 4) * (σ2 j1 4)))) (((((4 : Int32) * (σ2 j1 0)) * (σ2 j1 1)) - ((σ2 j1 5) * (σ2 j1 5)))) (((2 : Int32) * (((σ2 j1 4) * (σ2 j1 5)) - (((2 : Int32) * (σ2 j1 0)) * (σ2 j1 3))))) (((2 : Int32) * (((σ2 j1 3) * (σ2 j1 5)) - (((2 : Int32) * (σ2 j1 1)) * (σ2 j1 4))))) (((2 : Int32) * (((σ2 j1 3) * (σ2 j1 4)) - (((2 : Int32) * (σ2 j1 2)) * (σ2 j1 5)))))) fun c4 =>
  Option.bind (ρ a0 0) fun j5 =>
  Option.bind (MX3_reduce c4 j5 ((c4 a0 1))) fun c6 =>
  some c6
def MX3_copy (σ : Sto) (a0 : Nat) (a1 : Nat) : Option (Sto) :=
  Option.bind (MX3_fill σ a0 ((σ a1 0)) ((σ a1 1)) ((σ a1 2)) ((σ a1 3)) ((σ a1 4)) ((σ a1 5))) fun c1 =>
  some c1
def MX3_blend (σ : Sto) (a0 : Nat) (a1 : Int32) (a2 : Int32) (a3 : Nat) : Option (Sto) :=
  Option.bind (MX3_fill σ a0 (((a1 * (σ a0 0)) + (a2 * (σ a3 0)))) (((a1 * (σ a0 1)) + (a2 * (σ a3 1)))) (((a1 * (σ a0 2)) + (a2 * (σ a3 2)))) (((a1 * (σ a0 3)) + (a2 * (σ a3 3)))) (((a1 * (σ a0 4)) + (a2 * (σ a3 4)))) (((a1 * (σ a0 5)) + (a2 * (σ a3 5))))) fun c1 =>
  some c1
def MX0_mix (σ : Sto) (ρ : Rho) (a0 : Nat) (a1 : Nat) (a2 : Int32) (a3 : Nat) : Option (Sto) :=
  bn (su σ a0 1 ((σ a1 1))) fun σ1 =>
  Option.bind (ρ a0 0) fun j2 =>
  Option.bind (ρ a1 0) fun j3 =>
  Option.bind (MX3_copy σ1 j2 j3) fun c4 =>
  Option.bind (ρ a0 0) fun j5 =>
  Option.bind (ρ a3 0) fun j6 =>
  Option.bind (MX3_blend c4 j5 a2 ((1 : Int32)) j6) fun c7 =>
  Option.bind (ρ a0 0) fun j8 =>
  Option.bind (MX3_reduce c7 j8 ((c7 a0 1))) fun c9 =>
  some c9
def MX0_valueAt (σ : Sto) (ρ : Rho) (a0 : Nat) (a1 : Nat) : Option (Int32) :=
  bn ((σ a1 0)) fun y1 =>
  bn ((σ a1 1)) fun y2 =>
  bn ((σ a1 2)) fun y3 =>
  Option.bind (ρ a0 0) fun j4 =>
  Option.bind (ρ a0 0) fun j5 =>
  Option.bind (ρ a0 0) fun j6 =>
  Option.bind (ρ a0 0) fun j7 =>
  Option.bind (ρ a0 0) fun j8 =>
  Option.bind (ρ a0 0) fun j9 =>
  Option.bind (MX2_rest (((((((((σ j4 0) * y1) * y1) + (((σ j5 1) * y2) * y2)) + (((σ j6 2) * y3) * y3)) + (((σ j7 3) * y2) * y3)) + (((σ j8 4) * y3) * y1)) + (((σ j9 5) * y1) * y2))) ((σ a0 1))) fun c10 =>
  some c10
def MX10_fill (σ : Sto) (a0 : Nat) (a1 : Int32) (a2 : Int32) (a3 : Int32) : Option (Sto) :=
  bn (su σ a0 0 a1) fun σ1 =>
  bn (su σ1 a0 1 a2) fun σ2 =>
  bn (su σ2 a0 2 a3) fun σ3 =>
  some σ3
def MX0_polarOf (σ : Sto) (ρ : Rho) (a0 : Nat) (a1 : Nat) (a2 : Nat) : Option (Sto) :=
  bn ((σ a1 0)) fun y1 =>
  bn ((σ a1 1)) fun y2 =>
  bn ((σ a1 2)) fun y3 =>
  Option.bind (ρ a0 0) fun j4 =>
  Option.bind (ρ a0 0) fun j5 =>
  Option.bind (ρ a0 0) fun j6 =>
  Option.bind (ρ a0 0) fun j7 =>
  Option.bind (ρ a0 0) fun j8 =>
  Option.bind (ρ a0 0) fun j9 =>
  Option.bind (ρ a0 0) fun j10 =>
  Option.bind (ρ a0 0) fun j11 =>
  Option.bind (ρ a0 0) fun j12 =>
  Option.bind (MX10_fill σ a2 ((((((2 : Int32) * (σ j4 0)) * y1) + ((σ j5 5) * y2)) + ((σ j6 4) * y3))) (((((σ j7 5) * y1) + (((2 : Int32) * (σ j8 1)) * y2)) + ((σ j9 3) * y3))) (((((σ j10 4) * y1) + ((σ j11 3) * y2)) + (((2 : Int32) * (σ j12 2)) * y3)))) fun c13 =>
  some c13
def MX3_isZero (σ : Sto) (a0 : Nat) : Option (Int32) :=
  if (σ a0 0) = 0 then
    if (σ a0 1) = 0 then
      if (σ a0 2) = 0 then
        if (σ a0 3) = 0 then
          if (σ a0 4) = 0 then
            if (σ a0 5) = 0 then
              zr ((1 : Int32)) (some (1 : Int32))
            else
              zr ((0 : Int32)) (some (0 : Int32))
          else
            zr ((0 : Int32)) (some (0 : Int32))
        else
          zr ((0 : Int32)) (some (0 : Int32))
      else
        zr ((0 : Int32)) (some (0 : Int32))
    else
      zr ((0 : Int32)) (some (0 : Int32))
  else
    zr ((0 : Int32)) (some (0 : Int32))
def MX3_e (σ : Sto) (a0 : Nat) : Option (Int32) :=
  some ((((((((8 : Int32) * (σ a0 0)) * (σ a0 1)) * (σ a0 2)) + ((((2 : Int32) * (σ a0 3)) * (σ a0 4)) * (σ a0 5))) - ((((2 : Int32) * (σ a0 0)) * (σ a0 3)) * (σ a0 3))) - ((((2 : Int32) * (σ a0 1)) * (σ a0 4)) * (σ a0 4))) - ((((2 : Int32) * (σ a0 2)) * (σ a0 5)) * (σ a0 5)))
def MX3_d (σ : Sto) (a0 : Nat) : Option (Int32) :=
  some ((((4 : Int32) * (σ a0 0)) * (σ a0 1)) - ((σ a0 5) * (σ a0 5)))
def MX0_sideMinor (σ : Sto) (ρ : Rho) (a0 : Nat) : Option (Int32) :=
  Option.bind (ρ a0 0) fun j1 =>
  Option.bind (ρ a0 0) fun j2 =>
  Option.bind (ρ a0 0) fun j3 =>
  Option.bind (ρ a0 0) fun j4 =>
  Option.bind (MX2_rest (((((4 : Int32) * (σ j1 1)) * (σ j2 2)) - ((σ j3 3) * (σ j4 3)))) ((σ a0 1))) fun c5 =>
  bn c5 fun y6 =>
  if y6 = 0 then
    Option.bind (ρ a0 0) fun j7 =>
    Option.bind (ρ a0 0) fun j8 =>
    Option.bind (ρ a0 0) fun j9 =>
    Option.bind (ρ a0 0) fun j10 =>
    Option.bind (MX2_rest (((((4 : Int32) * (σ j7 0)) * (σ j8 2)) - ((σ j9 4) * (σ j10 4)))) ((σ a0 1))) fun c11 =>
    bn c11 fun y12 =>
    if y12 = 0 then
      Option.bind (ρ a0 0) fun j13 =>
      Option.bind (MX3_d σ j13) fun c14 =>
      Option.bind (MX2_rest c14 ((σ a0 1))) fun c15 =>
      some c15
    else
      some y12
  else
    some y6
def MX0_rank (σ : Sto) (ρ : Rho) (a0 : Nat) : Option (Int32) :=
  Option.bind (ρ a0 0) fun j1 =>
  Option.bind (MX3_isZero σ j1) fun c2 =>
  if c2 = 0 then
    Option.bind (ρ a0 0) fun j3 =>
    Option.bind (MX3_e σ j3) fun c4 =>
    Option.bind (MX2_rest c4 ((σ a0 1))) fun c5 =>
    if c5 = 0 then
      Option.bind (MX0_sideMinor σ ρ a0) fun c6 =>
      if c6 = 0 then
        some (1 : Int32)
      else
        some (2 : Int32)
    else
      some (3 : Int32)
  else
    some (0 : Int32)
def FX2_isSquare_8 (a0 : Int32) (a1 : Int32) (rec : Int32 → Int32 → Option (Int32)) (v2 : Int32) (v3 : Int32) : Option (Int32) :=
  if a1 ≤ v3 then
    zr ((0 : Int32)) (some (0 : Int32))
  else
    Option.bind (MX2_rest ((v3 * v3)) a1) fun c1 =>
    if c1 = v2 then
      zr ((1 : Int32)) (some (1 : Int32))
    else
      bn (v3 + (1 : Int32)) fun y2 =>
      rec v2 y2
def MX2_isSquare (a0 : Int32) (a1 : Int32) : Option (Int32) :=
  Option.bind (MX2_rest a0 a1) fun c1 =>
  bn c1 fun y2 =>
  bn ((0 : Int32)) fun y3 =>
  fixN (fun _ _ => none) (FX2_isSquare_8 a0 a1) FU y2 y3
def MX0_kind (σ : Sto) (ρ : Rho) (a0 : Nat) : Option (Int32) :=
  Option.bind (MX0_rank σ ρ a0) fun c1 =>
  bn c1 fun y2 =>
  if y2 = (3 : Int32) then
    some (4 : Int32)
  else
    if (2 : Int32) ≤ y2 then
      Option.bind (MX0_sideMinor σ ρ a0) fun c3 =>
      Option.bind (MX2_isSquare ((-c3)) ((σ a0 1))) fun c4 =>
      if c4 = 0 then
        some (3 : Int32)
      else
        some (2 : Int32)
    else
      if y2 = (1 : Int32) then
        some (1 : Int32)
      else
        some (0 : Int32)
def MX2_points (a0 : Int32) : Option (Int32) :=
  some (((a0 * a0) + a0) + (1 : Int32))
def BX0_points_55 (σ : Sto) (ρ : Rho) (a0 : Nat) : Option (Int32) :=
  some ((σ a0 1) + (1 : Int32))
def MX0_points (σ : Sto) (ρ : Rho) (a0 : Nat) : Option (Int32) :=
  Option.bind (MX0_kind σ ρ a0) fun c1 =>
  if c1 = (0 : Int32) then
    Option.bind (MX2_points ((σ a0 1))) fun c2 =>
    some c2
  else
  if c1 = (1 : Int32) then
    BX0_points_55 σ ρ a0
  else
  if c1 = (2 : Int32) then
    some (((2 : Int32) * (σ a0 1)) + (1 : Int32))
  else
  if c1 = (3 : Int32) then
    some (1 : Int32)
  else
  BX0_points_55 σ ρ a0
def MX0_lines (σ : Sto) (ρ : Rho) (a0 : Nat) : Option (Int32) :=
  Option.bind (MX0_kind σ ρ a0) fun c1 =>
  if c1 = (0 : Int32) then
    Option.bind (MX2_points ((σ a0 1))) fun c2 =>
    some c2
  else
  if c1 = (1 : Int32) then
    some (1 : Int32)
  else
  if c1 = (2 : Int32) then
    some (2 : Int32)
  else
  some (0 : Int32)
def BX0_zeros_52 (σ : Sto) (a0 : Nat) (a1 : Int32) (a2 : Int32) (a3 : Int32) (v4 : Int32) (v5 : Int32) (v6 : Int32) : Option (Int32) :=
  Option.bind (MX2_rest (((v5 * v5) - (((4 : Int32) * v4) * v6))) ((σ a0 1))) fun c1 =>
  bn c1 fun y2 =>
  if y2 = 0 then
    some (1 : Int32)
  else
    Option.bind (MX2_isSquare y2 ((σ a0 1))) fun c3 =>
    if c3 = 0 then
      some (0 : Int32)
    else
      some (2 : Int32)
def MX0_zeros (σ : Sto) (a0 : Nat) (a1 : Int32) (a2 : Int32) (a3 : Int32) : Option (Int32) :=
  Option.bind (MX2_rest a1 ((σ a0 1))) fun c1 =>
  bn c1 fun y2 =>
  Option.bind (MX2_rest a2 ((σ a0 1))) fun c3 =>
  bn c3 fun y4 =>
  Option.bind (MX2_rest a3 ((σ a0 1))) fun c5 =>
  bn c5 fun y6 =>
  if y2 = 0 then
    if y4 = 0 then
      if y6 = 0 then
        some ((σ a0 1) + (1 : Int32))
      else
        BX0_zeros_52 σ a0 a1 a2 a3 y2 y4 y6
    else
      BX0_zeros_52 σ a0 a1 a2 a3 y2 y4 y6
  else
    BX0_zeros_52 σ a0 a1 a2 a3 y2 y4 y6
def MX0_crossings (σ : Sto) (ρ : Rho) (a0 : Nat) (a1 : Nat) : Option (Int32) :=
  bn ((σ a1 1)) fun y1 =>
  bn ((σ a1 2)) fun y2 =>
  if (σ a1 0) = 0 then
    if y1 = 0 then
      Option.bind (ρ a0 0) fun j3 =>
      Option.bind (ρ a0 0) fun j4 =>
      Option.bind (ρ a0 0) fun j5 =>
      Option.bind (MX0_zeros σ a0 ((σ j3 0)) ((σ j4 5)) ((σ j5 1))) fun c6 =>
      some c6
    else
      Option.bind (ρ a0 0) fun j7 =>
      Option.bind (ρ a0 0) fun j8 =>
      Option.bind (ρ a0 0) fun j9 =>
      Option.bind (ρ a0 0) fun j10 =>
      Option.bind (ρ a0 0) fun j11 =>
      Option.bind (ρ a0 0) fun j12 =>
      Option.bind (MX0_zeros σ a0 ((σ j7 0)) (((σ j8 4) - ((σ j9 5) * y2))) ((((((σ j10 1) * y2) * y2) + (σ j11 2)) - ((σ j12 3) * y2)))) fun c13 =>
      some c13
  else
    Option.bind (ρ a0 0) fun j14 =>
    Option.bind (ρ a0 0) fun j15 =>
    Option.bind (ρ a0 0) fun j16 =>
    Option.bind (ρ a0 0) fun j17 =>
    Option.bind (ρ a0 0) fun j18 =>
    Option.bind (ρ a0 0) fun j19 =>
    Option.bind (ρ a0 0) fun j20 =>
    Option.bind (ρ a0 0) fun j21 =>
    Option.bind (ρ a0 0) fun j22 =>
    Option.bind (ρ a0 0) fun j23 =>
    Option.bind (MX0_zeros σ a0 ((((((σ j14 0) * y1) * y1) + (σ j15 1)) - ((σ j16 5) * y1))) ((((((((2 : Int32) * (σ j17 0)) * y1) * y2) + (σ j18 3)) - ((σ j19 4) * y1)) - ((σ j20 5) * y2))) ((((((σ j21 0) * y2) * y2) + (σ j22 2)) - ((σ j23 4) * y2)))) fun c24 =>
    some c24
def MX3_nth (σ : Sto) (a0 : Nat) (a1 : Int32) : Option (Int32) :=
  if a1 = (0 : Int32) then
    some (σ a0 0)
  else
  if a1 = (1 : Int32) then
    some (σ a0 1)
  else
  if a1 = (2 : Int32) then
    some (σ a0 2)
  else
  if a1 = (3 : Int32) then
    some (σ a0 3)
  else
  if a1 = (4 : Int32) then
    some (σ a0 4)
  else
  some (σ a0 5)
def BX0_isUnlike_75 (σ : Sto) (ρ : Rho) (a0 : Nat) (a1 : Nat) (rec : Int32 → Option (Int32)) (v2 : Int32) : Option (Int32) :=
  bn (v2 + (1 : Int32)) fun y1 =>
  rec y1
def FX0_isUnlike_12 (σ : Sto) (ρ : Rho) (a0 : Nat) (a1 : Nat) (k75 : Int32 → Option (Int32)) (rec : Int32 → Int32 → Option (Int32)) (v2 : Int32) (v3 : Int32) : Option (Int32) :=
  if (6 : Int32) ≤ v3 then
    k75 v2
  else
    Option.bind (ρ a0 0) fun j1 =>
    Option.bind (MX3_nth σ j1 v2) fun c2 =>
    Option.bind (ρ a1 0) fun j3 =>
    Option.bind (MX3_nth σ j3 v3) fun c4 =>
    Option.bind (ρ a0 0) fun j5 =>
    Option.bind (MX3_nth σ j5 v3) fun c6 =>
    Option.bind (ρ a1 0) fun j7 =>
    Option.bind (MX3_nth σ j7 v2) fun c8 =>
    bn (((c2 * c4) - (c6 * c8))) fun y9 =>
    Option.bind (MX2_rest y9 ((σ a0 1))) fun c10 =>
    if c10 = 0 then
      bn (v3 + (1 : Int32)) fun y11 =>
      rec v2 y11
    else
      zr ((1 : Int32)) (some (1 : Int32))
def FX0_isUnlike_2 (σ : Sto) (ρ : Rho) (a0 : Nat) (a1 : Nat) (rec : Int32 → Option (Int32)) (v2 : Int32) : Option (Int32) :=
  if (6 : Int32) ≤ v2 then
    zr ((0 : Int32)) (some (0 : Int32))
  else
    bn ((v2 + (1 : Int32))) fun y1 =>
    fixN (fun _ _ => none) (FX0_isUnlike_12 σ ρ a0 a1 (BX0_isUnlike_75 σ ρ a0 a1 rec)) FU v2 y1
def MX0_isUnlike (σ : Sto) (ρ : Rho) (a0 : Nat) (a1 : Nat) : Option (Int32) :=
  bn ((0 : Int32)) fun y1 =>
  fixN (fun _ => none) (FX0_isUnlike_2 σ ρ a0 a1) FU y1
def MX10_init (a0 : Nat) : Option (Unit) :=
  some ()
def MX3_change (σ : Sto) (a0 : Nat) (a1 : Int32) (a2 : Int32) : Option (Sto) :=
  if a1 = (0 : Int32) then
    bn (su σ a0 0 a2) fun σ1 =>
    some σ1
  else
  if a1 = (1 : Int32) then
    bn (su σ a0 1 a2) fun σ2 =>
    some σ2
  else
  if a1 = (2 : Int32) then
    bn (su σ a0 2 a2) fun σ3 =>
    some σ3
  else
  if a1 = (3 : Int32) then
    bn (su σ a0 3 a2) fun σ4 =>
    some σ4
  else
  if a1 = (4 : Int32) then
    bn (su σ a0 4 a2) fun σ5 =>
    some σ5
  else
  bn (su σ a0 5 a2) fun σ6 =>
  some σ6
def MX8_markAt (σ : Sto) (ρ : Rho) (a0 : Nat) (a1 : Int32) : Option (Int32) :=
  if a1 < 0 then
    some (-1 : Int32)
  else
    if (σ a0 1) ≤ a1 then
      some (-1 : Int32)
    else
      if (8 : Int32) ≤ a1 then
        some (-1 : Int32)
      else
        Option.bind (ρ a0 2) fun j1 =>
        Option.bind (ag σ j1 a1) fun x2 =>
        some x2
def MX10_take (σ : Sto) (a0 : Nat) (a1 : Int32) (a2 : Int32) : Option (Int32 × Sto) :=
  if a2 < (1 : Int32) then
    zr ((0 : Int32)) (some ((0 : Int32), σ))
  else
    if a1 < 0 then
      zr ((0 : Int32)) (some ((0 : Int32), σ))
    else
      Option.bind (MX2_points a2) fun c1 =>
      if a1 < c1 then
        if (a2 * a2) ≤ a1 then
          if ((a2 * a2) + a2) ≤ a1 then
            Option.bind (MX10_fill σ a0 ((0 : Int32)) ((0 : Int32)) ((1 : Int32))) fun c2 =>
            zr ((1 : Int32)) (some ((1 : Int32), c2))
          else
            Option.bind (MX10_fill σ a0 ((0 : Int32)) ((1 : Int32)) ((a1 - (a2 * a2)))) fun c3 =>
            zr ((1 : Int32)) (some ((1 : Int32), c3))
        else
          Option.bind (dvi a1 a2) fun z4 =>
          Option.bind (rmi a1 a2) fun z5 =>
          Option.bind (MX10_fill σ a0 ((1 : Int32)) z4 z5) fun c6 =>
          zr ((1 : Int32)) (some ((1 : Int32), c6))
      else
        zr ((0 : Int32)) (some ((0 : Int32), σ))
def FX1_firstOff_2 (σ : Sto) (ρ : Rho) (a0 : Nat) (a1 : Nat) (rec : Int32 → Option (Int32)) (v2 : Int32) : Option (Int32) :=
  if (σ a0 2) ≤ v2 then
    some (-1 : Int32)
  else
    if (6 : Int32) ≤ v2 then
      some (-1 : Int32)
    else
      Option.bind (ρ a0 0) fun j1 =>
      Option.bind (rg ρ j1 v2) fun j2 =>
      Option.bind (MX0_valueAt σ ρ j2 a1) fun c3 =>
      if c3 = 0 then
        bn (v2 + (1 : Int32)) fun y4 =>
        rec y4
      else
        some v2
def MX1_firstOff (σ : Sto) (ρ : Rho) (a0 : Nat) (a1 : Nat) : Option (Int32) :=
  bn ((0 : Int32)) fun y1 =>
  fixN (fun _ => none) (FX1_firstOff_2 σ ρ a0 a1) FU y1
def FX1_pass_85 (a0 : Nat) (rec : Sto → Rho → Nat → Int32 → Int32 → Option (Sto × Rho)) (σ : Sto) (ρ : Rho) (v2 : Nat) (v3 : Int32) (v4 : Int32) : Option (Sto × Rho) :=
  if (σ a0 2) ≤ v4 then
    some (σ, ρ)
  else
    Option.bind (ρ a0 0) fun j1 =>
    Option.bind (rg ρ j1 v4) fun j2 =>
    Option.bind (ρ j2 0) fun j3 =>
    Option.bind (ρ a0 0) fun j4 =>
    Option.bind (rg ρ j4 v4) fun j5 =>
    Option.bind (ρ a0 1) fun j6 =>
    Option.bind (MX0_valueAt σ ρ j5 j6) fun c7 =>
    Option.bind (ρ v2 0) fun j8 =>
    Option.bind (MX3_blend σ j3 v3 ((-c7)) j8) fun c9 =>
    Option.bind (ρ a0 0) fun j10 =>
    Option.bind (rg ρ j10 v4) fun j11 =>
    Option.bind (ρ j11 0) fun j12 =>
    Option.bind (ρ a0 0) fun j13 =>
    Option.bind (rg ρ j13 v4) fun j14 =>
    Option.bind (MX3_reduce c9 j12 ((c9 j14 1))) fun c15 =>
    bn (v4 + (1 : Int32)) fun y16 =>
    rec c15 ρ v2 v3 y16
def MX1_pass (σ : Sto) (ρ : Rho) (a0 : Nat) : Option (Sto × Rho) :=
  Option.bind (ρ a0 1) fun j1 =>
  Option.bind (MX1_firstOff σ ρ a0 j1) fun c2 =>
  bn c2 fun y3 =>
  if y3 < 0 then
    some (σ, ρ)
  else
    if (σ a0 2) ≤ y3 then
      some (σ, ρ)
    else
      if (σ a0 2) ≤ (6 : Int32) then
        bn (su σ a0 2 (((σ a0 2) - (1 : Int32)))) fun σ4 =>
        Option.bind (ρ a0 0) fun j5 =>
        Option.bind (rg ρ j5 y3) fun j6 =>
        Option.bind (ρ a0 0) fun j7 =>
        Option.bind (ρ a0 0) fun j8 =>
        Option.bind (rg ρ j8 ((σ4 a0 2))) fun j9 =>
        Option.bind (rp ρ j7 y3 j9) fun ρ10 =>
        Option.bind (ρ10 a0 0) fun j11 =>
        Option.bind (rp ρ10 j11 ((σ4 a0 2)) j6) fun ρ12 =>
        Option.bind (ρ12 a0 1) fun j13 =>
        Option.bind (MX0_valueAt σ4 ρ12 j6 j13) fun c14 =>
        bn c14 fun y15 =>
        bn ((0 : Int32)) fun y16 =>
        fixN (fun _ _ _ _ _ => none) (FX1_pass_85 a0) FU σ4 ρ12 j6 y15 y16
      else
        some (σ, ρ)
def BX1_gather_98 (a0 : Nat) (a1 : Nat) (rec : Sto → Rho → Int32 → Option (Sto × Rho)) (σ : Sto) (ρ : Rho) (v2 : Int32) : Option (Sto × Rho) :=
  bn (v2 + (1 : Int32)) fun y1 =>
  rec σ ρ y1
def FX1_gather_67 (a0 : Nat) (a1 : Nat) (rec : Sto → Rho → Int32 → Option (Sto × Rho)) (σ : Sto) (ρ : Rho) (v2 : Int32) : Option (Sto × Rho) :=
  if (σ a1 1) ≤ v2 then
    some (σ, ρ)
  else
    Option.bind (ρ a0 1) fun j1 =>
    Option.bind (MX8_markAt σ ρ a1 v2) fun c2 =>
    Option.bind (MX10_take σ j1 c2 ((σ a1 0))) fun c3 =>
    if c3.1 = 0 then
      BX1_gather_98 a0 a1 rec c3.2 ρ v2
    else
      Option.bind (MX1_pass c3.2 ρ a0) fun c4 =>
      BX1_gather_98 a0 a1 rec c4.1 c4.2 v2
def BX1_gather_65 (a0 : Nat) (a1 : Nat) (σ : Sto) (ρ : Rho) : Option (Sto × Rho) :=
  bn ((0 : Int32)) fun y1 =>
  fixN (fun _ _ _ => none) (FX1_gather_67 a0 a1) FU σ ρ y1
def FX1_gather_8 (a0 : Nat) (a1 : Nat) (k65 : Sto → Rho → Option (Sto × Rho)) (rec : Sto → Rho → Int32 → Option (Sto × Rho)) (σ : Sto) (ρ : Rho) (v2 : Int32) : Option (Sto × Rho) :=
  if (6 : Int32) ≤ v2 then
    k65 σ ρ
  else
    Option.bind (ρ a0 0) fun j1 =>
    Option.bind (rg ρ j1 v2) fun j2 =>
    bn (su σ j2 1 ((σ a1 0))) fun σ3 =>
    Option.bind (ρ a0 0) fun j4 =>
    Option.bind (rg ρ j4 v2) fun j5 =>
    Option.bind (ρ j5 0) fun j6 =>
    Option.bind (MX3_fill σ3 j6 ((0 : Int32)) ((0 : Int32)) ((0 : Int32)) ((0 : Int32)) ((0 : Int32)) ((0 : Int32))) fun c7 =>
    Option.bind (ρ a0 0) fun j8 =>
    Option.bind (rg ρ j8 v2) fun j9 =>
    Option.bind (ρ j9 0) fun j10 =>
    Option.bind (MX3_change c7 j10 v2 ((1 : Int32))) fun c11 =>
    bn (v2 + (1 : Int32)) fun y12 =>
    rec c11 ρ y12
def MX1_gather (σ : Sto) (ρ : Rho) (a0 : Nat) (a1 : Nat) : Option (Sto × Rho) :=
  bn (su σ a0 2 ((6 : Int32))) fun σ1 =>
  bn ((0 : Int32)) fun y2 =>
  fixN (fun _ _ _ => none) (FX1_gather_8 a0 a1 (BX1_gather_65 a0 a1)) FU σ1 ρ y2
def MX1_isLessBy (σ : Sto) (ρ : Rho) (a0 : Nat) (a1 : Nat) : Option (Int32) :=
  Option.bind (MX1_firstOff σ ρ a0 a1) fun c1 =>
  if c1 = (-1 : Int32) then
    zr ((0 : Int32)) (some (0 : Int32))
  else
    zr ((1 : Int32)) (some (1 : Int32))
def FX2_inverse_2 (a0 : Int32) (a1 : Int32) (rec : Int32 → Option (Int32)) (v2 : Int32) : Option (Int32) :=
  if a1 ≤ v2 then
    some (0 : Int32)
  else
    Option.bind (MX2_rest ((v2 * a0)) a1) fun c1 =>
    if c1 = (1 : Int32) then
      some v2
    else
      bn (v2 + (1 : Int32)) fun y2 =>
      rec y2
def MX2_inverse (a0 : Int32) (a1 : Int32) : Option (Int32) :=
  bn ((1 : Int32)) fun y1 =>
  fixN (fun _ => none) (FX2_inverse_2 a0 a1) FU y1
def BX1_readOne_52 (ρ : Rho) (a0 : Nat) (a1 : Nat) (σ : Sto) (v2 : Nat) (v3 : Int32) (v4 : Int32) : Option (Sto) :=
  Option.bind (MX3_copy σ a1 v2) fun c1 =>
  Option.bind (MX2_inverse v4 v3) fun c2 =>
  Option.bind (MX3_blend c1 a1 c2 ((0 : Int32)) v2) fun c3 =>
  Option.bind (MX3_reduce c3 a1 v3) fun c4 =>
  some c4
def FX1_readOne_26 (ρ : Rho) (a0 : Nat) (a1 : Nat) (k52 : Sto → Nat → Int32 → Int32 → Option (Sto)) (rec : Sto → Nat → Int32 → Int32 → Int32 → Option (Sto)) (σ : Sto) (v2 : Nat) (v3 : Int32) (v4 : Int32) (v5 : Int32) : Option (Sto) :=
  if (6 : Int32) ≤ v5 then
    k52 σ v2 v3 v4
  else
    if v4 = 0 then
      Option.bind (MX3_nth σ v2 v5) fun c1 =>
      bn c1 fun y2 =>
      bn (v5 + (1 : Int32)) fun y3 =>
      rec σ v2 v3 y2 y3
    else
      k52 σ v2 v3 v4
def MX1_readOne (σ : Sto) (ρ : Rho) (a0 : Nat) (a1 : Nat) : Option (Sto) :=
  Option.bind (ρ a0 0) fun j1 =>
  Option.bind (rg ρ j1 ((0 : Int32))) fun j2 =>
  Option.bind (ρ j2 0) fun j3 =>
  Option.bind (ρ a0 0) fun j4 =>
  Option.bind (rg ρ j4 ((0 : Int32))) fun j5 =>
  bn ((σ j5 1)) fun y6 =>
  bn ((0 : Int32)) fun y7 =>
  bn ((0 : Int32)) fun y8 =>
  fixN (fun _ _ _ _ _ => none) (FX1_readOne_26 ρ a0 a1 (BX1_readOne_52 ρ a0 a1)) FU σ j3 y6 y7 y8
def MX3_isLike (σ : Sto) (a0 : Nat) (a1 : Nat) : Option (Int32) :=
  if (σ a0 0) = (σ a1 0) then
    if (σ a0 1) = (σ a1 1) then
      if (σ a0 2) = (σ a1 2) then
        if (σ a0 3) = (σ a1 3) then
          if (σ a0 4) = (σ a1 4) then
            if (σ a0 5) = (σ a1 5) then
              zr ((1 : Int32)) (some (1 : Int32))
            else
              zr ((0 : Int32)) (some (0 : Int32))
          else
            zr ((0 : Int32)) (some (0 : Int32))
        else
          zr ((0 : Int32)) (some (0 : Int32))
      else
        zr ((0 : Int32)) (some (0 : Int32))
    else
      zr ((0 : Int32)) (some (0 : Int32))
  else
    zr ((0 : Int32)) (some (0 : Int32))
def MX11_isBeyond (a0 : Int32) : Option (Int32) :=
  if a0 < (-99 : Int32) then
    zr ((1 : Int32)) (some (1 : Int32))
  else
    if a0 ≤ (99 : Int32) then
      zr ((0 : Int32)) (some (0 : Int32))
    else
      zr ((1 : Int32)) (some (1 : Int32))
def MX3_isWithinLimit (σ : Sto) (a0 : Nat) : Option (Int32) :=
  Option.bind (MX11_isBeyond ((σ a0 0))) fun c1 =>
  if c1 = 0 then
    Option.bind (MX11_isBeyond ((σ a0 1))) fun c2 =>
    if c2 = 0 then
      Option.bind (MX11_isBeyond ((σ a0 2))) fun c3 =>
      if c3 = 0 then
        Option.bind (MX11_isBeyond ((σ a0 3))) fun c4 =>
        if c4 = 0 then
          Option.bind (MX11_isBeyond ((σ a0 4))) fun c5 =>
          if c5 = 0 then
            Option.bind (MX11_isBeyond ((σ a0 5))) fun c6 =>
            if c6 = 0 then
              zr ((1 : Int32)) (some (1 : Int32))
            else
              zr ((0 : Int32)) (some (0 : Int32))
          else
            zr ((0 : Int32)) (some (0 : Int32))
        else
          zr ((0 : Int32)) (some (0 : Int32))
      else
        zr ((0 : Int32)) (some (0 : Int32))
    else
      zr ((0 : Int32)) (some (0 : Int32))
  else
    zr ((0 : Int32)) (some (0 : Int32))
def MX3_twisted (σ : Sto) (a0 : Nat) (a1 : Int32) : Option (Sto) :=
  if a1 = 0 then
    Option.bind (MX3_fill σ a0 ((σ a0 1)) ((σ a0 0)) ((σ a0 2)) ((σ a0 4)) ((σ a0 3)) ((σ a0 5))) fun c3 =>
    some c3
  else
    if a1 = (1 : Int32) then
      Option.bind (MX3_fill σ a0 ((σ a0 0)) ((σ a0 2)) ((σ a0 1)) ((σ a0 3)) ((σ a0 5)) ((σ a0 4))) fun c2 =>
      some c2
    else
      Option.bind (MX3_fill σ a0 ((σ a0 0)) ((((σ a0 0) + (σ a0 1)) + (σ a0 5))) ((σ a0 2)) (((σ a0 3) + (σ a0 4))) ((σ a0 4)) ((((2 : Int32) * (σ a0 0)) + (σ a0 5)))) fun c1 =>
      some c1
def MX3_multiply (σ : Sto) (a0 : Nat) : Option (Sto) :=
  Option.bind (MX3_fill σ a0 (((σ a0 0) * (σ a0 3))) (((σ a0 1) * (σ a0 4))) (((σ a0 2) * (σ a0 5))) ((((σ a0 1) * (σ a0 5)) + ((σ a0 2) * (σ a0 4)))) ((((σ a0 0) * (σ a0 5)) + ((σ a0 2) * (σ a0 3)))) ((((σ a0 0) * (σ a0 4)) + ((σ a0 1) * (σ a0 3))))) fun c1 =>
  some c1
def MX3_i (σ : Sto) (a0 : Nat) : Option (Int32) :=
  some ((((((4 : Int32) * (σ a0 1)) * (σ a0 2)) - ((σ a0 3) * (σ a0 3))) + (((4 : Int32) * (σ a0 0)) * (σ a0 2))) - ((σ a0 4) * (σ a0 4)))
def MX3_sortOfWhole (σ : Sto) (a0 : Nat) : Option (Int32) :=
  Option.bind (MX3_d σ a0) fun c1 =>
  if c1 ≤ 0 then
    Option.bind (MX3_d σ a0) fun c2 =>
    if c2 = 0 then
      some (2 : Int32)
    else
      some (3 : Int32)
  else
    Option.bind (MX3_e σ a0) fun c3 =>
    if 0 ≤ (lg_cmp ((c3.toInt64 * (((σ a0 0) + (σ a0 1))).toInt64)) ((0 : Int64))) then
      some (1 : Int32)
    else
      some (0 : Int32)
def BX3_sortOfFallen_41 (σ : Sto) (a0 : Nat) : Option (Int32) :=
  Option.bind (MX3_i σ a0) fun c1 =>
  if 0 ≤ c1 then
    Option.bind (MX3_i σ a0) fun c2 =>
    if c2 ≤ 0 then
      some (8 : Int32)
    else
      some (7 : Int32)
  else
    some (6 : Int32)
def MX3_sortOfFallen (σ : Sto) (a0 : Nat) : Option (Int32) :=
  Option.bind (MX3_d σ a0) fun c1 =>
  if c1 = 0 then
    if (σ a0 0) = 0 then
      if (σ a0 1) = 0 then
        if (σ a0 5) = 0 then
          if (σ a0 3) = 0 then
            if (σ a0 4) = 0 then
              some (10 : Int32)
            else
              some (9 : Int32)
          else
            some (9 : Int32)
        else
          BX3_sortOfFallen_41 σ a0
      else
        BX3_sortOfFallen_41 σ a0
    else
      BX3_sortOfFallen_41 σ a0
  else
    Option.bind (MX3_d σ a0) fun c2 =>
    if c2 ≤ 0 then
      some (5 : Int32)
    else
      some (4 : Int32)
def MX3_sort (σ : Sto) (a0 : Nat) : Option (Int32) :=
  Option.bind (MX3_e σ a0) fun c1 =>
  if c1 = 0 then
    Option.bind (MX3_sortOfFallen σ a0) fun c2 =>
    some c2
  else
    Option.bind (MX3_sortOfWhole σ a0) fun c3 =>
    some c3
def BX8_clear_39 (ρ : Rho) (a0 : Nat) (rec : Sto → Int32 → Option (Sto)) (σ : Sto) (v1 : Int32) (t0 : Nat) (t1 : Int32) (t2 : Int32) : Option (Sto) :=
  Option.bind (ap σ t0 t1 t2) fun σ1 =>
  bn (v1 + (1 : Int32)) fun y2 =>
  rec σ1 y2
def FX8_clear_13 (ρ : Rho) (a0 : Nat) (rec : Sto → Int32 → Option (Sto)) (σ : Sto) (v1 : Int32) : Option (Sto) :=
  Option.bind (ρ a0 3) fun j1 =>
  if (Int32.ofNat (ln j1)) ≤ v1 then
    some σ
  else
    Option.bind (ρ a0 3) fun j2 =>
    Option.bind (rmi v1 ((6 : Int32))) fun z3 =>
    if z3 = 0 then
      BX8_clear_39 ρ a0 rec σ v1 j2 v1 ((1 : Int32))
    else
      BX8_clear_39 ρ a0 rec σ v1 j2 v1 ((0 : Int32))
def MX8_clear (σ : Sto) (ρ : Rho) (a0 : Nat) : Option (Sto) :=
  bn (su σ a0 0 ((7 : Int32))) fun σ1 =>
  bn (su σ1 a0 1 ((0 : Int32))) fun σ2 =>
  bn ((0 : Int32)) fun y3 =>
  fixN (fun _ _ => none) (FX8_clear_13 ρ a0) FU σ2 y3
def MX8_copy (σ : Sto) (ρ : Rho) (a0 : Nat) (a1 : Nat) : Option (Sto) :=
  bn (su σ a0 0 ((σ a1 0))) fun σ1 =>
  bn (su σ1 a0 1 ((σ1 a1 1))) fun σ2 =>
  Option.bind (ρ a1 2) fun j3 =>
  Option.bind (ρ a0 2) fun j4 =>
  Option.bind (cpa σ2 j3 ((0 : Int32)) j4 ((0 : Int32)) ((8 : Int32))) fun σ5 =>
  Option.bind (ρ a1 3) fun j6 =>
  Option.bind (ρ a0 3) fun j7 =>
  Option.bind (cpa σ5 j6 ((0 : Int32)) j7 ((0 : Int32)) ((36 : Int32))) fun σ8 =>
  some σ8
def MX9_copy (σ : Sto) (ρ : Rho) (a0 : Nat) (a1 : Nat) : Option (Sto) :=
  bn (su σ a0 1 ((σ a1 1))) fun σ1 =>
  Option.bind (ρ a1 0) fun j2 =>
  Option.bind (ρ a0 0) fun j3 =>
  Option.bind (cpa σ1 j2 ((0 : Int32)) j3 ((0 : Int32)) ((500 : Int32))) fun σ4 =>
  some σ4
def MX4_copy (σ : Sto) (ρ : Rho) (a0 : Nat) (a1 : Nat) : Option (Sto) :=
  Option.bind (ρ a0 0) fun j1 =>
  Option.bind (ρ a1 0) fun j2 =>
  Option.bind (MX8_copy σ ρ j1 j2) fun c3 =>
  Option.bind (ρ a0 1) fun j4 =>
  Option.bind (ρ a1 1) fun j5 =>
  Option.bind (MX9_copy c3 ρ j4 j5) fun c6 =>
  bn (su c6 a0 2 ((c6 a1 2))) fun σ7 =>
  bn (su σ7 a0 3 ((σ7 a1 3))) fun σ8 =>
  bn (su σ8 a0 4 ((σ8 a1 4))) fun σ9 =>
  bn (su σ9 a0 5 ((σ9 a1 5))) fun σ10 =>
  some σ10
def MJ9_min_7cf53 (a0 : Int32) (a1 : Int32) : Option (Int32) :=
  if a1 < a0 then
    some a1
  else
    some a0
def BX5_keep_52 (ρ : Rho) (a0 : Nat) (a1 : Nat) (σ : Sto) (t0 : Nat) (t1 : Int32) : Option (Sto) :=
  bn (su σ t0 1 t1) fun σ1 =>
  Option.bind (MJ9_min_7cf53 (((σ1 a0 2) + (1 : Int32))) ((8 : Int32))) fun c2 =>
  bn (su σ1 a0 2 c2) fun σ3 =>
  some σ3
def MX5_keep (σ : Sto) (ρ : Rho) (a0 : Nat) (a1 : Nat) : Option (Sto) :=
  if (σ a0 1) < 0 then
    some σ
  else
    if (σ a0 1) < (8 : Int32) then
      Option.bind (ρ a0 0) fun j1 =>
      Option.bind (rg ρ j1 ((σ a0 1))) fun j2 =>
      Option.bind (MX8_copy σ ρ j2 a1) fun c3 =>
      if (8 : Int32) ≤ ((c3 a0 1) + (1 : Int32)) then
        BX5_keep_52 ρ a0 a1 c3 a0 ((0 : Int32))
      else
        BX5_keep_52 ρ a0 a1 c3 a0 (((c3 a0 1) + (1 : Int32)))
    else
      some σ
def BX5_giveBack_18 (ρ : Rho) (a0 : Nat) (a1 : Nat) (σ : Sto) (t0 : Int32) : Option (Int32 × Sto) :=
  bn t0 fun y1 =>
  if (σ a0 2) = 0 then
    zr ((0 : Int32)) (some ((0 : Int32), σ))
  else
    if y1 < (8 : Int32) then
      Option.bind (ρ a0 0) fun j2 =>
      Option.bind (rg ρ j2 y1) fun j3 =>
      Option.bind (MX8_copy σ ρ a1 j3) fun c4 =>
      bn (su c4 a0 1 y1) fun σ5 =>
      bn (su σ5 a0 2 (((σ5 a0 2) - (1 : Int32)))) fun σ6 =>
      zr ((1 : Int32)) (some ((1 : Int32), σ6))
    else
      zr ((0 : Int32)) (some ((0 : Int32), σ))
def MX5_giveBack (σ : Sto) (ρ : Rho) (a0 : Nat) (a1 : Nat) : Option (Int32 × Sto) :=
  if (σ a0 1) ≤ 0 then
    BX5_giveBack_18 ρ a0 a1 σ ((7 : Int32))
  else
    BX5_giveBack_18 ρ a0 a1 σ (((σ a0 1) - (1 : Int32)))
def MX5_forget (σ : Sto) (a0 : Nat) : Option (Sto) :=
  bn (su σ a0 2 ((0 : Int32))) fun σ1 =>
  some σ1
def MX6_take (σ : Sto) (ρ : Rho) (a0 : Nat) (a1 : Nat) (a2 : Int32) (a3 : Int32) : Option (Int32 × Sto) :=
  Option.bind (ρ a0 0) fun j1 =>
  Option.bind (MX0_take σ ρ j1 a1 a2) fun c2 =>
  Option.bind (ρ a0 1) fun j3 =>
  Option.bind (MX0_take c2 ρ j3 a1 a3) fun c4 =>
  Option.bind (ρ a0 0) fun j5 =>
  Option.bind (ρ j5 0) fun j6 =>
  Option.bind (MX3_isZero c4 j6) fun c7 =>
  if c7 = 0 then
    Option.bind (ρ a0 1) fun j8 =>
    Option.bind (ρ j8 0) fun j9 =>
    Option.bind (MX3_isZero c4 j9) fun c10 =>
    if c10 = 0 then
      Option.bind (ρ a0 0) fun j11 =>
      Option.bind (ρ a0 1) fun j12 =>
      Option.bind (MX0_isUnlike c4 ρ j11 j12) fun c13 =>
      if c13 = 0 then
        zr ((0 : Int32)) (some ((0 : Int32), c4))
      else
        zr ((1 : Int32)) (some ((1 : Int32), c4))
    else
      zr ((0 : Int32)) (some ((0 : Int32), c4))
  else
    zr ((0 : Int32)) (some ((0 : Int32), c4))
def MX6_takeMember (σ : Sto) (ρ : Rho) (a0 : Nat) (a1 : Int32) : Option (Int32 × Sto) :=
  if a1 < 0 then
    zr ((0 : Int32)) (some ((0 : Int32), σ))
  else
    Option.bind (ρ a0 0) fun j1 =>
    if a1 ≤ (σ j1 1) then
      Option.bind (ρ a0 0) fun j2 =>
      if (σ j2 1) ≤ a1 then
        Option.bind (ρ a0 2) fun j3 =>
        Option.bind (ρ a0 0) fun j4 =>
        bn (su σ j3 1 ((σ j4 1))) fun σ5 =>
        Option.bind (ρ a0 2) fun j6 =>
        Option.bind (ρ j6 0) fun j7 =>
        Option.bind (ρ a0 0) fun j8 =>
        Option.bind (ρ j8 0) fun j9 =>
        Option.bind (MX3_copy σ5 j7 j9) fun c10 =>
        zr ((1 : Int32)) (some ((1 : Int32), c10))
      else
        Option.bind (ρ a0 2) fun j11 =>
        Option.bind (ρ a0 0) fun j12 =>
        Option.bind (ρ a0 1) fun j13 =>
        Option.bind (MX0_mix σ ρ j11 j12 a1 j13) fun c14 =>
        zr ((1 : Int32)) (some ((1 : Int32), c14))
    else
      zr ((0 : Int32)) (some ((0 : Int32), σ))
def BX6_fallen_37 (ρ : Rho) (a0 : Nat) (rec : Sto → Int32 → Int32 → Option (Int32 × Sto)) (σ : Sto) (v1 : Int32) (v2 : Int32) : Option (Int32 × Sto) :=
  bn (v2 + (1 : Int32)) fun y1 =>
  rec σ v1 y1
def FX6_fallen_4 (ρ : Rho) (a0 : Nat) (rec : Sto → Int32 → Int32 → Option (Int32 × Sto)) (σ : Sto) (v1 : Int32) (v2 : Int32) : Option (Int32 × Sto) :=
  Option.bind (ρ a0 0) fun j1 =>
  if (σ j1 1) < v2 then
    some (v1, σ)
  else
    Option.bind (MX6_takeMember σ ρ a0 v2) fun c2 =>
    if c2.1 = 0 then
      BX6_fallen_37 ρ a0 rec c2.2 v1 v2
    else
      Option.bind (ρ a0 2) fun j3 =>
      Option.bind (MX0_kind c2.2 ρ j3) fun c4 =>
      if c4 = (4 : Int32) then
        BX6_fallen_37 ρ a0 rec c2.2 v1 v2
      else
        bn (v1 + (1 : Int32)) fun y5 =>
        BX6_fallen_37 ρ a0 rec c2.2 y5 v2
def MX6_fallen (σ : Sto) (ρ : Rho) (a0 : Nat) : Option (Int32 × Sto) :=
  bn ((0 : Int32)) fun y1 =>
  bn ((0 : Int32)) fun y2 =>
  fixN (fun _ _ _ => none) (FX6_fallen_4 ρ a0) FU σ y1 y2
def MX6_isOfBase (σ : Sto) (ρ : Rho) (a0 : Nat) (a1 : Int32) : Option (Int32 × Sto) :=
  Option.bind (ρ a0 3) fun j1 =>
  Option.bind (ρ a0 0) fun j2 =>
  Option.bind (MX10_take σ j1 a1 ((σ j2 1))) fun c3 =>
  if c3.1 = 0 then
    zr ((0 : Int32)) (some ((0 : Int32), c3.2))
  else
    Option.bind (ρ a0 0) fun j4 =>
    Option.bind (ρ a0 3) fun j5 =>
    Option.bind (MX0_valueAt c3.2 ρ j4 j5) fun c6 =>
    if c6 = 0 then
      Option.bind (ρ a0 1) fun j7 =>
      Option.bind (ρ a0 3) fun j8 =>
      Option.bind (MX0_valueAt c3.2 ρ j7 j8) fun c9 =>
      if c9 = 0 then
        zr ((1 : Int32)) (some ((1 : Int32), c3.2))
      else
        zr ((0 : Int32)) (some ((0 : Int32), c3.2))
    else
      zr ((0 : Int32)) (some ((0 : Int32), c3.2))
def BX6_sizeOfBase_29 (ρ : Rho) (a0 : Nat) (rec : Sto → Int32 → Int32 → Option (Int32 × Sto)) (σ : Sto) (v1 : Int32) (v2 : Int32) : Option (Int32 × Sto) :=
  bn (v2 + (1 : Int32)) fun y1 =>
  rec σ v1 y1
def FX6_sizeOfBase_4 (ρ : Rho) (a0 : Nat) (rec : Sto → Int32 → Int32 → Option (Int32 × Sto)) (σ : Sto) (v1 : Int32) (v2 : Int32) : Option (Int32 × Sto) :=
  Option.bind (ρ a0 0) fun j1 =>
  Option.bind (MX2_points ((σ j1 1))) fun c2 =>
  if c2 ≤ v2 then
    some (v1, σ)
  else
    Option.bind (MX6_isOfBase σ ρ a0 v2) fun c3 =>
    if c3.1 = 0 then
      BX6_sizeOfBase_29 ρ a0 rec c3.2 v1 v2
    else
      bn (v1 + (1 : Int32)) fun y4 =>
      BX6_sizeOfBase_29 ρ a0 rec c3.2 y4 v2
def MX6_sizeOfBase (σ : Sto) (ρ : Rho) (a0 : Nat) : Option (Int32 × Sto) :=
  bn ((0 : Int32)) fun y1 =>
  bn ((0 : Int32)) fun y2 =>
  fixN (fun _ _ _ => none) (FX6_sizeOfBase_4 ρ a0) FU σ y1 y2
def BX6_nthOfBase_35 (ρ : Rho) (a0 : Nat) (a1 : Int32) (rec : Sto → Int32 → Int32 → Option (Int32 × Sto)) (σ : Sto) (v2 : Int32) (v3 : Int32) : Option (Int32 × Sto) :=
  bn (v3 + (1 : Int32)) fun y1 =>
  rec σ v2 y1
def FX6_nthOfBase_4 (ρ : Rho) (a0 : Nat) (a1 : Int32) (rec : Sto → Int32 → Int32 → Option (Int32 × Sto)) (σ : Sto) (v2 : Int32) (v3 : Int32) : Option (Int32 × Sto) :=
  Option.bind (ρ a0 0) fun j1 =>
  Option.bind (MX2_points ((σ j1 1))) fun c2 =>
  if c2 ≤ v3 then
    some ((-1 : Int32), σ)
  else
    Option.bind (MX6_isOfBase σ ρ a0 v3) fun c3 =>
    if c3.1 = 0 then
      BX6_nthOfBase_35 ρ a0 a1 rec c3.2 v2 v3
    else
      if v2 = 0 then
        some (v3, c3.2)
      else
        bn (v2 + (-1 : Int32)) fun y4 =>
        BX6_nthOfBase_35 ρ a0 a1 rec c3.2 y4 v3
def MX6_nthOfBase (σ : Sto) (ρ : Rho) (a0 : Nat) (a1 : Int32) : Option (Int32 × Sto) :=
  bn a1 fun y1 =>
  bn ((0 : Int32)) fun y2 =>
  fixN (fun _ _ _ => none) (FX6_nthOfBase_4 ρ a0 a1) FU σ y1 y2
def MX10_numbered (σ : Sto) (a0 : Nat) (a1 : Int32) : Option (Int32) :=
  Option.bind (MX2_rest ((σ a0 0)) a1) fun c1 =>
  bn c1 fun y2 =>
  Option.bind (MX2_rest ((σ a0 1)) a1) fun c3 =>
  bn c3 fun y4 =>
  Option.bind (MX2_rest ((σ a0 2)) a1) fun c5 =>
  bn c5 fun y6 =>
  if y2 = 0 then
    if y4 = 0 then
      if y6 = 0 then
        some (-1 : Int32)
      else
        some ((a1 * a1) + a1)
    else
      Option.bind (MX2_inverse y4 a1) fun c7 =>
      Option.bind (MX2_rest ((y6 * c7)) a1) fun c8 =>
      some ((a1 * a1) + c8)
  else
    Option.bind (MX2_inverse y2 a1) fun c9 =>
    bn c9 fun y10 =>
    Option.bind (MX2_rest ((y4 * y10)) a1) fun c11 =>
    Option.bind (MX2_rest ((y6 * y10)) a1) fun c12 =>
    some ((a1 * c11) + c12)
def MX6_polarAtSpot (σ : Sto) (ρ : Rho) (a0 : Nat) (a1 : Nat) : Option (Int32 × Sto) :=
  Option.bind (ρ a0 3) fun j1 =>
  Option.bind (ρ a0 4) fun j2 =>
  Option.bind (MX0_polarOf σ ρ a1 j1 j2) fun c3 =>
  Option.bind (ρ a0 4) fun j4 =>
  Option.bind (MX10_numbered c3 j4 ((c3 a1 1))) fun c5 =>
  some (c5, c3)
def BX6_touching_72 (ρ : Rho) (a0 : Nat) (rec : Sto → Int32 → Int32 → Option (Int32 × Sto)) (σ : Sto) (v1 : Int32) (v2 : Int32) : Option (Int32 × Sto) :=
  bn (v2 + (1 : Int32)) fun y1 =>
  rec σ v1 y1
def FX6_touching_28 (ρ : Rho) (a0 : Nat) (rec : Sto → Int32 → Int32 → Option (Int32 × Sto)) (σ : Sto) (v1 : Int32) (v2 : Int32) : Option (Int32 × Sto) :=
  Option.bind (ρ a0 0) fun j1 =>
  Option.bind (MX2_points ((σ j1 1))) fun c2 =>
  if c2 ≤ v2 then
    some (v1, σ)
  else
    Option.bind (MX6_isOfBase σ ρ a0 v2) fun c3 =>
    if c3.1 = 0 then
      BX6_touching_72 ρ a0 rec c3.2 v1 v2
    else
      Option.bind (ρ a0 0) fun j4 =>
      Option.bind (MX6_polarAtSpot c3.2 ρ a0 j4) fun c5 =>
      Option.bind (ρ a0 1) fun j6 =>
      Option.bind (MX6_polarAtSpot c5.2 ρ a0 j6) fun c7 =>
      if c5.1 = c7.1 then
        bn (v1 + (1 : Int32)) fun y8 =>
        BX6_touching_72 ρ a0 rec c7.2 y8 v2
      else
        BX6_touching_72 ρ a0 rec c7.2 v1 v2
def MX6_touching (σ : Sto) (ρ : Rho) (a0 : Nat) : Option (Int32 × Sto) :=
  Option.bind (ρ a0 0) fun j1 =>
  Option.bind (MX0_kind σ ρ j1) fun c2 =>
  if c2 = (4 : Int32) then
    Option.bind (ρ a0 1) fun j3 =>
    Option.bind (MX0_kind σ ρ j3) fun c4 =>
    if c4 = (4 : Int32) then
      bn ((0 : Int32)) fun y5 =>
      bn ((0 : Int32)) fun y6 =>
      fixN (fun _ _ _ => none) (FX6_touching_28 ρ a0) FU σ y5 y6
    else
      some ((-1 : Int32), σ)
  else
    some ((-1 : Int32), σ)
def BX6_firstThrough_34 (ρ : Rho) (a0 : Nat) (a1 : Nat) (rec : Sto → Int32 → Option (Int32 × Sto)) (σ : Sto) (v2 : Int32) : Option (Int32 × Sto) :=
  bn (v2 + (1 : Int32)) fun y1 =>
  rec σ y1
def FX6_firstThrough_2 (ρ : Rho) (a0 : Nat) (a1 : Nat) (rec : Sto → Int32 → Option (Int32 × Sto)) (σ : Sto) (v2 : Int32) : Option (Int32 × Sto) :=
  Option.bind (ρ a0 0) fun j1 =>
  if (σ j1 1) < v2 then
    some ((-1 : Int32), σ)
  else
    Option.bind (MX6_takeMember σ ρ a0 v2) fun c2 =>
    if c2.1 = 0 then
      BX6_firstThrough_34 ρ a0 a1 rec c2.2 v2
    else
      Option.bind (ρ a0 2) fun j3 =>
      Option.bind (MX0_valueAt c2.2 ρ j3 a1) fun c4 =>
      if c4 = 0 then
        some (v2, c2.2)
      else
        BX6_firstThrough_34 ρ a0 a1 rec c2.2 v2
def MX6_firstThrough (σ : Sto) (ρ : Rho) (a0 : Nat) (a1 : Nat) : Option (Int32 × Sto) :=
  bn ((0 : Int32)) fun y1 =>
  fixN (fun _ _ => none) (FX6_firstThrough_2 ρ a0 a1) FU σ y1
def MX9_byteAt (σ : Sto) (ρ : Rho) (a0 : Nat) (a1 : Int32) : Option (Int32) :=
  if a1 < 0 then
    some (-1 : Int32)
  else
    if (σ a0 1) ≤ a1 then
      some (-1 : Int32)
    else
      if (500 : Int32) ≤ a1 then
        some (-1 : Int32)
      else
        Option.bind (ρ a0 0) fun j1 =>
        Option.bind (ag σ j1 a1) fun x2 =>
        some (x2 &&& (255 : Int32))
def BX7_skipBlanks_31 (ρ : Rho) (a0 : Nat) (a1 : Nat) (rec : Sto → Int32 → Option (Sto)) (σ : Sto) (v2 : Int32) : Option (Sto) :=
  bn (su σ a0 5 (((σ a0 5) + (1 : Int32)))) fun σ1 =>
  bn (v2 + (1 : Int32)) fun y2 =>
  rec σ1 y2
def FX7_skipBlanks_2 (ρ : Rho) (a0 : Nat) (a1 : Nat) (rec : Sto → Int32 → Option (Sto)) (σ : Sto) (v2 : Int32) : Option (Sto) :=
  if (500 : Int32) ≤ v2 then
    some σ
  else
    Option.bind (MX9_byteAt σ ρ a1 ((σ a0 5))) fun c1 =>
    bn c1 fun y2 =>
    if y2 = (32 : Int32) then
      BX7_skipBlanks_31 ρ a0 a1 rec σ v2
    else
      if y2 = (10 : Int32) then
        BX7_skipBlanks_31 ρ a0 a1 rec σ v2
      else
        some σ
def MX7_skipBlanks (σ : Sto) (ρ : Rho) (a0 : Nat) (a1 : Nat) : Option (Sto) :=
  bn ((0 : Int32)) fun y1 =>
  fixN (fun _ _ => none) (FX7_skipBlanks_2 ρ a0 a1) FU σ y1
def MX7_isLetter (a0 : Int32) : Option (Int32) :=
  if a0 < (97 : Int32) then
    zr ((0 : Int32)) (some (0 : Int32))
  else
    if (122 : Int32) < a0 then
      zr ((0 : Int32)) (some (0 : Int32))
    else
      zr ((1 : Int32)) (some (1 : Int32))
def FX7_takeWord_7 (ρ : Rho) (a0 : Nat) (a1 : Nat) (rec : Sto → Int32 → Option (Sto)) (σ : Sto) (v2 : Int32) : Option (Sto) :=
  if (500 : Int32) ≤ v2 then
    some σ
  else
    Option.bind (MX9_byteAt σ ρ a1 ((σ a0 5))) fun c1 =>
    Option.bind (MX7_isLetter c1) fun c2 =>
    if c2 = 0 then
      some σ
    else
      bn (su σ a0 5 (((σ a0 5) + (1 : Int32)))) fun σ3 =>
      bn (v2 + (1 : Int32)) fun y4 =>
      rec σ3 y4
def MX7_takeWord (σ : Sto) (ρ : Rho) (a0 : Nat) (a1 : Nat) : Option (Sto) :=
  bn (su σ a0 6 ((1 : Int32))) fun σ1 =>
  bn ((0 : Int32)) fun y2 =>
  fixN (fun _ _ => none) (FX7_takeWord_7 ρ a0 a1) FU σ1 y2
def MX7_isDigit (a0 : Int32) : Option (Int32) :=
  if a0 < (48 : Int32) then
    zr ((0 : Int32)) (some (0 : Int32))
  else
    if (57 : Int32) < a0 then
      zr ((0 : Int32)) (some (0 : Int32))
    else
      zr ((1 : Int32)) (some (1 : Int32))
def BX7_takeDigits_56 (ρ : Rho) (a0 : Nat) (a1 : Nat) (rec : Sto → Int32 → Option (Sto)) (k72 : Sto → Option (Sto)) (σ : Sto) (v2 : Int32) : Option (Sto) :=
  bn (su σ a0 5 (((σ a0 5) + (1 : Int32)))) fun σ1 =>
  bn (v2 + (1 : Int32)) fun y2 =>
  rec σ1 y2
def BX7_takeDigits_91 (ρ : Rho) (a0 : Nat) (a1 : Nat) (σ : Sto) (t0 : Nat) (t1 : Int32) : Option (Sto) :=
  bn (su σ t0 6 t1) fun σ1 =>
  some σ1
def BX7_takeDigits_72 (ρ : Rho) (a0 : Nat) (a1 : Nat) (σ : Sto) : Option (Sto) :=
  if (3 : Int32) < ((σ a0 5) - (σ a0 7)) then
    BX7_takeDigits_91 ρ a0 a1 σ a0 ((5 : Int32))
  else
    BX7_takeDigits_91 ρ a0 a1 σ a0 ((2 : Int32))
def FX7_takeDigits_7 (ρ : Rho) (a0 : Nat) (a1 : Nat) (k72 : Sto → Option (Sto)) (rec : Sto → Int32 → Option (Sto)) (σ : Sto) (v2 : Int32) : Option (Sto) :=
  if (500 : Int32) ≤ v2 then
    k72 σ
  else
    Option.bind (MX9_byteAt σ ρ a1 ((σ a0 5))) fun c1 =>
    Option.bind (MX7_isDigit c1) fun c2 =>
    if c2 = 0 then
      k72 σ
    else
      if (3 : Int32) ≤ v2 then
        BX7_takeDigits_56 ρ a0 a1 rec k72 σ v2
      else
        Option.bind (MX9_byteAt σ ρ a1 ((σ a0 5))) fun c3 =>
        bn (su σ a0 8 (((((10 : Int32) * (σ a0 8)) + c3) - (48 : Int32)))) fun σ4 =>
        BX7_takeDigits_56 ρ a0 a1 rec k72 σ4 v2
def MX7_takeDigits (σ : Sto) (ρ : Rho) (a0 : Nat) (a1 : Nat) : Option (Sto) :=
  bn (su σ a0 8 ((0 : Int32))) fun σ1 =>
  bn ((0 : Int32)) fun y2 =>
  fixN (fun _ _ => none) (FX7_takeDigits_7 ρ a0 a1 (BX7_takeDigits_72 ρ a0 a1)) FU σ1 y2
def BX7_advance_97 (ρ : Rho) (a0 : Nat) (a1 : Nat) (σ : Sto) (t0 : Nat) (t1 : Int32) : Option (Sto) :=
  bn (su σ t0 6 t1) fun σ1 =>
  some σ1
def MX7_advance (σ : Sto) (ρ : Rho) (a0 : Nat) (a1 : Nat) : Option (Sto) :=
  Option.bind (MX7_skipBlanks σ ρ a0 a1) fun c1 =>
  bn (su c1 a0 7 ((c1 a0 5))) fun σ2 =>
  Option.bind (MX9_byteAt σ2 ρ a1 ((σ2 a0 5))) fun c3 =>
  bn c3 fun y4 =>
  if y4 = (-1 : Int32) then
    bn (su σ2 a0 6 ((0 : Int32))) fun σ10 =>
    some σ10
  else
    Option.bind (MX7_isLetter y4) fun c5 =>
    if c5 = 0 then
      Option.bind (MX7_isDigit y4) fun c6 =>
      if c6 = 0 then
        bn (su σ2 a0 5 (((σ2 a0 5) + (1 : Int32)))) fun σ7 =>
        if y4 = (45 : Int32) then
          BX7_advance_97 ρ a0 a1 σ7 a0 ((3 : Int32))
        else
          if y4 = (59 : Int32) then
            BX7_advance_97 ρ a0 a1 σ7 a0 ((4 : Int32))
          else
            BX7_advance_97 ρ a0 a1 σ7 a0 ((5 : Int32))
      else
        Option.bind (MX7_takeDigits σ2 ρ a0 a1) fun c8 =>
        some c8
    else
      Option.bind (MX7_takeWord σ2 ρ a0 a1) fun c9 =>
      some c9
def FX7_tokenIs_28 (σ : Sto) (ρ : Rho) (a0 : Nat) (a1 : Nat) (a2 : Nat) (rec : Int32 → Option (Int32)) (v3 : Int32) : Option (Int32) :=
  Option.bind (MJ0_length_8abf5 a2) fun c1 =>
  if c1 ≤ v3 then
    zr ((1 : Int32)) (some (1 : Int32))
  else
    Option.bind (MX9_byteAt σ ρ a1 (((σ a0 7) + v3))) fun c2 =>
    Option.bind (MJ0_charAt_5068e a2 v3) fun c3 =>
    if c2 = c3 then
      bn (v3 + (1 : Int32)) fun y4 =>
      rec y4
    else
      zr ((0 : Int32)) (some (0 : Int32))
def MX7_tokenIs (σ : Sto) (ρ : Rho) (a0 : Nat) (a1 : Nat) (a2 : Nat) : Option (Int32) :=
  if (σ a0 6) = (1 : Int32) then
    Option.bind (MJ0_length_8abf5 a2) fun c1 =>
    if ((σ a0 5) - (σ a0 7)) = c1 then
      bn ((0 : Int32)) fun y2 =>
      fixN (fun _ => none) (FX7_tokenIs_28 σ ρ a0 a1 a2) FU y2
    else
      zr ((0 : Int32)) (some (0 : Int32))
  else
    zr ((0 : Int32)) (some (0 : Int32))
def MX7_lineKind (σ : Sto) (ρ : Rho) (a0 : Nat) (a1 : Nat) : Option (Int32) :=
  Option.bind (MX7_tokenIs σ ρ a0 a1 0) fun c1 =>
  if c1 = 0 then
    Option.bind (MX7_tokenIs σ ρ a0 a1 1) fun c2 =>
    if c2 = 0 then
      Option.bind (MX7_tokenIs σ ρ a0 a1 2) fun c3 =>
      if c3 = 0 then
        Option.bind (MX7_tokenIs σ ρ a0 a1 3) fun c4 =>
        if c4 = 0 then
          some (-1 : Int32)
        else
          some (3 : Int32)
      else
        some (2 : Int32)
    else
      some (1 : Int32)
  else
    some (0 : Int32)
def MX7_fail (σ : Sto) (a0 : Nat) (a1 : Int32) (a2 : Int32) : Option (Int32 × Sto) :=
  bn (su σ a0 1 a1) fun σ1 =>
  bn (su σ1 a0 2 a2) fun σ2 =>
  zr ((0 : Int32)) (some ((0 : Int32), σ2))
def FX11_isPrime_2 (a0 : Int32) (rec : Int32 → Option (Int32)) (v1 : Int32) : Option (Int32) :=
  if (8 : Int32) ≤ v1 then
    zr ((0 : Int32)) (some (0 : Int32))
  else
    Option.bind (pg v1) fun x3 =>
    if x3 = a0 then
      zr ((1 : Int32)) (some (1 : Int32))
    else
      bn (v1 + (1 : Int32)) fun y4 =>
      rec y4
def MX11_isPrime (a0 : Int32) : Option (Int32) :=
  bn ((0 : Int32)) fun y1 =>
  fixN (fun _ => none) (FX11_isPrime_2 a0) FU y1
def MX7_canBe (σ : Sto) (ρ : Rho) (a0 : Nat) (a1 : Int32) (a2 : Int32) : Option (Int32 × Sto) :=
  if a1 = 0 then
    Option.bind (MX11_isPrime a2) fun c5 =>
    zr c5 (some (c5, σ))
  else
    if a1 = (1 : Int32) then
      Option.bind (ρ a0 4) fun j2 =>
      Option.bind (ρ a0 0) fun j3 =>
      Option.bind (MX10_take σ j2 a2 ((σ j3 0))) fun c4 =>
      zr c4.1 (some (c4.1, c4.2))
    else
      Option.bind (MX11_isConic a2) fun c1 =>
      zr c1 (some (c1, σ))
def BX7_readSix_44 (ρ : Rho) (a0 : Nat) (a1 : Nat) (σ : Sto) : Option (Int32 × Sto) :=
  Option.bind (MX7_fail σ a0 ((1 : Int32)) ((σ a0 7))) fun c1 =>
  zr c1.1 (some (c1.1, c1.2))
def BX7_readSix_63 (ρ : Rho) (a0 : Nat) (a1 : Nat) (σ : Sto) : Option (Int32 × Sto) :=
  Option.bind (MX7_fail σ a0 ((2 : Int32)) ((σ a0 7))) fun c1 =>
  zr c1.1 (some (c1.1, c1.2))
def BX7_readSix_94 (ρ : Rho) (a0 : Nat) (a1 : Nat) (rec : Sto → Int32 → Option (Int32 × Sto)) (k44 : Sto → Option (Int32 × Sto)) (k63 : Sto → Option (Int32 × Sto)) (σ : Sto) (v2 : Int32) (t0 : Nat) (t1 : Int32) (t2 : Int32) : Option (Int32 × Sto) :=
  Option.bind (MX3_change σ t0 t1 t2) fun c1 =>
  bn (v2 + (1 : Int32)) fun y2 =>
  rec c1 y2
def BX7_readSix_36 (ρ : Rho) (a0 : Nat) (a1 : Nat) (rec : Sto → Int32 → Option (Int32 × Sto)) (k44 : Sto → Option (Int32 × Sto)) (k63 : Sto → Option (Int32 × Sto)) (σ : Sto) (v2 : Int32) (v3 : Int32) : Option (Int32 × Sto) :=
  if (σ a0 6) = (2 : Int32) then
    if (σ a0 8) ≤ (99 : Int32) then
      Option.bind (ρ a0 3) fun j1 =>
      if v3 = 0 then
        BX7_readSix_94 ρ a0 a1 rec k44 k63 σ v2 j1 v2 ((σ a0 8))
      else
        BX7_readSix_94 ρ a0 a1 rec k44 k63 σ v2 j1 v2 ((-(σ a0 8)))
    else
      k63 σ
  else
    k44 σ
def BX7_readSix_26 (ρ : Rho) (a0 : Nat) (a1 : Nat) (rec : Sto → Int32 → Option (Int32 × Sto)) (k44 : Sto → Option (Int32 × Sto)) (k63 : Sto → Option (Int32 × Sto)) (σ : Sto) (v2 : Int32) (t0 : Int32) : Option (Int32 × Sto) :=
  bn t0 fun y1 =>
  if y1 = 0 then
    BX7_readSix_36 ρ a0 a1 rec k44 k63 σ v2 y1
  else
    Option.bind (MX7_advance σ ρ a0 a1) fun c2 =>
    BX7_readSix_36 ρ a0 a1 rec k44 k63 c2 v2 y1
def FX7_readSix_2 (ρ : Rho) (a0 : Nat) (a1 : Nat) (k44 : Sto → Option (Int32 × Sto)) (k63 : Sto → Option (Int32 × Sto)) (rec : Sto → Int32 → Option (Int32 × Sto)) (σ : Sto) (v2 : Int32) : Option (Int32 × Sto) :=
  if (6 : Int32) ≤ v2 then
    zr ((1 : Int32)) (some ((1 : Int32), σ))
  else
    Option.bind (MX7_advance σ ρ a0 a1) fun c1 =>
    if (c1 a0 6) = (3 : Int32) then
      BX7_readSix_26 ρ a0 a1 rec k44 k63 c1 v2 ((1 : Int32))
    else
      BX7_readSix_26 ρ a0 a1 rec k44 k63 c1 v2 ((0 : Int32))
def MX7_readSix (σ : Sto) (ρ : Rho) (a0 : Nat) (a1 : Nat) : Option (Int32 × Sto) :=
  bn ((0 : Int32)) fun y1 =>
  fixN (fun _ _ => none) (FX7_readSix_2 ρ a0 a1 (BX7_readSix_44 ρ a0 a1) (BX7_readSix_63 ρ a0 a1)) FU σ y1
def MX8_changePrime (σ : Sto) (a0 : Nat) (a1 : Int32) : Option (Sto) :=
  if a1 = (σ a0 0) then
    some σ
  else
    bn (su σ a0 0 a1) fun σ1 =>
    bn (su σ1 a0 1 ((0 : Int32))) fun σ2 =>
    some σ2
def FX8_isMarked_2 (σ : Sto) (ρ : Rho) (a0 : Nat) (a1 : Int32) (rec : Int32 → Option (Int32)) (v2 : Int32) : Option (Int32) :=
  if (σ a0 1) ≤ v2 then
    zr ((0 : Int32)) (some (0 : Int32))
  else
    Option.bind (MX8_markAt σ ρ a0 v2) fun c1 =>
    if c1 = a1 then
      zr ((1 : Int32)) (some (1 : Int32))
    else
      bn (v2 + (1 : Int32)) fun y2 =>
      rec y2
def MX8_isMarked (σ : Sto) (ρ : Rho) (a0 : Nat) (a1 : Int32) : Option (Int32) :=
  bn ((0 : Int32)) fun y1 =>
  fixN (fun _ => none) (FX8_isMarked_2 σ ρ a0 a1) FU y1
def MX8_addMark (σ : Sto) (ρ : Rho) (a0 : Nat) (a1 : Int32) : Option (Sto) :=
  if (σ a0 1) < 0 then
    some σ
  else
    if (8 : Int32) ≤ (σ a0 1) then
      some σ
    else
      Option.bind (ρ a0 2) fun j1 =>
      Option.bind (ap σ j1 ((σ a0 1)) a1) fun σ2 =>
      bn (su σ2 a0 1 (((σ2 a0 1) + (1 : Int32)))) fun σ3 =>
      some σ3
def FX8_write_9 (ρ : Rho) (a0 : Nat) (a1 : Int32) (a2 : Nat) (rec : Sto → Int32 → Option (Sto)) (σ : Sto) (v3 : Int32) : Option (Sto) :=
  if (6 : Int32) ≤ v3 then
    some σ
  else
    Option.bind (ρ a0 3) fun j1 =>
    Option.bind (MX3_nth σ a2 v3) fun c2 =>
    Option.bind (ap σ j1 (((a1 * (6 : Int32)) + v3)) c2) fun σ3 =>
    bn (v3 + (1 : Int32)) fun y4 =>
    rec σ3 y4
def MX8_write (σ : Sto) (ρ : Rho) (a0 : Nat) (a1 : Int32) (a2 : Nat) : Option (Sto) :=
  Option.bind (MX11_isConic a1) fun c1 =>
  if c1 = 0 then
    some σ
  else
    bn ((0 : Int32)) fun y2 =>
    fixN (fun _ _ => none) (FX8_write_9 ρ a0 a1 a2) FU σ y2
def BX7_carryOut_47 (ρ : Rho) (a0 : Nat) (a1 : Int32) (a2 : Int32) (σ : Sto) (t0 : Int32) : Option (Int32 × Sto) :=
  bn t0 fun y1 =>
  if y1 = 0 then
    zr y1 (some (y1, σ))
  else
    Option.bind (ρ a0 0) fun j2 =>
    Option.bind (MX8_addMark σ ρ j2 a2) fun c3 =>
    zr y1 (some (y1, c3))
def BX7_carryOut_46 (ρ : Rho) (a0 : Nat) (a1 : Int32) (a2 : Int32) (σ : Sto) : Option (Int32 × Sto) :=
  BX7_carryOut_47 ρ a0 a1 a2 σ ((0 : Int32))
def BX7_carryOut_99 (ρ : Rho) (a0 : Nat) (a1 : Int32) (a2 : Int32) (σ : Sto) (t0 : Int32) : Option (Int32 × Sto) :=
  bn t0 fun y1 =>
  if y1 = 0 then
    zr y1 (some (y1, σ))
  else
    Option.bind (ρ a0 0) fun j2 =>
    Option.bind (ρ a0 3) fun j3 =>
    Option.bind (MX8_write σ ρ j2 a2 j3) fun c4 =>
    zr y1 (some (y1, c4))
def BX7_carryOut_98 (ρ : Rho) (a0 : Nat) (a1 : Int32) (a2 : Int32) (σ : Sto) : Option (Int32 × Sto) :=
  BX7_carryOut_99 ρ a0 a1 a2 σ ((0 : Int32))
def BX7_carryOut_74 (ρ : Rho) (a0 : Nat) (a1 : Int32) (a2 : Int32) (σ : Sto) : Option (Int32 × Sto) :=
  Option.bind (ρ a0 3) fun j1 =>
  Option.bind (MX3_isZero σ j1) fun c2 =>
  if c2 = 0 then
    Option.bind (ρ a0 3) fun j3 =>
    Option.bind (MX3_isWithinLimit σ j3) fun c4 =>
    if c4 = 0 then
      BX7_carryOut_98 ρ a0 a1 a2 σ
    else
      BX7_carryOut_99 ρ a0 a1 a2 σ ((1 : Int32))
  else
    BX7_carryOut_98 ρ a0 a1 a2 σ
def MX7_carryOut (σ : Sto) (ρ : Rho) (a0 : Nat) (a1 : Int32) (a2 : Int32) : Option (Int32 × Sto) :=
  if a1 = 0 then
    Option.bind (ρ a0 0) fun j6 =>
    Option.bind (MX8_changePrime σ j6 a2) fun c7 =>
    zr ((1 : Int32)) (some ((1 : Int32), c7))
  else
    if a1 = (1 : Int32) then
      Option.bind (ρ a0 0) fun j3 =>
      Option.bind (MX8_isMarked σ ρ j3 a2) fun c4 =>
      if c4 = 0 then
        Option.bind (ρ a0 0) fun j5 =>
        if (8 : Int32) ≤ (σ j5 1) then
          BX7_carryOut_46 ρ a0 a1 a2 σ
        else
          BX7_carryOut_47 ρ a0 a1 a2 σ ((1 : Int32))
      else
        BX7_carryOut_46 ρ a0 a1 a2 σ
    else
      if a1 = (3 : Int32) then
        Option.bind (ρ a0 3) fun j1 =>
        Option.bind (MX3_multiply σ j1) fun c2 =>
        BX7_carryOut_74 ρ a0 a1 a2 c2
      else
        BX7_carryOut_74 ρ a0 a1 a2 σ
def BX7_readLine_95 (ρ : Rho) (a0 : Nat) (a1 : Nat) (σ : Sto) (v2 : Int32) (v3 : Int32) (v4 : Int32) : Option (Int32 × Sto) :=
  Option.bind (MX7_advance σ ρ a0 a1) fun c1 =>
  if (c1 a0 6) = (4 : Int32) then
    Option.bind (MX7_carryOut c1 ρ a0 v3 v4) fun c2 =>
    if c2.1 = 0 then
      Option.bind (MX7_fail c2.2 a0 ((3 : Int32)) v2) fun c3 =>
      if c3.1 = 0 then
        zr ((0 : Int32)) (some ((0 : Int32), c3.2))
      else
        zr ((1 : Int32)) (some ((1 : Int32), c3.2))
    else
      zr ((1 : Int32)) (some ((1 : Int32), c2.2))
  else
    Option.bind (MX7_fail c1 a0 ((1 : Int32)) ((c1 a0 7))) fun c4 =>
    zr c4.1 (some (c4.1, c4.2))
def BX7_readLine_85 (ρ : Rho) (a0 : Nat) (a1 : Nat) (σ : Sto) (v2 : Int32) (v3 : Int32) (v4 : Int32) : Option (Int32 × Sto) :=
  Option.bind (MX7_readSix σ ρ a0 a1) fun c1 =>
  if c1.1 = 0 then
    zr ((0 : Int32)) (some ((0 : Int32), c1.2))
  else
    BX7_readLine_95 ρ a0 a1 c1.2 v2 v3 v4
def MX7_readLine (σ : Sto) (ρ : Rho) (a0 : Nat) (a1 : Nat) : Option (Int32 × Sto) :=
  bn ((σ a0 7)) fun y1 =>
  Option.bind (MX7_lineKind σ ρ a0 a1) fun c2 =>
  bn c2 fun y3 =>
  if y3 = (-1 : Int32) then
    Option.bind (MX7_fail σ a0 ((1 : Int32)) ((σ a0 7))) fun c9 =>
    zr c9.1 (some (c9.1, c9.2))
  else
    Option.bind (MX7_advance σ ρ a0 a1) fun c4 =>
    if (c4 a0 6) = (2 : Int32) then
      bn ((c4 a0 8)) fun y5 =>
      Option.bind (MX7_canBe c4 ρ a0 y3 y5) fun c6 =>
      if c6.1 = 0 then
        Option.bind (MX7_fail c6.2 a0 ((2 : Int32)) ((c6.2 a0 7))) fun c7 =>
        zr c7.1 (some (c7.1, c7.2))
      else
        if y3 = (2 : Int32) then
          BX7_readLine_85 ρ a0 a1 c6.2 y1 y3 y5
        else
          if y3 = (3 : Int32) then
            BX7_readLine_85 ρ a0 a1 c6.2 y1 y3 y5
          else
            BX7_readLine_95 ρ a0 a1 c6.2 y1 y3 y5
    else
      Option.bind (MX7_fail c4 a0 ((1 : Int32)) ((c4 a0 7))) fun c8 =>
      zr c8.1 (some (c8.1, c8.2))
def FX7_read_26 (ρ : Rho) (a0 : Nat) (a1 : Nat) (rec : Sto → Int32 → Int32 → Option (Int32 × Sto)) (σ : Sto) (v2 : Int32) (v3 : Int32) : Option (Int32 × Sto) :=
  if (500 : Int32) ≤ v3 then
    some (v2, σ)
  else
    Option.bind (MX7_advance σ ρ a0 a1) fun c1 =>
    if (c1 a0 6) = 0 then
      some (v2, c1)
    else
      Option.bind (MX7_readLine c1 ρ a0 a1) fun c2 =>
      if c2.1 = 0 then
        some ((-1 : Int32), c2.2)
      else
        bn (v2 + (1 : Int32)) fun y3 =>
        bn (v3 + (1 : Int32)) fun y4 =>
        rec c2.2 y3 y4
def MX7_read (σ : Sto) (ρ : Rho) (a0 : Nat) (a1 : Nat) : Option (Int32 × Sto) :=
  Option.bind (ρ a0 0) fun j1 =>
  Option.bind (MX8_clear σ ρ j1) fun c2 =>
  bn (su c2 a0 1 ((0 : Int32))) fun σ3 =>
  bn (su σ3 a0 2 ((-1 : Int32))) fun σ4 =>
  bn (su σ4 a0 5 ((0 : Int32))) fun σ5 =>
  bn ((0 : Int32)) fun y6 =>
  bn ((0 : Int32)) fun y7 =>
  fixN (fun _ _ _ => none) (FX7_read_26 ρ a0 a1) FU σ5 y6 y7
def BX8_dropMark_43 (ρ : Rho) (a0 : Nat) (a1 : Int32) (rec : Sto → Int32 → Int32 → Option (Sto)) (k49 : Sto → Int32 → Option (Sto)) (σ : Sto) (v2 : Int32) (v3 : Int32) : Option (Sto) :=
  bn (v3 + (1 : Int32)) fun y1 =>
  rec σ v2 y1
def BX8_dropMark_49 (ρ : Rho) (a0 : Nat) (a1 : Int32) (σ : Sto) (v2 : Int32) : Option (Sto) :=
  bn (su σ a0 1 v2) fun σ1 =>
  some σ1
def FX8_dropMark_4 (ρ : Rho) (a0 : Nat) (a1 : Int32) (k49 : Sto → Int32 → Option (Sto)) (rec : Sto → Int32 → Int32 → Option (Sto)) (σ : Sto) (v2 : Int32) (v3 : Int32) : Option (Sto) :=
  if (σ a0 1) ≤ v3 then
    k49 σ v2
  else
    if (8 : Int32) ≤ v3 then
      k49 σ v2
    else
      Option.bind (ρ a0 2) fun j1 =>
      Option.bind (ag σ j1 v3) fun x2 =>
      if x2 = a1 then
        BX8_dropMark_43 ρ a0 a1 rec k49 σ v2 v3
      else
        Option.bind (ρ a0 2) fun j3 =>
        Option.bind (ρ a0 2) fun j4 =>
        Option.bind (ag σ j4 v3) fun x5 =>
        Option.bind (ap σ j3 v2 x5) fun σ6 =>
        bn (v2 + (1 : Int32)) fun y7 =>
        BX8_dropMark_43 ρ a0 a1 rec k49 σ6 y7 v3
def MX8_dropMark (σ : Sto) (ρ : Rho) (a0 : Nat) (a1 : Int32) : Option (Sto) :=
  bn ((0 : Int32)) fun y1 =>
  bn ((0 : Int32)) fun y2 =>
  fixN (fun _ _ _ => none) (FX8_dropMark_4 ρ a0 a1 (BX8_dropMark_49 ρ a0 a1)) FU σ y1 y2
def BX9_addFour_47 (ρ : Rho) (a0 : Nat) (a1 : Int32) (rec : Sto → Int32 → Option (Sto)) (σ : Sto) (v2 : Int32) : Option (Sto) :=
  bn (v2 + (-8 : Int32)) fun y1 =>
  rec σ y1
def FX9_addFour_3 (ρ : Rho) (a0 : Nat) (a1 : Int32) (rec : Sto → Int32 → Option (Sto)) (σ : Sto) (v2 : Int32) : Option (Sto) :=
  if v2 < 0 then
    some σ
  else
    if (σ a0 1) < 0 then
      BX9_addFour_47 ρ a0 a1 rec σ v2
    else
      if (500 : Int32) ≤ (σ a0 1) then
        BX9_addFour_47 ρ a0 a1 rec σ v2
      else
        Option.bind (ρ a0 0) fun j1 =>
        Option.bind (ap σ j1 ((σ a0 1)) (((((a1.toUInt32 >>> (v2.toUInt32 &&& Int32.toUInt32 31)).toInt32)).toInt8.toInt32).toInt8.toInt32)) fun σ2 =>
        bn (su σ2 a0 1 (((σ2 a0 1) + (1 : Int32)))) fun σ3 =>
        BX9_addFour_47 ρ a0 a1 rec σ3 v2
def MX9_addFour (σ : Sto) (ρ : Rho) (a0 : Nat) (a1 : Int32) : Option (Sto) :=
  bn ((24 : Int32)) fun y1 =>
  fixN (fun _ _ => none) (FX9_addFour_3 ρ a0 a1) FU σ y1
def MX10_nth (σ : Sto) (a0 : Nat) (a1 : Int32) : Option (Int32) :=
  if a1 = 0 then
    some (σ a0 0)
  else
    if a1 = (1 : Int32) then
      some (σ a0 1)
    else
      some (σ a0 2)
def MX10_cross (σ : Sto) (a0 : Nat) (a1 : Nat) (a2 : Nat) : Option (Sto) :=
  Option.bind (MX10_fill σ a0 ((((σ a1 1) * (σ a2 2)) - ((σ a1 2) * (σ a2 1)))) ((((σ a1 2) * (σ a2 0)) - ((σ a1 0) * (σ a2 2)))) ((((σ a1 0) * (σ a2 1)) - ((σ a1 1) * (σ a2 0))))) fun c1 =>
  some c1
def MX10_isOn (σ : Sto) (a0 : Nat) (a1 : Nat) (a2 : Int32) : Option (Int32) :=
  Option.bind (MX2_rest (((((σ a0 0) * (σ a1 0)) + ((σ a0 1) * (σ a1 1))) + ((σ a0 2) * (σ a1 2)))) a2) fun c1 =>
  if c1 = 0 then
    zr ((1 : Int32)) (some (1 : Int32))
  else
    zr ((0 : Int32)) (some (0 : Int32))
def MX11_feed (σ : Sto) (ρ : Rho) (a0 : Nat) (a1 : Int32) (a2 : Int32) (a3 : Int32) (a4 : Int32) (a5 : Int32) : Option (Int32 × Sto) :=
  Option.bind (ρ a0 0) fun j1 =>
  Option.bind (ρ j1 1) fun j2 =>
  if (σ j2 1) ≤ (480 : Int32) then
    Option.bind (ρ a0 0) fun j3 =>
    Option.bind (ρ j3 1) fun j4 =>
    Option.bind (MX9_addFour σ ρ j4 a1) fun c5 =>
    Option.bind (ρ a0 0) fun j6 =>
    Option.bind (ρ j6 1) fun j7 =>
    Option.bind (MX9_addFour c5 ρ j7 a2) fun c8 =>
    Option.bind (ρ a0 0) fun j9 =>
    Option.bind (ρ j9 1) fun j10 =>
    Option.bind (MX9_addFour c8 ρ j10 a3) fun c11 =>
    Option.bind (ρ a0 0) fun j12 =>
    Option.bind (ρ j12 1) fun j13 =>
    Option.bind (MX9_addFour c11 ρ j13 a4) fun c14 =>
    Option.bind (ρ a0 0) fun j15 =>
    Option.bind (ρ j15 1) fun j16 =>
    Option.bind (MX9_addFour c14 ρ j16 a5) fun c17 =>
    Option.bind (ρ a0 0) fun j18 =>
    Option.bind (ρ j18 1) fun j19 =>
    some ((c17 j19 1), c17)
  else
    some ((-1 : Int32), σ)
def MX11_end (σ : Sto) (ρ : Rho) (a0 : Nat) (a1 : Int32) : Option (Int32 × Sto) :=
  if a1 < 0 then
    some ((-1 : Int32), σ)
  else
    Option.bind (ρ a0 0) fun j1 =>
    Option.bind (ρ j1 1) fun j2 =>
    if a1 ≤ (σ j2 1) then
      Option.bind (ρ a0 0) fun j3 =>
      Option.bind (ρ j3 1) fun j4 =>
      bn (su σ j4 1 a1) fun σ5 =>
      some (a1, σ5)
    else
      some ((-1 : Int32), σ)
def MX11_text (σ : Sto) (ρ : Rho) (a0 : Nat) : Option (Int32 × Sto) :=
  Option.bind (ρ a0 4) fun j1 =>
  Option.bind (ρ a0 0) fun j2 =>
  Option.bind (ρ j2 1) fun j3 =>
  Option.bind (MX7_read σ ρ j1 j3) fun c4 =>
  bn c4.1 fun y5 =>
  Option.bind (ρ a0 0) fun j6 =>
  Option.bind (ρ j6 1) fun j7 =>
  bn (su c4.2 j7 1 ((0 : Int32))) fun σ8 =>
  Option.bind (ρ a0 0) fun j9 =>
  Option.bind (ρ a0 4) fun j10 =>
  bn (su σ8 j9 2 ((σ8 j10 1))) fun σ11 =>
  Option.bind (ρ a0 0) fun j12 =>
  Option.bind (ρ a0 4) fun j13 =>
  bn (su σ11 j12 3 ((σ11 j13 2))) fun σ14 =>
  if y5 = (-1 : Int32) then
    some (y5, σ14)
  else
    Option.bind (ρ a0 0) fun j15 =>
    Option.bind (ρ j15 0) fun j16 =>
    Option.bind (ρ a0 4) fun j17 =>
    Option.bind (ρ j17 0) fun j18 =>
    Option.bind (MX8_copy σ14 ρ j16 j18) fun c19 =>
    Option.bind (ρ a0 1) fun j20 =>
    Option.bind (MX5_forget c19 j20) fun c21 =>
    some (y5, c21)
def MX11_fault (σ : Sto) (ρ : Rho) (a0 : Nat) (a1 : Int32) : Option (Int32) :=
  if a1 = 0 then
    Option.bind (ρ a0 0) fun j2 =>
    some (σ j2 2)
  else
    if a1 = (1 : Int32) then
      Option.bind (ρ a0 0) fun j1 =>
      some (σ j1 3)
    else
      some (-1 : Int32)
def MX11_refuse (σ : Sto) (ρ : Rho) (a0 : Nat) (a1 : Int32) (a2 : Int32) : Option (Int32 × Sto) :=
  Option.bind (ρ a0 0) fun j1 =>
  bn (su σ j1 4 a1) fun σ2 =>
  Option.bind (ρ a0 0) fun j3 =>
  bn (su σ2 j3 5 a2) fun σ4 =>
  some (a1, σ4)
def MX11_accept (σ : Sto) (ρ : Rho) (a0 : Nat) : Option (Int32 × Sto) :=
  Option.bind (ρ a0 0) fun j1 =>
  bn (su σ j1 4 ((0 : Int32))) fun σ2 =>
  Option.bind (ρ a0 0) fun j3 =>
  bn (su σ2 j3 5 ((0 : Int32))) fun σ4 =>
  some ((0 : Int32), σ4)
def MX11_prime (σ : Sto) (ρ : Rho) (a0 : Nat) (a1 : Int32) : Option (Int32 × Sto) :=
  Option.bind (MX11_isPrime a1) fun c1 =>
  if c1 = 0 then
    Option.bind (MX11_refuse σ ρ a0 ((1 : Int32)) ((0 : Int32))) fun c13 =>
    some (c13.1, c13.2)
  else
    Option.bind (ρ a0 0) fun j2 =>
    Option.bind (ρ j2 0) fun j3 =>
    if (σ j3 0) = a1 then
      Option.bind (MX11_refuse σ ρ a0 ((2 : Int32)) ((0 : Int32))) fun c12 =>
      some (c12.1, c12.2)
    else
      Option.bind (ρ a0 1) fun j4 =>
      Option.bind (ρ a0 0) fun j5 =>
      Option.bind (ρ j5 0) fun j6 =>
      Option.bind (MX5_keep σ ρ j4 j6) fun c7 =>
      Option.bind (ρ a0 0) fun j8 =>
      Option.bind (ρ j8 0) fun j9 =>
      Option.bind (MX8_changePrime c7 j9 a1) fun c10 =>
      Option.bind (MX11_accept c10 ρ a0) fun c11 =>
      some (c11.1, c11.2)
def MX11_isNumber (a0 : Int32) : Option (Int32) :=
  if a0 < 0 then
    zr ((0 : Int32)) (some (0 : Int32))
  else
    if (6 : Int32) ≤ a0 then
      zr ((0 : Int32)) (some (0 : Int32))
    else
      zr ((1 : Int32)) (some (1 : Int32))
def MX11_become (σ : Sto) (ρ : Rho) (a0 : Nat) (a1 : Int32) (a2 : Nat) : Option (Int32 × Sto) :=
  Option.bind (MX3_isZero σ a2) fun c1 =>
  if c1 = 0 then
    Option.bind (MX3_isWithinLimit σ a2) fun c2 =>
    if c2 = 0 then
      Option.bind (MX11_refuse σ ρ a0 ((4 : Int32)) ((0 : Int32))) fun c11 =>
      some (c11.1, c11.2)
    else
      Option.bind (ρ a0 1) fun j3 =>
      Option.bind (ρ a0 0) fun j4 =>
      Option.bind (ρ j4 0) fun j5 =>
      Option.bind (MX5_keep σ ρ j3 j5) fun c6 =>
      Option.bind (ρ a0 0) fun j7 =>
      Option.bind (ρ j7 0) fun j8 =>
      Option.bind (MX8_write c6 ρ j8 a1 a2) fun c9 =>
      Option.bind (MX11_accept c9 ρ a0) fun c10 =>
      some (c10.1, c10.2)
  else
    Option.bind (MX11_refuse σ ρ a0 ((3 : Int32)) ((0 : Int32))) fun c12 =>
    some (c12.1, c12.2)
def BX11_set_21 (ρ : Rho) (a0 : Nat) (a1 : Int32) (a2 : Int32) (a3 : Int32) (σ : Sto) : Option (Int32 × Sto) :=
  Option.bind (MX11_refuse σ ρ a0 ((1 : Int32)) ((0 : Int32))) fun c1 =>
  some (c1.1, c1.2)
def MX11_set (σ : Sto) (ρ : Rho) (a0 : Nat) (a1 : Int32) (a2 : Int32) (a3 : Int32) : Option (Int32 × Sto) :=
  Option.bind (MX11_isConic a1) fun c1 =>
  if c1 = 0 then
    BX11_set_21 ρ a0 a1 a2 a3 σ
  else
    Option.bind (MX11_isNumber a2) fun c2 =>
    if c2 = 0 then
      BX11_set_21 ρ a0 a1 a2 a3 σ
    else
      Option.bind (MX11_isBeyond a3) fun c3 =>
      if c3 = 0 then
        Option.bind (ρ a0 0) fun j4 =>
        Option.bind (ρ j4 0) fun j5 =>
        Option.bind (ρ a0 9) fun j6 =>
        Option.bind (MX8_read σ ρ j5 a1 j6) fun c7 =>
        Option.bind (ρ a0 9) fun j8 =>
        Option.bind (MX3_nth c7 j8 a2) fun c9 =>
        if c9 = a3 then
          Option.bind (MX11_refuse c7 ρ a0 ((2 : Int32)) ((0 : Int32))) fun c14 =>
          some (c14.1, c14.2)
        else
          Option.bind (ρ a0 9) fun j10 =>
          Option.bind (MX3_change c7 j10 a2 a3) fun c11 =>
          Option.bind (ρ a0 9) fun j12 =>
          Option.bind (MX11_become c11 ρ a0 a1 j12) fun c13 =>
          some (c13.1, c13.2)
      else
        BX11_set_21 ρ a0 a1 a2 a3 σ
def BX11_sum_37 (ρ : Rho) (a0 : Nat) (a1 : Int32) (a2 : Int32) (a3 : Int32) (a4 : Int32) (a5 : Int32) (σ : Sto) : Option (Int32 × Sto) :=
  Option.bind (MX11_refuse σ ρ a0 ((1 : Int32)) ((0 : Int32))) fun c1 =>
  some (c1.1, c1.2)
def MX11_sum (σ : Sto) (ρ : Rho) (a0 : Nat) (a1 : Int32) (a2 : Int32) (a3 : Int32) (a4 : Int32) (a5 : Int32) : Option (Int32 × Sto) :=
  Option.bind (MX11_isConic a1) fun c1 =>
  if c1 = 0 then
    BX11_sum_37 ρ a0 a1 a2 a3 a4 a5 σ
  else
    Option.bind (MX11_isConic a2) fun c2 =>
    if c2 = 0 then
      BX11_sum_37 ρ a0 a1 a2 a3 a4 a5 σ
    else
      Option.bind (MX11_isConic a4) fun c3 =>
      if c3 = 0 then
        BX11_sum_37 ρ a0 a1 a2 a3 a4 a5 σ
      else
        Option.bind (MX11_isBeyond a3) fun c4 =>
        if c4 = 0 then
          Option.bind (MX11_isBeyond a5) fun c5 =>
          if c5 = 0 then
            Option.bind (ρ a0 0) fun j6 =>
            Option.bind (ρ j6 0) fun j7 =>
            Option.bind (ρ a0 9) fun j8 =>
            Option.bind (MX8_read σ ρ j7 a2 j8) fun c9 =>
            Option.bind (ρ a0 0) fun j10 =>
            Option.bind (ρ j10 0) fun j11 =>
            Option.bind (ρ a0 10) fun j12 =>
            Option.bind (MX8_read c9 ρ j11 a4 j12) fun c13 =>
            Option.bind (ρ a0 9) fun j14 =>
            Option.bind (ρ a0 10) fun j15 =>
            Option.bind (MX3_blend c13 j14 a3 a5 j15) fun c16 =>
            Option.bind (ρ a0 9) fun j17 =>
            Option.bind (MX11_become c16 ρ a0 a1 j17) fun c18 =>
            some (c18.1, c18.2)
          else
            BX11_sum_37 ρ a0 a1 a2 a3 a4 a5 σ
        else
          BX11_sum_37 ρ a0 a1 a2 a3 a4 a5 σ
def BX11_turn_14 (ρ : Rho) (a0 : Nat) (a1 : Int32) (a2 : Int32) (σ : Sto) : Option (Int32 × Sto) :=
  Option.bind (MX11_refuse σ ρ a0 ((1 : Int32)) ((0 : Int32))) fun c1 =>
  some (c1.1, c1.2)
def MX11_turn (σ : Sto) (ρ : Rho) (a0 : Nat) (a1 : Int32) (a2 : Int32) : Option (Int32 × Sto) :=
  Option.bind (MX11_isConic a1) fun c1 =>
  if c1 = 0 then
    BX11_turn_14 ρ a0 a1 a2 σ
  else
    Option.bind (MX11_isConic a2) fun c2 =>
    if c2 = 0 then
      BX11_turn_14 ρ a0 a1 a2 σ
    else
      Option.bind (ρ a0 7) fun j3 =>
      Option.bind (ρ a0 0) fun j4 =>
      Option.bind (ρ j4 0) fun j5 =>
      Option.bind (MX0_take σ ρ j3 j5 a2) fun c6 =>
      Option.bind (ρ a0 7) fun j7 =>
      Option.bind (MX0_kind c6 ρ j7) fun c8 =>
      bn c8 fun y9 =>
      if y9 = (4 : Int32) then
        Option.bind (ρ a0 8) fun j10 =>
        Option.bind (ρ a0 7) fun j11 =>
        Option.bind (MX0_becomeDual c6 ρ j10 j11) fun c12 =>
        Option.bind (ρ a0 8) fun j13 =>
        Option.bind (ρ j13 0) fun j14 =>
        Option.bind (MX11_become c12 ρ a0 a1 j14) fun c15 =>
        some (c15.1, c15.2)
      else
        Option.bind (MX11_refuse c6 ρ a0 ((5 : Int32)) (((6 : Int32) + y9))) fun c16 =>
        some (c16.1, c16.2)
def BX11_twist_16 (ρ : Rho) (a0 : Nat) (a1 : Int32) (a2 : Int32) (σ : Sto) : Option (Int32 × Sto) :=
  Option.bind (MX11_refuse σ ρ a0 ((1 : Int32)) ((0 : Int32))) fun c1 =>
  some (c1.1, c1.2)
def MX11_twist (σ : Sto) (ρ : Rho) (a0 : Nat) (a1 : Int32) (a2 : Int32) : Option (Int32 × Sto) :=
  Option.bind (MX11_isConic a1) fun c1 =>
  if c1 = 0 then
    BX11_twist_16 ρ a0 a1 a2 σ
  else
    if a2 < 0 then
      BX11_twist_16 ρ a0 a1 a2 σ
    else
      if a2 ≤ (2 : Int32) then
        Option.bind (ρ a0 0) fun j2 =>
        Option.bind (ρ j2 0) fun j3 =>
        Option.bind (ρ a0 9) fun j4 =>
        Option.bind (MX8_read σ ρ j3 a1 j4) fun c5 =>
        Option.bind (ρ a0 10) fun j6 =>
        Option.bind (ρ a0 9) fun j7 =>
        Option.bind (MX3_copy c5 j6 j7) fun c8 =>
        Option.bind (ρ a0 9) fun j9 =>
        Option.bind (MX3_twisted c8 j9 a2) fun c10 =>
        Option.bind (ρ a0 9) fun j11 =>
        Option.bind (ρ a0 10) fun j12 =>
        Option.bind (MX3_isLike c10 j11 j12) fun c13 =>
        if c13 = 0 then
          Option.bind (ρ a0 9) fun j14 =>
          Option.bind (MX11_become c10 ρ a0 a1 j14) fun c15 =>
          some (c15.1, c15.2)
        else
          Option.bind (MX11_refuse c10 ρ a0 ((2 : Int32)) ((0 : Int32))) fun c16 =>
          some (c16.1, c16.2)
      else
        BX11_twist_16 ρ a0 a1 a2 σ
def BX11_through_60 (a0 : Nat) (a1 : Int32) (σ : Sto) (ρ : Rho) (t0 : Nat) (t1 : Int32) (t2 : Int32) : Option (Int32 × Sto × Rho) :=
  Option.bind (MX11_refuse σ ρ t0 t1 t2) fun c1 =>
  some (c1.1, c1.2, ρ)
def MX11_through (σ : Sto) (ρ : Rho) (a0 : Nat) (a1 : Int32) : Option (Int32 × Sto × Rho) :=
  Option.bind (MX11_isConic a1) fun c1 =>
  if c1 = 0 then
    Option.bind (MX11_refuse σ ρ a0 ((1 : Int32)) ((0 : Int32))) fun c13 =>
    some (c13.1, c13.2, ρ)
  else
    Option.bind (ρ a0 6) fun j2 =>
    Option.bind (ρ a0 0) fun j3 =>
    Option.bind (ρ j3 0) fun j4 =>
    Option.bind (MX1_gather σ ρ j2 j4) fun c5 =>
    Option.bind (c5.2 a0 6) fun j6 =>
    if (c5.1 j6 2) = (1 : Int32) then
      Option.bind (c5.2 a0 6) fun j7 =>
      Option.bind (c5.2 a0 9) fun j8 =>
      Option.bind (MX1_readOne c5.1 c5.2 j7 j8) fun c9 =>
      Option.bind (c5.2 a0 9) fun j10 =>
      Option.bind (MX11_become c9 c5.2 a0 a1 j10) fun c11 =>
      some (c11.1, c11.2, c5.2)
    else
      Option.bind (c5.2 a0 6) fun j12 =>
      if (c5.1 j12 2) ≤ (1 : Int32) then
        BX11_through_60 a0 a1 c5.1 c5.2 a0 ((10 : Int32)) ((12 : Int32))
      else
        BX11_through_60 a0 a1 c5.1 c5.2 a0 ((10 : Int32)) ((11 : Int32))
def BX11_mark_119 (ρ : Rho) (a0 : Nat) (a1 : Int32) (a2 : Int32) (σ : Sto) : Option (Int32 × Sto) :=
  Option.bind (MX11_accept σ ρ a0) fun c1 =>
  some (c1.1, c1.2)
def BX11_mark_76 (ρ : Rho) (a0 : Nat) (a1 : Int32) (a2 : Int32) (σ : Sto) : Option (Int32 × Sto) :=
  Option.bind (ρ a0 1) fun j1 =>
  Option.bind (ρ a0 0) fun j2 =>
  Option.bind (ρ j2 0) fun j3 =>
  Option.bind (MX5_keep σ ρ j1 j3) fun c4 =>
  if a2 = 0 then
    Option.bind (ρ a0 0) fun j5 =>
    Option.bind (ρ j5 0) fun j6 =>
    Option.bind (MX8_addMark c4 ρ j6 a1) fun c7 =>
    BX11_mark_119 ρ a0 a1 a2 c7
  else
    Option.bind (ρ a0 0) fun j8 =>
    Option.bind (ρ j8 0) fun j9 =>
    Option.bind (MX8_dropMark c4 ρ j9 a1) fun c10 =>
    BX11_mark_119 ρ a0 a1 a2 c10
def MX11_mark (σ : Sto) (ρ : Rho) (a0 : Nat) (a1 : Int32) (a2 : Int32) : Option (Int32 × Sto) :=
  Option.bind (ρ a0 11) fun j1 =>
  Option.bind (ρ a0 0) fun j2 =>
  Option.bind (ρ j2 0) fun j3 =>
  Option.bind (MX10_take σ j1 a1 ((σ j3 0))) fun c4 =>
  if c4.1 = 0 then
    Option.bind (MX11_refuse c4.2 ρ a0 ((1 : Int32)) ((0 : Int32))) fun c12 =>
    some (c12.1, c12.2)
  else
    Option.bind (ρ a0 0) fun j5 =>
    Option.bind (ρ j5 0) fun j6 =>
    Option.bind (MX8_isMarked c4.2 ρ j6 a1) fun c7 =>
    if c7 = a2 then
      if a2 = 0 then
        Option.bind (ρ a0 0) fun j8 =>
        Option.bind (ρ j8 0) fun j9 =>
        if (c4.2 j9 1) < (8 : Int32) then
          BX11_mark_76 ρ a0 a1 a2 c4.2
        else
          Option.bind (MX11_refuse c4.2 ρ a0 ((3 : Int32)) ((0 : Int32))) fun c10 =>
          some (c10.1, c10.2)
      else
        BX11_mark_76 ρ a0 a1 a2 c4.2
    else
      Option.bind (MX11_refuse c4.2 ρ a0 ((2 : Int32)) ((0 : Int32))) fun c11 =>
      some (c11.1, c11.2)
def MX11_why (σ : Sto) (ρ : Rho) (a0 : Nat) (a1 : Int32) : Option (Int32) :=
  if a1 = 0 then
    Option.bind (ρ a0 0) fun j2 =>
    some (σ j2 4)
  else
    if a1 = (1 : Int32) then
      Option.bind (ρ a0 0) fun j1 =>
      some (σ j1 5)
    else
      some (-1 : Int32)
def MX11_undo (σ : Sto) (ρ : Rho) (a0 : Nat) : Option (Int32 × Sto) :=
  Option.bind (ρ a0 1) fun j1 =>
  Option.bind (ρ a0 0) fun j2 =>
  Option.bind (ρ j2 0) fun j3 =>
  Option.bind (MX5_giveBack σ ρ j1 j3) fun c4 =>
  if c4.1 = 0 then
    some ((-1 : Int32), c4.2)
  else
    Option.bind (ρ a0 1) fun j5 =>
    some ((c4.2 j5 2), c4.2)
def BX11_properConics_39 (ρ : Rho) (a0 : Nat) (rec : Sto → Int32 → Int32 → Option (Int32 × Sto)) (σ : Sto) (v1 : Int32) (v2 : Int32) : Option (Int32 × Sto) :=
  bn (v2 + (1 : Int32)) fun y1 =>
  rec σ v1 y1
def FX11_properConics_4 (ρ : Rho) (a0 : Nat) (rec : Sto → Int32 → Int32 → Option (Int32 × Sto)) (σ : Sto) (v1 : Int32) (v2 : Int32) : Option (Int32 × Sto) :=
  if (6 : Int32) ≤ v2 then
    some (v1, σ)
  else
    Option.bind (ρ a0 7) fun j1 =>
    Option.bind (ρ a0 0) fun j2 =>
    Option.bind (ρ j2 0) fun j3 =>
    Option.bind (MX0_take σ ρ j1 j3 v2) fun c4 =>
    Option.bind (ρ a0 7) fun j5 =>
    Option.bind (MX0_kind c4 ρ j5) fun c6 =>
    if c6 = (4 : Int32) then
      bn (v1 + (1 : Int32)) fun y7 =>
      BX11_properConics_39 ρ a0 rec c4 y7 v2
    else
      BX11_properConics_39 ρ a0 rec c4 v1 v2
def MX11_properConics (σ : Sto) (ρ : Rho) (a0 : Nat) : Option (Int32 × Sto) :=
  bn ((0 : Int32)) fun y1 =>
  bn ((0 : Int32)) fun y2 =>
  fixN (fun _ _ _ => none) (FX11_properConics_4 ρ a0) FU σ y1 y2
def BX11_isInLine_166 (ρ : Rho) (a0 : Nat) (a1 : Int32) (rec : Sto → Int32 → Int32 → Option (Int32 × Sto)) (σ : Sto) (v2 : Int32) (v3 : Int32) : Option (Int32 × Sto) :=
  bn (v3 + (1 : Int32)) fun y1 =>
  rec σ v2 y1
def BX11_isInLine_160 (ρ : Rho) (a0 : Nat) (a1 : Int32) (rec : Sto → Int32 → Int32 → Int32 → Option (Int32 × Sto)) (k166 : Sto → Int32 → Int32 → Option (Int32 × Sto)) (σ : Sto) (v2 : Int32) (v3 : Int32) (v4 : Int32) : Option (Int32 × Sto) :=
  bn (v4 + (1 : Int32)) fun y1 =>
  rec σ v2 v3 y1
def FX11_isInLine_99 (ρ : Rho) (a0 : Nat) (a1 : Int32) (k166 : Sto → Int32 → Int32 → Option (Int32 × Sto)) (rec : Sto → Int32 → Int32 → Int32 → Option (Int32 × Sto)) (σ : Sto) (v2 : Int32) (v3 : Int32) (v4 : Int32) : Option (Int32 × Sto) :=
  Option.bind (ρ a0 0) fun j1 =>
  Option.bind (ρ j1 0) fun j2 =>
  if (σ j2 1) ≤ v4 then
    k166 σ v2 v3
  else
    if v4 = a1 then
      BX11_isInLine_160 ρ a0 a1 rec k166 σ v2 v3 v4
    else
      Option.bind (ρ a0 12) fun j3 =>
      Option.bind (ρ a0 0) fun j4 =>
      Option.bind (ρ j4 0) fun j5 =>
      Option.bind (MX8_markAt σ ρ j5 v4) fun c6 =>
      Option.bind (MX10_take σ j3 c6 v2) fun c7 =>
      if c7.1 = 0 then
        BX11_isInLine_160 ρ a0 a1 rec k166 c7.2 v2 v3 v4
      else
        Option.bind (ρ a0 13) fun j8 =>
        Option.bind (ρ a0 12) fun j9 =>
        Option.bind (MX10_isOn c7.2 j8 j9 v2) fun c10 =>
        if c10 = 0 then
          BX11_isInLine_160 ρ a0 a1 rec k166 c7.2 v2 v3 v4
        else
          zr ((1 : Int32)) (some ((1 : Int32), c7.2))
def FX11_isInLine_13 (ρ : Rho) (a0 : Nat) (a1 : Int32) (rec : Sto → Int32 → Int32 → Option (Int32 × Sto)) (σ : Sto) (v2 : Int32) (v3 : Int32) : Option (Int32 × Sto) :=
  Option.bind (ρ a0 0) fun j1 =>
  Option.bind (ρ j1 0) fun j2 =>
  if (σ j2 1) ≤ v3 then
    zr ((0 : Int32)) (some ((0 : Int32), σ))
  else
    if v3 = a1 then
      BX11_isInLine_166 ρ a0 a1 rec σ v2 v3
    else
      Option.bind (ρ a0 11) fun j3 =>
      Option.bind (ρ a0 0) fun j4 =>
      Option.bind (ρ j4 0) fun j5 =>
      Option.bind (MX8_markAt σ ρ j5 a1) fun c6 =>
      Option.bind (MX10_take σ j3 c6 v2) fun c7 =>
      if c7.1 = 0 then
        BX11_isInLine_166 ρ a0 a1 rec c7.2 v2 v3
      else
        Option.bind (ρ a0 12) fun j8 =>
        Option.bind (ρ a0 0) fun j9 =>
        Option.bind (ρ j9 0) fun j10 =>
        Option.bind (MX8_markAt c7.2 ρ j10 v3) fun c11 =>
        Option.bind (MX10_take c7.2 j8 c11 v2) fun c12 =>
        if c12.1 = 0 then
          BX11_isInLine_166 ρ a0 a1 rec c12.2 v2 v3
        else
          Option.bind (ρ a0 13) fun j13 =>
          Option.bind (ρ a0 11) fun j14 =>
          Option.bind (ρ a0 12) fun j15 =>
          Option.bind (MX10_cross c12.2 j13 j14 j15) fun c16 =>
          bn ((v3 + (1 : Int32))) fun y17 =>
          fixN (fun _ _ _ _ => none) (FX11_isInLine_99 ρ a0 a1 (BX11_isInLine_166 ρ a0 a1 rec)) FU c16 v2 v3 y17
def MX11_isInLine (σ : Sto) (ρ : Rho) (a0 : Nat) (a1 : Int32) : Option (Int32 × Sto) :=
  Option.bind (ρ a0 0) fun j1 =>
  Option.bind (ρ j1 0) fun j2 =>
  bn ((σ j2 0)) fun y3 =>
  bn ((0 : Int32)) fun y4 =>
  fixN (fun _ _ _ => none) (FX11_isInLine_13 ρ a0 a1) FU σ y3 y4
def BX11_marksInLine_29 (ρ : Rho) (a0 : Nat) (rec : Sto → Int32 → Int32 → Option (Int32 × Sto)) (σ : Sto) (v1 : Int32) (v2 : Int32) : Option (Int32 × Sto) :=
  bn (v2 + (1 : Int32)) fun y1 =>
  rec σ v1 y1
def FX11_marksInLine_4 (ρ : Rho) (a0 : Nat) (rec : Sto → Int32 → Int32 → Option (Int32 × Sto)) (σ : Sto) (v1 : Int32) (v2 : Int32) : Option (Int32 × Sto) :=
  Option.bind (ρ a0 0) fun j1 =>
  Option.bind (ρ j1 0) fun j2 =>
  if (σ j2 1) ≤ v2 then
    some (v1, σ)
  else
    Option.bind (MX11_isInLine σ ρ a0 v2) fun c3 =>
    if c3.1 = 0 then
      BX11_marksInLine_29 ρ a0 rec c3.2 v1 v2
    else
      bn (v1 + (1 : Int32)) fun y4 =>
      BX11_marksInLine_29 ρ a0 rec c3.2 y4 v2
def MX11_marksInLine (σ : Sto) (ρ : Rho) (a0 : Nat) : Option (Int32 × Sto) :=
  bn ((0 : Int32)) fun y1 =>
  bn ((0 : Int32)) fun y2 =>
  fixN (fun _ _ _ => none) (FX11_marksInLine_4 ρ a0) FU σ y1 y2
def MX11_count (σ : Sto) (ρ : Rho) (a0 : Nat) (a1 : Int32) : Option (Int32 × Sto × Rho) :=
  if a1 = (0 : Int32) then
    Option.bind (ρ a0 0) fun j1 =>
    Option.bind (ρ j1 0) fun j2 =>
    some ((σ j2 0), σ, ρ)
  else
  if a1 = (1 : Int32) then
    Option.bind (ρ a0 0) fun j3 =>
    Option.bind (ρ j3 0) fun j4 =>
    Option.bind (MX2_points ((σ j4 0))) fun c5 =>
    some (c5, σ, ρ)
  else
  if a1 = (2 : Int32) then
    Option.bind (ρ a0 0) fun j6 =>
    Option.bind (ρ j6 0) fun j7 =>
    some ((σ j7 1), σ, ρ)
  else
  if a1 = (3 : Int32) then
    Option.bind (ρ a0 6) fun j8 =>
    Option.bind (ρ a0 0) fun j9 =>
    Option.bind (ρ j9 0) fun j10 =>
    Option.bind (MX1_gather σ ρ j8 j10) fun c11 =>
    Option.bind (c11.2 a0 6) fun j12 =>
    some ((c11.1 j12 2), c11.1, c11.2)
  else
  if a1 = (4 : Int32) then
    Option.bind (ρ a0 1) fun j13 =>
    some ((σ j13 2), σ, ρ)
  else
  if a1 = (5 : Int32) then
    Option.bind (ρ a0 0) fun j14 =>
    Option.bind (ρ j14 1) fun j15 =>
    some ((σ j15 1), σ, ρ)
  else
  if a1 = (6 : Int32) then
    Option.bind (MX11_properConics σ ρ a0) fun c16 =>
    some (c16.1, c16.2, ρ)
  else
  if a1 = (7 : Int32) then
    Option.bind (MX11_marksInLine σ ρ a0) fun c17 =>
    some (c17.1, c17.2, ρ)
  else
  some ((-1 : Int32), σ, ρ)
def MX11_overFractionsOrKind (σ : Sto) (ρ : Rho) (a0 : Nat) (a1 : Int32) : Option (Int32) :=
  if a1 = (0 : Int32) then
    Option.bind (ρ a0 9) fun j1 =>
    Option.bind (MX3_sort σ j1) fun c2 =>
    some c2
  else
  if a1 = (1 : Int32) then
    Option.bind (ρ a0 7) fun j3 =>
    Option.bind (MX0_kind σ ρ j3) fun c4 =>
    some c4
  else
  if a1 = (2 : Int32) then
    Option.bind (ρ a0 7) fun j5 =>
    Option.bind (MX0_rank σ ρ j5) fun c6 =>
    some c6
  else
  if a1 = (3 : Int32) then
    Option.bind (ρ a0 9) fun j7 =>
    Option.bind (MX3_d σ j7) fun c8 =>
    some c8
  else
  if a1 = (4 : Int32) then
    Option.bind (ρ a0 9) fun j9 =>
    Option.bind (MX3_e σ j9) fun c10 =>
    some c10
  else
  if a1 = (5 : Int32) then
    Option.bind (ρ a0 9) fun j11 =>
    Option.bind (MX3_i σ j11) fun c12 =>
    some c12
  else
  some (-2000000000 : Int32)
def BX11_overField_27 (σ : Sto) (ρ : Rho) (a0 : Nat) (a1 : Int32) (v2 : Int32) (t0 : Int32) : Option (Int32) :=
  bn t0 fun y1 =>
  if a1 = (6 : Int32) then
    Option.bind (ρ a0 7) fun j2 =>
    Option.bind (MX0_points σ ρ j2) fun c3 =>
    some c3
  else
  if a1 = (7 : Int32) then
    Option.bind (ρ a0 7) fun j4 =>
    Option.bind (MX0_lines σ ρ j4) fun c5 =>
    some c5
  else
  if a1 = (8 : Int32) then
    if y1 = 0 then
      some (-1 : Int32)
    else
      Option.bind (dvi ((v2 * (v2 + (1 : Int32)))) ((2 : Int32))) fun z6 =>
      some z6
  else
  if a1 = (9 : Int32) then
    if y1 = 0 then
      some (-1 : Int32)
    else
      Option.bind (dvi ((v2 * (v2 - (1 : Int32)))) ((2 : Int32))) fun z7 =>
      some z7
  else
  some (-2000000000 : Int32)
def MX11_overField (σ : Sto) (ρ : Rho) (a0 : Nat) (a1 : Int32) : Option (Int32) :=
  Option.bind (ρ a0 0) fun j1 =>
  Option.bind (ρ j1 0) fun j2 =>
  bn ((σ j2 0)) fun y3 =>
  Option.bind (ρ a0 7) fun j4 =>
  Option.bind (MX0_kind σ ρ j4) fun c5 =>
  if c5 = (4 : Int32) then
    BX11_overField_27 σ ρ a0 a1 y3 ((1 : Int32))
  else
    BX11_overField_27 σ ρ a0 a1 y3 ((0 : Int32))
def BX11_conic_99 (ρ : Rho) (a0 : Nat) (a1 : Int32) (a2 : Int32) (σ : Sto) : Option (Int32 × Sto) :=
  if (6 : Int32) ≤ a2 then
    Option.bind (MX11_overField σ ρ a0 a2) fun c1 =>
    some (c1, σ)
  else
    Option.bind (MX11_overFractionsOrKind σ ρ a0 a2) fun c2 =>
    some (c2, σ)
def BX11_conic_68 (ρ : Rho) (a0 : Nat) (a1 : Int32) (a2 : Int32) (σ : Sto) : Option (Int32 × Sto) :=
  if a2 < (20 : Int32) then
    BX11_conic_99 ρ a0 a1 a2 σ
  else
    Option.bind (MX11_isNumber ((a2 - (20 : Int32)))) fun c1 =>
    if c1 = 0 then
      BX11_conic_99 ρ a0 a1 a2 σ
    else
      Option.bind (ρ a0 7) fun j2 =>
      Option.bind (ρ j2 0) fun j3 =>
      Option.bind (MX3_nth σ j3 ((a2 - (20 : Int32)))) fun c4 =>
      some (c4, σ)
def MX11_conic (σ : Sto) (ρ : Rho) (a0 : Nat) (a1 : Int32) (a2 : Int32) : Option (Int32 × Sto) :=
  Option.bind (MX11_isConic a1) fun c1 =>
  if c1 = 0 then
    some ((-2000000000 : Int32), σ)
  else
    Option.bind (ρ a0 0) fun j2 =>
    Option.bind (ρ j2 0) fun j3 =>
    Option.bind (ρ a0 9) fun j4 =>
    Option.bind (MX8_read σ ρ j3 a1 j4) fun c5 =>
    Option.bind (ρ a0 7) fun j6 =>
    Option.bind (ρ a0 0) fun j7 =>
    Option.bind (ρ j7 0) fun j8 =>
    Option.bind (MX0_take c5 ρ j6 j8 a1) fun c9 =>
    if a2 < (10 : Int32) then
      BX11_conic_68 ρ a0 a1 a2 c9
    else
      Option.bind (MX11_isNumber ((a2 - (10 : Int32)))) fun c10 =>
      if c10 = 0 then
        BX11_conic_68 ρ a0 a1 a2 c9
      else
        Option.bind (ρ a0 9) fun j11 =>
        Option.bind (MX3_nth c9 j11 ((a2 - (10 : Int32)))) fun c12 =>
        some (c12, c9)
def MX11_place (σ : Sto) (ρ : Rho) (a0 : Nat) (a1 : Int32) (a2 : Int32) : Option (Int32 × Sto) :=
  if a2 < 0 then
    some ((-1 : Int32), σ)
  else
    if (2 : Int32) < a2 then
      some ((-1 : Int32), σ)
    else
      Option.bind (ρ a0 11) fun j1 =>
      Option.bind (ρ a0 0) fun j2 =>
      Option.bind (ρ j2 0) fun j3 =>
      Option.bind (MX10_take σ j1 a1 ((σ j3 0))) fun c4 =>
      if c4.1 = 0 then
        some ((-1 : Int32), c4.2)
      else
        Option.bind (ρ a0 11) fun j5 =>
        Option.bind (MX10_nth c4.2 j5 a2) fun c6 =>
        some (c6, c4.2)
def MX11_number (σ : Sto) (ρ : Rho) (a0 : Nat) (a1 : Int32) (a2 : Int32) (a3 : Int32) : Option (Int32 × Sto) :=
  Option.bind (ρ a0 11) fun j1 =>
  Option.bind (MX10_fill σ j1 a1 a2 a3) fun c2 =>
  Option.bind (ρ a0 11) fun j3 =>
  Option.bind (ρ a0 0) fun j4 =>
  Option.bind (ρ j4 0) fun j5 =>
  Option.bind (MX10_numbered c2 j3 ((c2 j5 0))) fun c6 =>
  some (c6, c2)
def MX11_joined (σ : Sto) (ρ : Rho) (a0 : Nat) (a1 : Int32) (a2 : Int32) : Option (Int32 × Sto) :=
  Option.bind (ρ a0 0) fun j1 =>
  Option.bind (ρ j1 0) fun j2 =>
  bn ((σ j2 0)) fun y3 =>
  Option.bind (ρ a0 11) fun j4 =>
  Option.bind (MX10_take σ j4 a1 y3) fun c5 =>
  if c5.1 = 0 then
    some ((-1 : Int32), c5.2)
  else
    Option.bind (ρ a0 12) fun j6 =>
    Option.bind (MX10_take c5.2 j6 a2 y3) fun c7 =>
    if c7.1 = 0 then
      some ((-1 : Int32), c7.2)
    else
      Option.bind (ρ a0 13) fun j8 =>
      Option.bind (ρ a0 11) fun j9 =>
      Option.bind (ρ a0 12) fun j10 =>
      Option.bind (MX10_cross c7.2 j8 j9 j10) fun c11 =>
      Option.bind (ρ a0 13) fun j12 =>
      Option.bind (MX10_numbered c11 j12 y3) fun c13 =>
      some (c13, c11)
def MX11_marked (σ : Sto) (ρ : Rho) (a0 : Nat) (a1 : Int32) : Option (Int32) :=
  Option.bind (ρ a0 0) fun j1 =>
  Option.bind (ρ j1 0) fun j2 =>
  Option.bind (MX8_markAt σ ρ j2 a1) fun c3 =>
  some c3
def MX11_takeBoth (σ : Sto) (ρ : Rho) (a0 : Nat) (a1 : Int32) (a2 : Int32) : Option (Int32 × Sto) :=
  Option.bind (MX11_isConic a1) fun c1 =>
  if c1 = 0 then
    zr ((0 : Int32)) (some ((0 : Int32), σ))
  else
    Option.bind (ρ a0 11) fun j2 =>
    Option.bind (ρ a0 0) fun j3 =>
    Option.bind (ρ j3 0) fun j4 =>
    Option.bind (MX10_take σ j2 a2 ((σ j4 0))) fun c5 =>
    if c5.1 = 0 then
      zr ((0 : Int32)) (some ((0 : Int32), c5.2))
    else
      Option.bind (ρ a0 7) fun j6 =>
      Option.bind (ρ a0 0) fun j7 =>
      Option.bind (ρ j7 0) fun j8 =>
      Option.bind (MX0_take c5.2 ρ j6 j8 a1) fun c9 =>
      zr ((1 : Int32)) (some ((1 : Int32), c9))
def MX11_tangentsThroughSpot (σ : Sto) (ρ : Rho) (a0 : Nat) : Option (Int32 × Sto) :=
  Option.bind (ρ a0 0) fun j1 =>
  Option.bind (ρ j1 0) fun j2 =>
  bn ((σ j2 0)) fun y3 =>
  Option.bind (ρ a0 7) fun j4 =>
  Option.bind (ρ a0 11) fun j5 =>
  Option.bind (ρ a0 13) fun j6 =>
  Option.bind (MX0_polarOf σ ρ j4 j5 j6) fun c7 =>
  Option.bind (ρ a0 13) fun j8 =>
  Option.bind (ρ a0 13) fun j9 =>
  Option.bind (MX10_numbered c7 j9 y3) fun c10 =>
  Option.bind (MX10_take c7 j8 c10 y3) fun c11 =>
  if c11.1 = 0 then
    some ((0 : Int32), c11.2)
  else
    Option.bind (ρ a0 7) fun j12 =>
    Option.bind (ρ a0 13) fun j13 =>
    Option.bind (MX0_crossings c11.2 ρ j12 j13) fun c14 =>
    some (c14, c11.2)
def MX11_lies (σ : Sto) (ρ : Rho) (a0 : Nat) (a1 : Int32) (a2 : Int32) : Option (Int32 × Sto) :=
  Option.bind (MX11_takeBoth σ ρ a0 a1 a2) fun c1 =>
  if c1.1 = 0 then
    some ((-1 : Int32), c1.2)
  else
    Option.bind (ρ a0 7) fun j2 =>
    Option.bind (ρ a0 11) fun j3 =>
    Option.bind (MX0_valueAt c1.2 ρ j2 j3) fun c4 =>
    if c4 = 0 then
      some ((0 : Int32), c1.2)
    else
      Option.bind (ρ a0 7) fun j5 =>
      Option.bind (MX0_kind c1.2 ρ j5) fun c6 =>
      if c6 = (4 : Int32) then
        Option.bind (MX11_tangentsThroughSpot c1.2 ρ a0) fun c7 =>
        if c7.1 ≤ 0 then
          some ((2 : Int32), c7.2)
        else
          some ((1 : Int32), c7.2)
      else
        some ((3 : Int32), c1.2)
def BX11_nthLineOn_76 (ρ : Rho) (a0 : Nat) (a1 : Int32) (rec : Sto → Int32 → Int32 → Int32 → Option (Int32 × Sto)) (σ : Sto) (v2 : Int32) (v3 : Int32) (v4 : Int32) : Option (Int32 × Sto) :=
  bn (v4 + (1 : Int32)) fun y1 =>
  rec σ v2 v3 y1
def FX11_nthLineOn_29 (ρ : Rho) (a0 : Nat) (a1 : Int32) (rec : Sto → Int32 → Int32 → Int32 → Option (Int32 × Sto)) (σ : Sto) (v2 : Int32) (v3 : Int32) (v4 : Int32) : Option (Int32 × Sto) :=
  Option.bind (MX2_points v2) fun c1 =>
  if c1 ≤ v4 then
    some ((-1 : Int32), σ)
  else
    Option.bind (ρ a0 11) fun j2 =>
    Option.bind (MX10_take σ j2 v4 v2) fun c3 =>
    if c3.1 = 0 then
      BX11_nthLineOn_76 ρ a0 a1 rec c3.2 v2 v3 v4
    else
      Option.bind (ρ a0 7) fun j4 =>
      Option.bind (ρ a0 11) fun j5 =>
      Option.bind (MX0_crossings c3.2 ρ j4 j5) fun c6 =>
      if c6 ≤ (2 : Int32) then
        BX11_nthLineOn_76 ρ a0 a1 rec c3.2 v2 v3 v4
      else
        if v3 = 0 then
          some (v4, c3.2)
        else
          bn (v3 + (-1 : Int32)) fun y7 =>
          BX11_nthLineOn_76 ρ a0 a1 rec c3.2 v2 y7 v4
def MX11_nthLineOn (σ : Sto) (ρ : Rho) (a0 : Nat) (a1 : Int32) : Option (Int32 × Sto) :=
  Option.bind (ρ a0 0) fun j1 =>
  Option.bind (ρ j1 0) fun j2 =>
  bn ((σ j2 0)) fun y3 =>
  bn a1 fun y4 =>
  Option.bind (ρ a0 7) fun j5 =>
  Option.bind (MX0_lines σ ρ j5) fun c6 =>
  if a1 < c6 then
    bn ((0 : Int32)) fun y7 =>
    fixN (fun _ _ _ _ => none) (FX11_nthLineOn_29 ρ a0 a1) FU σ y3 y4 y7
  else
    some ((-1 : Int32), σ)
def BX11_nthPointOn_62 (ρ : Rho) (a0 : Nat) (a1 : Int32) (rec : Sto → Int32 → Int32 → Int32 → Option (Int32 × Sto)) (σ : Sto) (v2 : Int32) (v3 : Int32) (v4 : Int32) : Option (Int32 × Sto) :=
  bn (v4 + (1 : Int32)) fun y1 =>
  rec σ v2 v3 y1
def FX11_nthPointOn_16 (ρ : Rho) (a0 : Nat) (a1 : Int32) (rec : Sto → Int32 → Int32 → Int32 → Option (Int32 × Sto)) (σ : Sto) (v2 : Int32) (v3 : Int32) (v4 : Int32) : Option (Int32 × Sto) :=
  Option.bind (MX2_points v2) fun c1 =>
  if c1 ≤ v4 then
    some ((-1 : Int32), σ)
  else
    Option.bind (ρ a0 11) fun j2 =>
    Option.bind (MX10_take σ j2 v4 v2) fun c3 =>
    if c3.1 = 0 then
      BX11_nthPointOn_62 ρ a0 a1 rec c3.2 v2 v3 v4
    else
      Option.bind (ρ a0 7) fun j4 =>
      Option.bind (ρ a0 11) fun j5 =>
      Option.bind (MX0_valueAt c3.2 ρ j4 j5) fun c6 =>
      if c6 = 0 then
        if v3 = 0 then
          some (v4, c3.2)
        else
          bn (v3 + (-1 : Int32)) fun y7 =>
          BX11_nthPointOn_62 ρ a0 a1 rec c3.2 v2 y7 v4
      else
        BX11_nthPointOn_62 ρ a0 a1 rec c3.2 v2 v3 v4
def MX11_nthPointOn (σ : Sto) (ρ : Rho) (a0 : Nat) (a1 : Int32) : Option (Int32 × Sto) :=
  Option.bind (ρ a0 0) fun j1 =>
  Option.bind (ρ j1 0) fun j2 =>
  bn ((σ j2 0)) fun y3 =>
  bn a1 fun y4 =>
  bn ((0 : Int32)) fun y5 =>
  fixN (fun _ _ _ _ => none) (FX11_nthPointOn_16 ρ a0 a1) FU σ y3 y4 y5
def MX11_on (σ : Sto) (ρ : Rho) (a0 : Nat) (a1 : Int32) (a2 : Int32) (a3 : Int32) : Option (Int32 × Sto) :=
  Option.bind (MX11_isConic a1) fun c1 =>
  if c1 = 0 then
    some ((-1 : Int32), σ)
  else
    if 0 ≤ a2 then
      Option.bind (ρ a0 7) fun j2 =>
      Option.bind (ρ a0 0) fun j3 =>
      Option.bind (ρ j3 0) fun j4 =>
      Option.bind (MX0_take σ ρ j2 j4 a1) fun c5 =>
      if a3 = 0 then
        Option.bind (MX11_nthPointOn c5 ρ a0 a2) fun c6 =>
        some (c6.1, c6.2)
      else
        Option.bind (MX11_nthLineOn c5 ρ a0 a2) fun c7 =>
        some (c7.1, c7.2)
    else
      some ((-1 : Int32), σ)
def MX11_polar (σ : Sto) (ρ : Rho) (a0 : Nat) (a1 : Int32) (a2 : Int32) : Option (Int32 × Sto) :=
  Option.bind (MX11_takeBoth σ ρ a0 a1 a2) fun c1 =>
  if c1.1 = 0 then
    some ((-1 : Int32), c1.2)
  else
    Option.bind (ρ a0 7) fun j2 =>
    Option.bind (ρ a0 11) fun j3 =>
    Option.bind (ρ a0 13) fun j4 =>
    Option.bind (MX0_polarOf c1.2 ρ j2 j3 j4) fun c5 =>
    Option.bind (ρ a0 13) fun j6 =>
    Option.bind (ρ a0 0) fun j7 =>
    Option.bind (ρ j7 0) fun j8 =>
    Option.bind (MX10_numbered c5 j6 ((c5 j8 0))) fun c9 =>
    some (c9, c5)
def MX11_pole (σ : Sto) (ρ : Rho) (a0 : Nat) (a1 : Int32) (a2 : Int32) : Option (Int32 × Sto) :=
  Option.bind (MX11_takeBoth σ ρ a0 a1 a2) fun c1 =>
  if c1.1 = 0 then
    some ((-1 : Int32), c1.2)
  else
    Option.bind (ρ a0 7) fun j2 =>
    Option.bind (MX0_kind c1.2 ρ j2) fun c3 =>
    if c3 = (4 : Int32) then
      Option.bind (ρ a0 8) fun j4 =>
      Option.bind (ρ a0 7) fun j5 =>
      Option.bind (MX0_becomeDual c1.2 ρ j4 j5) fun c6 =>
      Option.bind (ρ a0 8) fun j7 =>
      Option.bind (ρ a0 11) fun j8 =>
      Option.bind (ρ a0 12) fun j9 =>
      Option.bind (MX0_polarOf c6 ρ j7 j8 j9) fun c10 =>
      Option.bind (ρ a0 12) fun j11 =>
      Option.bind (ρ a0 0) fun j12 =>
      Option.bind (ρ j12 0) fun j13 =>
      Option.bind (MX10_numbered c10 j11 ((c10 j13 0))) fun c14 =>
      some (c14, c10)
    else
      some ((-1 : Int32), c1.2)
def MX11_meets (σ : Sto) (ρ : Rho) (a0 : Nat) (a1 : Int32) (a2 : Int32) : Option (Int32 × Sto) :=
  Option.bind (MX11_takeBoth σ ρ a0 a1 a2) fun c1 =>
  if c1.1 = 0 then
    some ((-1 : Int32), c1.2)
  else
    Option.bind (ρ a0 7) fun j2 =>
    Option.bind (ρ a0 11) fun j3 =>
    Option.bind (MX0_crossings c1.2 ρ j2 j3) fun c4 =>
    some (c4, c1.2)
def BX11_nthTangentThroughSpot_88 (ρ : Rho) (a0 : Nat) (a1 : Int32) (rec : Sto → Int32 → Int32 → Int32 → Option (Int32 × Sto)) (σ : Sto) (v2 : Int32) (v3 : Int32) (v4 : Int32) : Option (Int32 × Sto) :=
  bn (v4 + (1 : Int32)) fun y1 =>
  rec σ v2 v3 y1
def FX11_nthTangentThroughSpot_27 (ρ : Rho) (a0 : Nat) (a1 : Int32) (rec : Sto → Int32 → Int32 → Int32 → Option (Int32 × Sto)) (σ : Sto) (v2 : Int32) (v3 : Int32) (v4 : Int32) : Option (Int32 × Sto) :=
  Option.bind (MX2_points v2) fun c1 =>
  if c1 ≤ v4 then
    some ((-1 : Int32), σ)
  else
    Option.bind (ρ a0 13) fun j2 =>
    Option.bind (MX10_take σ j2 v4 v2) fun c3 =>
    if c3.1 = 0 then
      BX11_nthTangentThroughSpot_88 ρ a0 a1 rec c3.2 v2 v3 v4
    else
      Option.bind (ρ a0 13) fun j4 =>
      Option.bind (ρ a0 11) fun j5 =>
      Option.bind (MX10_isOn c3.2 j4 j5 v2) fun c6 =>
      if c6 = 0 then
        BX11_nthTangentThroughSpot_88 ρ a0 a1 rec c3.2 v2 v3 v4
      else
        Option.bind (ρ a0 8) fun j7 =>
        Option.bind (ρ a0 13) fun j8 =>
        Option.bind (MX0_valueAt c3.2 ρ j7 j8) fun c9 =>
        if c9 = 0 then
          if v3 = 0 then
            some (v4, c3.2)
          else
            bn (v3 + (-1 : Int32)) fun y10 =>
            BX11_nthTangentThroughSpot_88 ρ a0 a1 rec c3.2 v2 y10 v4
        else
          BX11_nthTangentThroughSpot_88 ρ a0 a1 rec c3.2 v2 v3 v4
def MX11_nthTangentThroughSpot (σ : Sto) (ρ : Rho) (a0 : Nat) (a1 : Int32) : Option (Int32 × Sto) :=
  Option.bind (ρ a0 0) fun j1 =>
  Option.bind (ρ j1 0) fun j2 =>
  bn ((σ j2 0)) fun y3 =>
  bn a1 fun y4 =>
  Option.bind (ρ a0 8) fun j5 =>
  Option.bind (ρ a0 7) fun j6 =>
  Option.bind (MX0_becomeDual σ ρ j5 j6) fun c7 =>
  bn ((0 : Int32)) fun y8 =>
  fixN (fun _ _ _ _ => none) (FX11_nthTangentThroughSpot_27 ρ a0 a1) FU c7 y3 y4 y8
def MX11_tangent (σ : Sto) (ρ : Rho) (a0 : Nat) (a1 : Int32) (a2 : Int32) (a3 : Int32) : Option (Int32 × Sto) :=
  if a3 < (-1 : Int32) then
    some ((-1 : Int32), σ)
  else
    Option.bind (MX11_takeBoth σ ρ a0 a1 a2) fun c1 =>
    if c1.1 = 0 then
      some ((-1 : Int32), c1.2)
    else
      Option.bind (ρ a0 7) fun j2 =>
      Option.bind (MX0_kind c1.2 ρ j2) fun c3 =>
      if c3 = (4 : Int32) then
        if a3 = (-1 : Int32) then
          Option.bind (MX11_tangentsThroughSpot c1.2 ρ a0) fun c5 =>
          some (c5.1, c5.2)
        else
          Option.bind (MX11_nthTangentThroughSpot c1.2 ρ a0 a3) fun c4 =>
          some (c4.1, c4.2)
      else
        some ((-1 : Int32), c1.2)
def MX11_takePencil (σ : Sto) (ρ : Rho) (a0 : Nat) (a1 : Int32) (a2 : Int32) : Option (Int32 × Sto) :=
  Option.bind (MX11_isConic a1) fun c1 =>
  if c1 = 0 then
    zr ((0 : Int32)) (some ((0 : Int32), σ))
  else
    Option.bind (MX11_isConic a2) fun c2 =>
    if c2 = 0 then
      zr ((0 : Int32)) (some ((0 : Int32), σ))
    else
      Option.bind (ρ a0 5) fun j3 =>
      Option.bind (ρ a0 0) fun j4 =>
      Option.bind (ρ j4 0) fun j5 =>
      Option.bind (MX6_take σ ρ j3 j5 a1 a2) fun c6 =>
      if c6.1 = 0 then
        zr ((0 : Int32)) (some ((0 : Int32), c6.2))
      else
        zr ((1 : Int32)) (some ((1 : Int32), c6.2))
def MX11_pencil (σ : Sto) (ρ : Rho) (a0 : Nat) (a1 : Int32) (a2 : Int32) (a3 : Int32) : Option (Int32 × Sto) :=
  Option.bind (MX11_takePencil σ ρ a0 a1 a2) fun c1 =>
  if c1.1 = 0 then
    some ((-1 : Int32), c1.2)
  else
    if a3 < (3000 : Int32) then
      if a3 < (2000 : Int32) then
        if a3 < (1000 : Int32) then
          if a3 < (100 : Int32) then
            if a3 = (0 : Int32) then
              Option.bind (ρ a0 5) fun j2 =>
              Option.bind (MX6_sizeOfBase c1.2 ρ j2) fun c3 =>
              some (c3.1, c3.2)
            else
            if a3 = (1 : Int32) then
              Option.bind (ρ a0 5) fun j4 =>
              Option.bind (MX6_fallen c1.2 ρ j4) fun c5 =>
              some (c5.1, c5.2)
            else
            if a3 = (2 : Int32) then
              Option.bind (ρ a0 5) fun j6 =>
              Option.bind (MX6_touching c1.2 ρ j6) fun c7 =>
              some (c7.1, c7.2)
            else
            some ((-1 : Int32), c1.2)
          else
            Option.bind (ρ a0 5) fun j8 =>
            Option.bind (MX6_nthOfBase c1.2 ρ j8 ((a3 - (100 : Int32)))) fun c9 =>
            some (c9.1, c9.2)
        else
          Option.bind (ρ a0 5) fun j10 =>
          Option.bind (MX6_takeMember c1.2 ρ j10 ((a3 - (1000 : Int32)))) fun c11 =>
          if c11.1 = 0 then
            some ((-1 : Int32), c11.2)
          else
            Option.bind (ρ a0 5) fun j12 =>
            Option.bind (ρ j12 2) fun j13 =>
            Option.bind (MX0_kind c11.2 ρ j13) fun c14 =>
            some (c14, c11.2)
      else
        Option.bind (ρ a0 5) fun j15 =>
        Option.bind (MX6_takeMember c1.2 ρ j15 ((a3 - (2000 : Int32)))) fun c16 =>
        if c16.1 = 0 then
          some ((-1 : Int32), c16.2)
        else
          Option.bind (ρ a0 5) fun j17 =>
          Option.bind (ρ j17 2) fun j18 =>
          Option.bind (MX0_points c16.2 ρ j18) fun c19 =>
          some (c19, c16.2)
    else
      Option.bind (ρ a0 5) fun j20 =>
      Option.bind (MX6_takeMember c1.2 ρ j20 ((a3 - (3000 : Int32)))) fun c21 =>
      if c21.1 = 0 then
        some ((-1 : Int32), c21.2)
      else
        Option.bind (ρ a0 5) fun j22 =>
        Option.bind (ρ j22 2) fun j23 =>
        Option.bind (MX0_lines c21.2 ρ j23) fun c24 =>
        some (c24, c21.2)
def MX11_member (σ : Sto) (ρ : Rho) (a0 : Nat) (a1 : Int32) (a2 : Int32) (a3 : Int32) (a4 : Int32) : Option (Int32 × Sto) :=
  Option.bind (MX11_isNumber a4) fun c1 =>
  if c1 = 0 then
    some ((-1 : Int32), σ)
  else
    Option.bind (MX11_takePencil σ ρ a0 a1 a2) fun c2 =>
    if c2.1 = 0 then
      some ((-1 : Int32), c2.2)
    else
      Option.bind (ρ a0 5) fun j3 =>
      Option.bind (MX6_takeMember c2.2 ρ j3 a3) fun c4 =>
      if c4.1 = 0 then
        some ((-1 : Int32), c4.2)
      else
        Option.bind (ρ a0 5) fun j5 =>
        Option.bind (ρ j5 2) fun j6 =>
        Option.bind (ρ j6 0) fun j7 =>
        Option.bind (MX3_nth c4.2 j7 a4) fun c8 =>
        some (c8, c4.2)
def MX11_passing (σ : Sto) (ρ : Rho) (a0 : Nat) (a1 : Int32) (a2 : Int32) (a3 : Int32) : Option (Int32 × Sto) :=
  Option.bind (MX11_takePencil σ ρ a0 a1 a2) fun c1 =>
  if c1.1 = 0 then
    some ((-1 : Int32), c1.2)
  else
    Option.bind (ρ a0 11) fun j2 =>
    Option.bind (ρ a0 0) fun j3 =>
    Option.bind (ρ j3 0) fun j4 =>
    Option.bind (MX10_take c1.2 j2 a3 ((c1.2 j4 0))) fun c5 =>
    if c5.1 = 0 then
      some ((-1 : Int32), c5.2)
    else
      Option.bind (ρ a0 5) fun j6 =>
      Option.bind (ρ a0 11) fun j7 =>
      Option.bind (MX6_firstThrough c5.2 ρ j6 j7) fun c8 =>
      some (c8.1, c8.2)
def MX11_only (σ : Sto) (ρ : Rho) (a0 : Nat) (a1 : Int32) : Option (Int32 × Sto × Rho) :=
  Option.bind (ρ a0 6) fun j1 =>
  Option.bind (ρ a0 0) fun j2 =>
  Option.bind (ρ j2 0) fun j3 =>
  Option.bind (MX1_gather σ ρ j1 j3) fun c4 =>
  Option.bind (c4.2 a0 6) fun j5 =>
  if (c4.1 j5 2) = (1 : Int32) then
    Option.bind (MX11_isNumber a1) fun c6 =>
    if c6 = 0 then
      some ((-1 : Int32), c4.1, c4.2)
    else
      Option.bind (c4.2 a0 6) fun j7 =>
      Option.bind (c4.2 a0 9) fun j8 =>
      Option.bind (MX1_readOne c4.1 c4.2 j7 j8) fun c9 =>
      Option.bind (c4.2 a0 9) fun j10 =>
      Option.bind (MX3_nth c9 j10 a1) fun c11 =>
      some (c11, c9, c4.2)
  else
    some ((-1 : Int32), c4.1, c4.2)
def MX11_freed (σ : Sto) (ρ : Rho) (a0 : Nat) (a1 : Int32) : Option (Int32 × Sto × Rho) :=
  Option.bind (ρ a0 11) fun j1 =>
  Option.bind (ρ a0 0) fun j2 =>
  Option.bind (ρ j2 0) fun j3 =>
  Option.bind (MX10_take σ j1 a1 ((σ j3 0))) fun c4 =>
  if c4.1 = 0 then
    some ((-1 : Int32), c4.2, ρ)
  else
    Option.bind (ρ a0 0) fun j5 =>
    Option.bind (ρ j5 0) fun j6 =>
    Option.bind (MX8_isMarked c4.2 ρ j6 a1) fun c7 =>
    if c7 = 0 then
      Option.bind (ρ a0 6) fun j8 =>
      Option.bind (ρ a0 0) fun j9 =>
      Option.bind (ρ j9 0) fun j10 =>
      Option.bind (MX1_gather c4.2 ρ j8 j10) fun c11 =>
      Option.bind (c11.2 a0 6) fun j12 =>
      Option.bind (c11.2 a0 11) fun j13 =>
      Option.bind (MX1_isLessBy c11.1 c11.2 j12 j13) fun c14 =>
      if c14 = 0 then
        Option.bind (c11.2 a0 6) fun j15 =>
        some ((c11.1 j15 2), c11.1, c11.2)
      else
        Option.bind (c11.2 a0 6) fun j16 =>
        some (((c11.1 j16 2) - (1 : Int32)), c11.1, c11.2)
    else
      some ((-1 : Int32), c4.2, ρ)
def BX11_useful_66 (a0 : Nat) (rec : Sto → Rho → Int32 → Int32 → Int32 → Option (Int32 × Sto × Rho)) (σ : Sto) (ρ : Rho) (v1 : Int32) (v2 : Int32) (v3 : Int32) : Option (Int32 × Sto × Rho) :=
  bn (v3 + (1 : Int32)) fun y1 =>
  rec σ ρ v1 v2 y1
def FX11_useful_29 (a0 : Nat) (rec : Sto → Rho → Int32 → Int32 → Int32 → Option (Int32 × Sto × Rho)) (σ : Sto) (ρ : Rho) (v1 : Int32) (v2 : Int32) (v3 : Int32) : Option (Int32 × Sto × Rho) :=
  Option.bind (MX2_points v1) fun c1 =>
  if c1 ≤ v3 then
    some (v2, σ, ρ)
  else
    Option.bind (ρ a0 11) fun j2 =>
    Option.bind (MX10_take σ j2 v3 v1) fun c3 =>
    if c3.1 = 0 then
      BX11_useful_66 a0 rec c3.2 ρ v1 v2 v3
    else
      Option.bind (ρ a0 6) fun j4 =>
      Option.bind (ρ a0 11) fun j5 =>
      Option.bind (MX1_isLessBy c3.2 ρ j4 j5) fun c6 =>
      if c6 = 0 then
        BX11_useful_66 a0 rec c3.2 ρ v1 v2 v3
      else
        bn (v2 + (1 : Int32)) fun y7 =>
        BX11_useful_66 a0 rec c3.2 ρ v1 y7 v3
def MX11_useful (σ : Sto) (ρ : Rho) (a0 : Nat) : Option (Int32 × Sto × Rho) :=
  Option.bind (ρ a0 6) fun j1 =>
  Option.bind (ρ a0 0) fun j2 =>
  Option.bind (ρ j2 0) fun j3 =>
  Option.bind (MX1_gather σ ρ j1 j3) fun c4 =>
  Option.bind (c4.2 a0 0) fun j5 =>
  Option.bind (c4.2 j5 0) fun j6 =>
  bn ((c4.1 j6 0)) fun y7 =>
  bn ((0 : Int32)) fun y8 =>
  bn ((0 : Int32)) fun y9 =>
  fixN (fun _ _ _ _ _ => none) (FX11_useful_29 a0) FU c4.1 c4.2 y7 y8 y9
def MX11_image (σ : Sto) (ρ : Rho) (a0 : Nat) (a1 : Int32) : Option (Int32 × Sto) :=
  if a1 < 0 then
    zr ((0 : Int32)) (some ((0 : Int32), σ))
  else
    if a1 < (3 : Int32) then
      Option.bind (ρ a0 2) fun j1 =>
      Option.bind (rg ρ j1 a1) fun j2 =>
      Option.bind (ρ a0 0) fun j3 =>
      Option.bind (MX4_copy σ ρ j2 j3) fun c4 =>
      Option.bind (ρ a0 3) fun j5 =>
      Option.bind (ap c4 j5 a1 ((1 : Int32))) fun σ6 =>
      zr ((1 : Int32)) (some ((1 : Int32), σ6))
    else
      zr ((0 : Int32)) (some ((0 : Int32), σ))
def MX11_again (σ : Sto) (ρ : Rho) (a0 : Nat) (a1 : Int32) : Option (Int32 × Sto) :=
  if a1 < 0 then
    zr ((0 : Int32)) (some ((0 : Int32), σ))
  else
    if (3 : Int32) ≤ a1 then
      zr ((0 : Int32)) (some ((0 : Int32), σ))
    else
      Option.bind (ρ a0 3) fun j1 =>
      Option.bind (ag σ j1 a1) fun x2 =>
      if x2 = 0 then
        zr ((0 : Int32)) (some ((0 : Int32), σ))
      else
        Option.bind (ρ a0 0) fun j3 =>
        Option.bind (ρ a0 2) fun j4 =>
        Option.bind (rg ρ j4 a1) fun j5 =>
        Option.bind (MX4_copy σ ρ j3 j5) fun c6 =>
        Option.bind (ρ a0 1) fun j7 =>
        Option.bind (MX5_forget c6 j7) fun c8 =>
        zr ((1 : Int32)) (some ((1 : Int32), c8))
def MX0_init (n : Nat) (σ : Sto) (ρ : Rho) (a0 : Nat) : Option (Sto × Rho) :=
  nw 2 n σ ρ fun σ1 ρ2 =>
  Option.bind (MX3_init n) fun c4 =>
  bn (ru ρ2 a0 0 (some n)) fun ρ5 =>
  bn (su σ1 a0 1 ((7 : Int32))) fun σ6 =>
  some (σ6, ρ5)
def MX1_init (n : Nat) (σ : Sto) (ρ : Rho) (a0 : Nat) : Option (Sto × Rho) :=
  nwa 23 n (6 : Int32) σ ρ fun σ1 ρ2 =>
  bn (ru ρ2 a0 0 (some n)) fun ρ4 =>
  nw 9 (n + 1) σ1 ρ4 fun σ5 ρ6 =>
  Option.bind (MX10_init ((n + 1))) fun c8 =>
  bn (ru ρ6 a0 1 (some ((n + 1)))) fun ρ9 =>
  bn (su σ5 a0 2 ((6 : Int32))) fun σ10 =>
  Option.bind (ρ9 a0 0) fun j11 =>
  nw 0 (n + 2) σ10 ρ9 fun σ12 ρ13 =>
  Option.bind (MX0_init (n + 3) σ12 ρ13 (n + 2)) fun c15 =>
  Option.bind (rp c15.2 j11 ((0 : Int32)) ((n + 2))) fun ρ16 =>
  Option.bind (ρ16 a0 0) fun j17 =>
  nw 0 (n + 4) c15.1 ρ16 fun σ18 ρ19 =>
  Option.bind (MX0_init (n + 5) σ18 ρ19 (n + 4)) fun c21 =>
  Option.bind (rp c21.2 j17 ((1 : Int32)) ((n + 4))) fun ρ22 =>
  Option.bind (ρ22 a0 0) fun j23 =>
  nw 0 (n + 6) c21.1 ρ22 fun σ24 ρ25 =>
  Option.bind (MX0_init (n + 7) σ24 ρ25 (n + 6)) fun c27 =>
  Option.bind (rp c27.2 j23 ((2 : Int32)) ((n + 6))) fun ρ28 =>
  Option.bind (ρ28 a0 0) fun j29 =>
  nw 0 (n + 8) c27.1 ρ28 fun σ30 ρ31 =>
  Option.bind (MX0_init (n + 9) σ30 ρ31 (n + 8)) fun c33 =>
  Option.bind (rp c33.2 j29 ((3 : Int32)) ((n + 8))) fun ρ34 =>
  Option.bind (ρ34 a0 0) fun j35 =>
  nw 0 (n + 10) c33.1 ρ34 fun σ36 ρ37 =>
  Option.bind (MX0_init (n + 11) σ36 ρ37 (n + 10)) fun c39 =>
  Option.bind (rp c39.2 j35 ((4 : Int32)) ((n + 10))) fun ρ40 =>
  Option.bind (ρ40 a0 0) fun j41 =>
  nw 0 (n + 12) c39.1 ρ40 fun σ42 ρ43 =>
  Option.bind (MX0_init (n + 13) σ42 ρ43 (n + 12)) fun c45 =>
  Option.bind (rp c45.2 j41 ((5 : Int32)) ((n + 12))) fun ρ46 =>
  some (c45.1, ρ46)
def MX8_init (n : Nat) (σ : Sto) (ρ : Rho) (a0 : Nat) : Option (Sto × Rho) :=
  nwa 20 n (8 : Int32) σ ρ fun σ1 ρ2 =>
  bn (ru ρ2 a0 2 (some n)) fun ρ4 =>
  nwa 20 (n + 1) (36 : Int32) σ1 ρ4 fun σ5 ρ6 =>
  bn (ru ρ6 a0 3 (some ((n + 1)))) fun ρ8 =>
  Option.bind (MX8_clear σ5 ρ8 a0) fun c9 =>
  some (c9, ρ8)
def MX9_init (n : Nat) (σ : Sto) (ρ : Rho) (a0 : Nat) : Option (Sto × Rho) :=
  nwa 21 n (500 : Int32) σ ρ fun σ1 ρ2 =>
  bn (ru ρ2 a0 0 (some n)) fun ρ4 =>
  bn (su σ1 a0 1 ((0 : Int32))) fun σ5 =>
  some (σ5, ρ4)
def MX4_init (n : Nat) (σ : Sto) (ρ : Rho) (a0 : Nat) : Option (Sto × Rho) :=
  nw 7 n σ ρ fun σ1 ρ2 =>
  Option.bind (MX8_init (n + 1) σ1 ρ2 n) fun c4 =>
  bn (ru c4.2 a0 0 (some n)) fun ρ5 =>
  nw 8 (n + 3) c4.1 ρ5 fun σ6 ρ7 =>
  Option.bind (MX9_init (n + 4) σ6 ρ7 (n + 3)) fun c9 =>
  bn (ru c9.2 a0 1 (some ((n + 3)))) fun ρ10 =>
  bn (su c9.1 a0 2 ((0 : Int32))) fun σ11 =>
  bn (su σ11 a0 3 ((-1 : Int32))) fun σ12 =>
  bn (su σ12 a0 4 ((0 : Int32))) fun σ13 =>
  bn (su σ13 a0 5 ((0 : Int32))) fun σ14 =>
  some (σ14, ρ10)
def MX5_init (n : Nat) (σ : Sto) (ρ : Rho) (a0 : Nat) : Option (Sto × Rho) :=
  nwa 24 n (8 : Int32) σ ρ fun σ1 ρ2 =>
  bn (ru ρ2 a0 0 (some n)) fun ρ4 =>
  bn (su σ1 a0 1 ((0 : Int32))) fun σ5 =>
  bn (su σ5 a0 2 ((0 : Int32))) fun σ6 =>
  Option.bind (ρ4 a0 0) fun j7 =>
  nw 7 (n + 1) σ6 ρ4 fun σ8 ρ9 =>
  Option.bind (MX8_init (n + 2) σ8 ρ9 (n + 1)) fun c11 =>
  Option.bind (rp c11.2 j7 ((0 : Int32)) ((n + 1))) fun ρ12 =>
  Option.bind (ρ12 a0 0) fun j13 =>
  nw 7 (n + 4) c11.1 ρ12 fun σ14 ρ15 =>
  Option.bind (MX8_init (n + 5) σ14 ρ15 (n + 4)) fun c17 =>
  Option.bind (rp c17.2 j13 ((1 : Int32)) ((n + 4))) fun ρ18 =>
  Option.bind (ρ18 a0 0) fun j19 =>
  nw 7 (n + 7) c17.1 ρ18 fun σ20 ρ21 =>
  Option.bind (MX8_init (n + 8) σ20 ρ21 (n + 7)) fun c23 =>
  Option.bind (rp c23.2 j19 ((2 : Int32)) ((n + 7))) fun ρ24 =>
  Option.bind (ρ24 a0 0) fun j25 =>
  nw 7 (n + 10) c23.1 ρ24 fun σ26 ρ27 =>
  Option.bind (MX8_init (n + 11) σ26 ρ27 (n + 10)) fun c29 =>
  Option.bind (rp c29.2 j25 ((3 : Int32)) ((n + 10))) fun ρ30 =>
  Option.bind (ρ30 a0 0) fun j31 =>
  nw 7 (n + 13) c29.1 ρ30 fun σ32 ρ33 =>
  Option.bind (MX8_init (n + 14) σ32 ρ33 (n + 13)) fun c35 =>
  Option.bind (rp c35.2 j31 ((4 : Int32)) ((n + 13))) fun ρ36 =>
  Option.bind (ρ36 a0 0) fun j37 =>
  nw 7 (n + 16) c35.1 ρ36 fun σ38 ρ39 =>
  Option.bind (MX8_init (n + 17) σ38 ρ39 (n + 16)) fun c41 =>
  Option.bind (rp c41.2 j37 ((5 : Int32)) ((n + 16))) fun ρ42 =>
  Option.bind (ρ42 a0 0) fun j43 =>
  nw 7 (n + 19) c41.1 ρ42 fun σ44 ρ45 =>
  Option.bind (MX8_init (n + 20) σ44 ρ45 (n + 19)) fun c47 =>
  Option.bind (rp c47.2 j43 ((6 : Int32)) ((n + 19))) fun ρ48 =>
  Option.bind (ρ48 a0 0) fun j49 =>
  nw 7 (n + 22) c47.1 ρ48 fun σ50 ρ51 =>
  Option.bind (MX8_init (n + 23) σ50 ρ51 (n + 22)) fun c53 =>
  Option.bind (rp c53.2 j49 ((7 : Int32)) ((n + 22))) fun ρ54 =>
  some (c53.1, ρ54)
def MX6_init (n : Nat) (σ : Sto) (ρ : Rho) (a0 : Nat) : Option (Sto × Rho) :=
  nw 0 n σ ρ fun σ1 ρ2 =>
  Option.bind (MX0_init (n + 1) σ1 ρ2 n) fun c4 =>
  bn (ru c4.2 a0 0 (some n)) fun ρ5 =>
  nw 0 (n + 2) c4.1 ρ5 fun σ6 ρ7 =>
  Option.bind (MX0_init (n + 3) σ6 ρ7 (n + 2)) fun c9 =>
  bn (ru c9.2 a0 1 (some ((n + 2)))) fun ρ10 =>
  nw 0 (n + 4) c9.1 ρ10 fun σ11 ρ12 =>
  Option.bind (MX0_init (n + 5) σ11 ρ12 (n + 4)) fun c14 =>
  bn (ru c14.2 a0 2 (some ((n + 4)))) fun ρ15 =>
  nw 9 (n + 6) c14.1 ρ15 fun σ16 ρ17 =>
  Option.bind (MX10_init ((n + 6))) fun c19 =>
  bn (ru ρ17 a0 3 (some ((n + 6)))) fun ρ20 =>
  nw 9 (n + 7) σ16 ρ20 fun σ21 ρ22 =>
  Option.bind (MX10_init ((n + 7))) fun c24 =>
  bn (ru ρ22 a0 4 (some ((n + 7)))) fun ρ25 =>
  some (σ21, ρ25)
def MX7_init (n : Nat) (σ : Sto) (ρ : Rho) (a0 : Nat) : Option (Sto × Rho) :=
  nw 7 n σ ρ fun σ1 ρ2 =>
  Option.bind (MX8_init (n + 1) σ1 ρ2 n) fun c4 =>
  bn (ru c4.2 a0 0 (some n)) fun ρ5 =>
  bn (su c4.1 a0 1 ((0 : Int32))) fun σ6 =>
  bn (su σ6 a0 2 ((-1 : Int32))) fun σ7 =>
  nw 2 (n + 3) σ7 ρ5 fun σ8 ρ9 =>
  Option.bind (MX3_init ((n + 3))) fun c11 =>
  bn (ru ρ9 a0 3 (some ((n + 3)))) fun ρ12 =>
  nw 9 (n + 4) σ8 ρ12 fun σ13 ρ14 =>
  Option.bind (MX10_init ((n + 4))) fun c16 =>
  bn (ru ρ14 a0 4 (some ((n + 4)))) fun ρ17 =>
  bn (su σ13 a0 5 ((0 : Int32))) fun σ18 =>
  bn (su σ18 a0 6 ((0 : Int32))) fun σ19 =>
  bn (su σ19 a0 7 ((0 : Int32))) fun σ20 =>
  bn (su σ20 a0 8 ((0 : Int32))) fun σ21 =>
  some (σ21, ρ17)
def MX11_init (n : Nat) (σ : Sto) (ρ : Rho) (a0 : Nat) : Option (Sto × Rho) :=
  nw 3 n σ ρ fun σ1 ρ2 =>
  Option.bind (MX4_init (n + 1) σ1 ρ2 n) fun c4 =>
  bn (ru c4.2 a0 0 (some n)) fun ρ5 =>
  nw 4 (n + 6) c4.1 ρ5 fun σ6 ρ7 =>
  Option.bind (MX5_init (n + 7) σ6 ρ7 (n + 6)) fun c9 =>
  bn (ru c9.2 a0 1 (some ((n + 6)))) fun ρ10 =>
  nwa 25 (n + 32) (3 : Int32) c9.1 ρ10 fun σ11 ρ12 =>
  bn (ru ρ12 a0 2 (some ((n + 32)))) fun ρ14 =>
  Option.bind (ρ14 a0 2) fun j15 =>
  nw 3 (n + 33) σ11 ρ14 fun σ16 ρ17 =>
  Option.bind (MX4_init (n + 34) σ16 ρ17 (n + 33)) fun c19 =>
  Option.bind (rp c19.2 j15 ((0 : Int32)) ((n + 33))) fun ρ20 =>
  Option.bind (ρ20 a0 2) fun j21 =>
  nw 3 (n + 39) c19.1 ρ20 fun σ22 ρ23 =>
  Option.bind (MX4_init (n + 40) σ22 ρ23 (n + 39)) fun c25 =>
  Option.bind (rp c25.2 j21 ((1 : Int32)) ((n + 39))) fun ρ26 =>
  Option.bind (ρ26 a0 2) fun j27 =>
  nw 3 (n + 45) c25.1 ρ26 fun σ28 ρ29 =>
  Option.bind (MX4_init (n + 46) σ28 ρ29 (n + 45)) fun c31 =>
  Option.bind (rp c31.2 j27 ((2 : Int32)) ((n + 45))) fun ρ32 =>
  nwa 22 (n + 51) (3 : Int32) c31.1 ρ32 fun σ33 ρ34 =>
  bn (ru ρ34 a0 3 (some ((n + 51)))) fun ρ36 =>
  nw 6 (n + 52) σ33 ρ36 fun σ37 ρ38 =>
  Option.bind (MX7_init (n + 53) σ37 ρ38 (n + 52)) fun c40 =>
  bn (ru c40.2 a0 4 (some ((n + 52)))) fun ρ41 =>
  nw 5 (n + 58) c40.1 ρ41 fun σ42 ρ43 =>
  Option.bind (MX6_init (n + 59) σ42 ρ43 (n + 58)) fun c45 =>
  bn (ru c45.2 a0 5 (some ((n + 58)))) fun ρ46 =>
  nw 1 (n + 67) c45.1 ρ46 fun σ47 ρ48 =>
  Option.bind (MX1_init (n + 68) σ47 ρ48 (n + 67)) fun c50 =>
  bn (ru c50.2 a0 6 (some ((n + 67)))) fun ρ51 =>
  nw 0 (n + 82) c50.1 ρ51 fun σ52 ρ53 =>
  Option.bind (MX0_init (n + 83) σ52 ρ53 (n + 82)) fun c55 =>
  bn (ru c55.2 a0 7 (some ((n + 82)))) fun ρ56 =>
  nw 0 (n + 84) c55.1 ρ56 fun σ57 ρ58 =>
  Option.bind (MX0_init (n + 85) σ57 ρ58 (n + 84)) fun c60 =>
  bn (ru c60.2 a0 8 (some ((n + 84)))) fun ρ61 =>
  nw 2 (n + 86) c60.1 ρ61 fun σ62 ρ63 =>
  Option.bind (MX3_init ((n + 86))) fun c65 =>
  bn (ru ρ63 a0 9 (some ((n + 86)))) fun ρ66 =>
  nw 2 (n + 87) σ62 ρ66 fun σ67 ρ68 =>
  Option.bind (MX3_init ((n + 87))) fun c70 =>
  bn (ru ρ68 a0 10 (some ((n + 87)))) fun ρ71 =>
  nw 9 (n + 88) σ67 ρ71 fun σ72 ρ73 =>
  Option.bind (MX10_init ((n + 88))) fun c75 =>
  bn (ru ρ73 a0 11 (some ((n + 88)))) fun ρ76 =>
  nw 9 (n + 89) σ72 ρ76 fun σ77 ρ78 =>
  Option.bind (MX10_init ((n + 89))) fun c80 =>
  bn (ru ρ78 a0 12 (some ((n + 89)))) fun ρ81 =>
  nw 9 (n + 90) σ77 ρ81 fun σ82 ρ83 =>
  Option.bind (MX10_init ((n + 90))) fun c85 =>
  bn (ru ρ83 a0 13 (some ((n + 90)))) fun ρ86 =>
  some (σ82, ρ86)
def MX12_init (n : Nat) (σ : Sto) (ρ : Rho) (a0 : Nat) : Option (Sto × Rho) :=
  nwa 20 n (2115 : Int32) σ ρ fun σ1 ρ2 =>
  bn (ru ρ2 a0 0 (some n)) fun ρ4 =>
  nwa 20 (n + 1) (500 : Int32) σ1 ρ4 fun σ5 ρ6 =>
  bn (ru ρ6 a0 1 (some ((n + 1)))) fun ρ8 =>
  nwa 22 (n + 2) (3 : Int32) σ5 ρ8 fun σ9 ρ10 =>
  bn (ru ρ10 a0 2 (some ((n + 2)))) fun ρ12 =>
  bn (su σ9 a0 5 ((-1 : Int32))) fun σ13 =>
  nwa 20 (n + 3) (6 : Int32) σ13 ρ12 fun σ14 ρ15 =>
  bn (ru ρ15 a0 11 (some ((n + 3)))) fun ρ17 =>
  nwa 20 (n + 4) (48 : Int32) σ14 ρ17 fun σ18 ρ19 =>
  bn (ru ρ19 a0 12 (some ((n + 4)))) fun ρ21 =>
  nwa 20 (n + 5) (6 : Int32) σ18 ρ21 fun σ22 ρ23 =>
  bn (ru ρ23 a0 13 (some ((n + 5)))) fun ρ25 =>
  nwa 20 (n + 6) (6 : Int32) σ22 ρ25 fun σ26 ρ27 =>
  bn (ru ρ27 a0 19 (some ((n + 6)))) fun ρ29 =>
  Option.bind (MX12_firsts σ26 ρ29 a0 ((0 : Int32))) fun c30 =>
  some (c30, ρ29)
def BL_law_1271 (sl : Nat) (sc : Nat → Int32) (rec : Sto → Rho → Nat → Nat → Int32 → Option (Int32)) (σ : Sto) (ρ : Rho) (v1 : Nat) (v2 : Nat) (v3 : Int32) : Option (Int32) :=
  bn (v3 + (6 : Int32)) fun y1 =>
  rec σ ρ v1 v2 y1
def BL_law_180 (sl : Nat) (sc : Nat → Int32) (rec : Sto → Rho → Nat → Nat → Int32 → Option (Int32)) (σ : Sto) (ρ : Rho) (v1 : Nat) (v2 : Nat) (v3 : Int32) : Option (Int32) :=
  Option.bind (sg sl sc ((v3 + (1 : Int32)))) fun x1 =>
  Option.bind (sg sl sc ((v3 + (2 : Int32)))) fun x2 =>
  Option.bind (sg sl sc ((v3 + (3 : Int32)))) fun x3 =>
  Option.bind (sg sl sc ((v3 + (4 : Int32)))) fun x4 =>
  Option.bind (sg sl sc ((v3 + (5 : Int32)))) fun x5 =>
  Option.bind (MX11_feed σ ρ v1 x1 x2 x3 x4 x5) fun c6 =>
  Option.bind (sg sl sc ((v3 + (1 : Int32)))) fun x7 =>
  Option.bind (sg sl sc ((v3 + (2 : Int32)))) fun x8 =>
  Option.bind (sg sl sc ((v3 + (3 : Int32)))) fun x9 =>
  Option.bind (sg sl sc ((v3 + (4 : Int32)))) fun x10 =>
  Option.bind (sg sl sc ((v3 + (5 : Int32)))) fun x11 =>
  Option.bind (MX12_feed c6.2 ρ v2 x7 x8 x9 x10 x11) fun c12 =>
  if c6.1 = c12.1 then
    BL_law_1271 sl sc rec c12.2 ρ v1 v2 v3
  else
    some ((0 : Int32))
def BL_law_243 (sl : Nat) (sc : Nat → Int32) (rec : Sto → Rho → Nat → Nat → Int32 → Option (Int32)) (σ : Sto) (ρ : Rho) (v1 : Nat) (v2 : Nat) (v3 : Int32) : Option (Int32) :=
  Option.bind (sg sl sc ((v3 + (1 : Int32)))) fun x1 =>
  Option.bind (MX11_end σ ρ v1 x1) fun c2 =>
  Option.bind (sg sl sc ((v3 + (1 : Int32)))) fun x3 =>
  Option.bind (MX12_end c2.2 v2 x3) fun c4 =>
  if c2.1 = c4.1 then
    BL_law_1271 sl sc rec c4.2 ρ v1 v2 v3
  else
    some ((0 : Int32))
def BL_law_266 (sl : Nat) (sc : Nat → Int32) (rec : Sto → Rho → Nat → Nat → Int32 → Option (Int32)) (σ : Sto) (ρ : Rho) (v1 : Nat) (v2 : Nat) (v3 : Int32) : Option (Int32) :=
  Option.bind (MX11_text σ ρ v1) fun c1 =>
  Option.bind (MX12_text c1.2 ρ v2) fun c2 =>
  if c1.1 = c2.1 then
    BL_law_1271 sl sc rec c2.2 ρ v1 v2 v3
  else
    some ((0 : Int32))
def BL_law_279 (sl : Nat) (sc : Nat → Int32) (rec : Sto → Rho → Nat → Nat → Int32 → Option (Int32)) (σ : Sto) (ρ : Rho) (v1 : Nat) (v2 : Nat) (v3 : Int32) : Option (Int32) :=
  Option.bind (sg sl sc ((v3 + (1 : Int32)))) fun x1 =>
  Option.bind (MX11_fault σ ρ v1 x1) fun c2 =>
  Option.bind (sg sl sc ((v3 + (1 : Int32)))) fun x3 =>
  Option.bind (MX12_fault σ v2 x3) fun c4 =>
  if c2 = c4 then
    BL_law_1271 sl sc rec σ ρ v1 v2 v3
  else
    some ((0 : Int32))
def BL_law_302 (sl : Nat) (sc : Nat → Int32) (rec : Sto → Rho → Nat → Nat → Int32 → Option (Int32)) (σ : Sto) (ρ : Rho) (v1 : Nat) (v2 : Nat) (v3 : Int32) : Option (Int32) :=
  Option.bind (sg sl sc ((v3 + (1 : Int32)))) fun x1 =>
  Option.bind (MX11_prime σ ρ v1 x1) fun c2 =>
  Option.bind (sg sl sc ((v3 + (1 : Int32)))) fun x3 =>
  Option.bind (MX12_prime c2.2 ρ v2 x3) fun c4 =>
  if c2.1 = c4.1 then
    BL_law_1271 sl sc rec c4.2 ρ v1 v2 v3
  else
    some ((0 : Int32))
def BL_law_325 (sl : Nat) (sc : Nat → Int32) (rec : Sto → Rho → Nat → Nat → Int32 → Option (Int32)) (σ : Sto) (ρ : Rho) (v1 : Nat) (v2 : Nat) (v3 : Int32) : Option (Int32) :=
  Option.bind (sg sl sc ((v3 + (1 : Int32)))) fun x1 =>
  Option.bind (sg sl sc ((v3 + (2 : Int32)))) fun x2 =>
  Option.bind (sg sl sc ((v3 + (3 : Int32)))) fun x3 =>
  Option.bind (MX11_set σ ρ v1 x1 x2 x3) fun c4 =>
  Option.bind (sg sl sc ((v3 + (1 : Int32)))) fun x5 =>
  Option.bind (sg sl sc ((v3 + (2 : Int32)))) fun x6 =>
  Option.bind (sg sl sc ((v3 + (3 : Int32)))) fun x7 =>
  Option.bind (MX12_set c4.2 ρ v2 x5 x6 x7) fun c8 =>
  if c4.1 = c8.1 then
    BL_law_1271 sl sc rec c8.2 ρ v1 v2 v3
  else
    some ((0 : Int32))
def BL_law_368 (sl : Nat) (sc : Nat → Int32) (rec : Sto → Rho → Nat → Nat → Int32 → Option (Int32)) (σ : Sto) (ρ : Rho) (v1 : Nat) (v2 : Nat) (v3 : Int32) : Option (Int32) :=
  Option.bind (sg sl sc ((v3 + (1 : Int32)))) fun x1 =>
  Option.bind (sg sl sc ((v3 + (2 : Int32)))) fun x2 =>
  Option.bind (sg sl sc ((v3 + (3 : Int32)))) fun x3 =>
  Option.bind (sg sl sc ((v3 + (4 : Int32)))) fun x4 =>
  Option.bind (sg sl sc ((v3 + (5 : Int32)))) fun x5 =>
  Option.bind (MX11_sum σ ρ v1 x1 x2 x3 x4 x5) fun c6 =>
  Option.bind (sg sl sc ((v3 + (1 : Int32)))) fun x7 =>
  Option.bind (sg sl sc ((v3 + (2 : Int32)))) fun x8 =>
  Option.bind (sg sl sc ((v3 + (3 : Int32)))) fun x9 =>
  Option.bind (sg sl sc ((v3 + (4 : Int32)))) fun x10 =>
  Option.bind (sg sl sc ((v3 + (5 : Int32)))) fun x11 =>
  Option.bind (MX12_sum c6.2 ρ v2 x7 x8 x9 x10 x11) fun c12 =>
  if c6.1 = c12.1 then
    BL_law_1271 sl sc rec c12.2 ρ v1 v2 v3
  else
    some ((0 : Int32))
def BL_law_431 (sl : Nat) (sc : Nat → Int32) (rec : Sto → Rho → Nat → Nat → Int32 → Option (Int32)) (σ : Sto) (ρ : Rho) (v1 : Nat) (v2 : Nat) (v3 : Int32) : Option (Int32) :=
  Option.bind (sg sl sc ((v3 + (1 : Int32)))) fun x1 =>
  Option.bind (sg sl sc ((v3 + (2 : Int32)))) fun x2 =>
  Option.bind (MX11_turn σ ρ v1 x1 x2) fun c3 =>
  Option.bind (sg sl sc ((v3 + (1 : Int32)))) fun x4 =>
  Option.bind (sg sl sc ((v3 + (2 : Int32)))) fun x5 =>
  Option.bind (MX12_turn c3.2 ρ v2 x4 x5) fun c6 =>
  if c3.1 = c6.1 then
    BL_law_1271 sl sc rec c6.2 ρ v1 v2 v3
  else
    some ((0 : Int32))
def BL_law_464 (sl : Nat) (sc : Nat → Int32) (rec : Sto → Rho → Nat → Nat → Int32 → Option (Int32)) (σ : Sto) (ρ : Rho) (v1 : Nat) (v2 : Nat) (v3 : Int32) : Option (Int32) :=
  Option.bind (sg sl sc ((v3 + (1 : Int32)))) fun x1 =>
  Option.bind (sg sl sc ((v3 + (2 : Int32)))) fun x2 =>
  Option.bind (MX11_twist σ ρ v1 x1 x2) fun c3 =>
  Option.bind (sg sl sc ((v3 + (1 : Int32)))) fun x4 =>
  Option.bind (sg sl sc ((v3 + (2 : Int32)))) fun x5 =>
  Option.bind (MX12_twist c3.2 ρ v2 x4 x5) fun c6 =>
  if c3.1 = c6.1 then
    BL_law_1271 sl sc rec c6.2 ρ v1 v2 v3
  else
    some ((0 : Int32))
def BL_law_497 (sl : Nat) (sc : Nat → Int32) (rec : Sto → Rho → Nat → Nat → Int32 → Option (Int32)) (σ : Sto) (ρ : Rho) (v1 : Nat) (v2 : Nat) (v3 : Int32) : Option (Int32) :=
  Option.bind (sg sl sc ((v3 + (1 : Int32)))) fun x1 =>
  Option.bind (MX11_through σ ρ v1 x1) fun c2 =>
  Option.bind (sg sl sc ((v3 + (1 : Int32)))) fun x3 =>
  Option.bind (MX12_through c2.2.1 c2.2.2 v2 x3) fun c4 =>
  if c2.1 = c4.1 then
    BL_law_1271 sl sc rec c4.2 c2.2.2 v1 v2 v3
  else
    some ((0 : Int32))
def BL_law_561 (sl : Nat) (sc : Nat → Int32) (rec : Sto → Rho → Nat → Nat → Int32 → Option (Int32)) (σ : Sto) (ρ : Rho) (v1 : Nat) (v2 : Nat) (v3 : Int32) (t0 : Int32) (t1 : Nat) (t2 : Int32) (t3 : Int32) : Option (Int32) :=
  Option.bind (MX12_mark σ ρ t1 t2 t3) fun c1 =>
  if t0 = c1.1 then
    BL_law_1271 sl sc rec c1.2 ρ v1 v2 v3
  else
    some ((0 : Int32))
def BL_law_539 (sl : Nat) (sc : Nat → Int32) (rec : Sto → Rho → Nat → Nat → Int32 → Option (Int32)) (σ : Sto) (ρ : Rho) (v1 : Nat) (v2 : Nat) (v3 : Int32) (t0 : Nat) (t1 : Int32) (t2 : Int32) : Option (Int32) :=
  Option.bind (MX11_mark σ ρ t0 t1 t2) fun c1 =>
  Option.bind (sg sl sc ((v3 + (1 : Int32)))) fun x2 =>
  Option.bind (sg sl sc ((v3 + (2 : Int32)))) fun x3 =>
  if x3 = 0 then
    BL_law_561 sl sc rec c1.2 ρ v1 v2 v3 c1.1 v2 x2 ((0 : Int32))
  else
    BL_law_561 sl sc rec c1.2 ρ v1 v2 v3 c1.1 v2 x2 ((1 : Int32))
def BL_law_520 (sl : Nat) (sc : Nat → Int32) (rec : Sto → Rho → Nat → Nat → Int32 → Option (Int32)) (σ : Sto) (ρ : Rho) (v1 : Nat) (v2 : Nat) (v3 : Int32) : Option (Int32) :=
  Option.bind (sg sl sc ((v3 + (1 : Int32)))) fun x1 =>
  Option.bind (sg sl sc ((v3 + (2 : Int32)))) fun x2 =>
  if x2 = 0 then
    BL_law_539 sl sc rec σ ρ v1 v2 v3 v1 x1 ((0 : Int32))
  else
    BL_law_539 sl sc rec σ ρ v1 v2 v3 v1 x1 ((1 : Int32))
def BL_law_569 (sl : Nat) (sc : Nat → Int32) (rec : Sto → Rho → Nat → Nat → Int32 → Option (Int32)) (σ : Sto) (ρ : Rho) (v1 : Nat) (v2 : Nat) (v3 : Int32) : Option (Int32) :=
  Option.bind (sg sl sc ((v3 + (1 : Int32)))) fun x1 =>
  Option.bind (MX11_why σ ρ v1 x1) fun c2 =>
  Option.bind (sg sl sc ((v3 + (1 : Int32)))) fun x3 =>
  Option.bind (MX12_why σ ρ v2 x3) fun c4 =>
  if c2 = c4 then
    BL_law_1271 sl sc rec σ ρ v1 v2 v3
  else
    some ((0 : Int32))
def BL_law_592 (sl : Nat) (sc : Nat → Int32) (rec : Sto → Rho → Nat → Nat → Int32 → Option (Int32)) (σ : Sto) (ρ : Rho) (v1 : Nat) (v2 : Nat) (v3 : Int32) : Option (Int32) :=
  Option.bind (MX11_undo σ ρ v1) fun c1 =>
  Option.bind (MX12_undo c1.2 ρ v2) fun c2 =>
  if c1.1 = c2.1 then
    BL_law_1271 sl sc rec c2.2 ρ v1 v2 v3
  else
    some ((0 : Int32))
def BL_law_605 (sl : Nat) (sc : Nat → Int32) (rec : Sto → Rho → Nat → Nat → Int32 → Option (Int32)) (σ : Sto) (ρ : Rho) (v1 : Nat) (v2 : Nat) (v3 : Int32) : Option (Int32) :=
  Option.bind (sg sl sc ((v3 + (1 : Int32)))) fun x1 =>
  Option.bind (MX11_count σ ρ v1 x1) fun c2 =>
  Option.bind (sg sl sc ((v3 + (1 : Int32)))) fun x3 =>
  Option.bind (MX12_count c2.2.1 c2.2.2 v2 x3) fun c4 =>
  if c2.1 = c4.1 then
    BL_law_1271 sl sc rec c4.2 c2.2.2 v1 v2 v3
  else
    some ((0 : Int32))
def BL_law_628 (sl : Nat) (sc : Nat → Int32) (rec : Sto → Rho → Nat → Nat → Int32 → Option (Int32)) (σ : Sto) (ρ : Rho) (v1 : Nat) (v2 : Nat) (v3 : Int32) : Option (Int32) :=
  Option.bind (sg sl sc ((v3 + (1 : Int32)))) fun x1 =>
  Option.bind (sg sl sc ((v3 + (2 : Int32)))) fun x2 =>
  Option.bind (MX11_conic σ ρ v1 x1 x2) fun c3 =>
  Option.bind (sg sl sc ((v3 + (1 : Int32)))) fun x4 =>
  Option.bind (sg sl sc ((v3 + (2 : Int32)))) fun x5 =>
  Option.bind (MX12_conic c3.2 ρ v2 x4 x5) fun c6 =>
  if c3.1 = c6.1 then
    BL_law_1271 sl sc rec c6.2 ρ v1 v2 v3
  else
    some ((0 : Int32))
def BL_law_661 (sl : Nat) (sc : Nat → Int32) (rec : Sto → Rho → Nat → Nat → Int32 → Option (Int32)) (σ : Sto) (ρ : Rho) (v1 : Nat) (v2 : Nat) (v3 : Int32) : Option (Int32) :=
  Option.bind (sg sl sc ((v3 + (1 : Int32)))) fun x1 =>
  Option.bind (sg sl sc ((v3 + (2 : Int32)))) fun x2 =>
  Option.bind (MX11_place σ ρ v1 x1 x2) fun c3 =>
  Option.bind (sg sl sc ((v3 + (1 : Int32)))) fun x4 =>
  Option.bind (sg sl sc ((v3 + (2 : Int32)))) fun x5 =>
  Option.bind (MX12_place c3.2 ρ v2 x4 x5) fun c6 =>
  if c3.1 = c6.1 then
    BL_law_1271 sl sc rec c6.2 ρ v1 v2 v3
  else
    some ((0 : Int32))
def BL_law_694 (sl : Nat) (sc : Nat → Int32) (rec : Sto → Rho → Nat → Nat → Int32 → Option (Int32)) (σ : Sto) (ρ : Rho) (v1 : Nat) (v2 : Nat) (v3 : Int32) : Option (Int32) :=
  Option.bind (sg sl sc ((v3 + (1 : Int32)))) fun x1 =>
  Option.bind (sg sl sc ((v3 + (2 : Int32)))) fun x2 =>
  Option.bind (sg sl sc ((v3 + (3 : Int32)))) fun x3 =>
  Option.bind (MX11_number σ ρ v1 x1 x2 x3) fun c4 =>
  Option.bind (sg sl sc ((v3 + (1 : Int32)))) fun x5 =>
  Option.bind (sg sl sc ((v3 + (2 : Int32)))) fun x6 =>
  Option.bind (sg sl sc ((v3 + (3 : Int32)))) fun x7 =>
  Option.bind (MX12_number c4.2 ρ v2 x5 x6 x7) fun c8 =>
  if c4.1 = c8.1 then
    BL_law_1271 sl sc rec c8.2 ρ v1 v2 v3
  else
    some ((0 : Int32))
def BL_law_737 (sl : Nat) (sc : Nat → Int32) (rec : Sto → Rho → Nat → Nat → Int32 → Option (Int32)) (σ : Sto) (ρ : Rho) (v1 : Nat) (v2 : Nat) (v3 : Int32) : Option (Int32) :=
  Option.bind (sg sl sc ((v3 + (1 : Int32)))) fun x1 =>
  Option.bind (sg sl sc ((v3 + (2 : Int32)))) fun x2 =>
  Option.bind (MX11_joined σ ρ v1 x1 x2) fun c3 =>
  Option.bind (sg sl sc ((v3 + (1 : Int32)))) fun x4 =>
  Option.bind (sg sl sc ((v3 + (2 : Int32)))) fun x5 =>
  Option.bind (MX12_joined c3.2 ρ v2 x4 x5) fun c6 =>
  if c3.1 = c6.1 then
    BL_law_1271 sl sc rec c6.2 ρ v1 v2 v3
  else
    some ((0 : Int32))
def BL_law_770 (sl : Nat) (sc : Nat → Int32) (rec : Sto → Rho → Nat → Nat → Int32 → Option (Int32)) (σ : Sto) (ρ : Rho) (v1 : Nat) (v2 : Nat) (v3 : Int32) : Option (Int32) :=
  Option.bind (sg sl sc ((v3 + (1 : Int32)))) fun x1 =>
  Option.bind (MX11_marked σ ρ v1 x1) fun c2 =>
  Option.bind (sg sl sc ((v3 + (1 : Int32)))) fun x3 =>
  Option.bind (MX12_marked σ ρ v2 x3) fun c4 =>
  if c2 = c4 then
    BL_law_1271 sl sc rec σ ρ v1 v2 v3
  else
    some ((0 : Int32))
def BL_law_793 (sl : Nat) (sc : Nat → Int32) (rec : Sto → Rho → Nat → Nat → Int32 → Option (Int32)) (σ : Sto) (ρ : Rho) (v1 : Nat) (v2 : Nat) (v3 : Int32) : Option (Int32) :=
  Option.bind (sg sl sc ((v3 + (1 : Int32)))) fun x1 =>
  Option.bind (sg sl sc ((v3 + (2 : Int32)))) fun x2 =>
  Option.bind (MX11_lies σ ρ v1 x1 x2) fun c3 =>
  Option.bind (sg sl sc ((v3 + (1 : Int32)))) fun x4 =>
  Option.bind (sg sl sc ((v3 + (2 : Int32)))) fun x5 =>
  Option.bind (MX12_lies c3.2 ρ v2 x4 x5) fun c6 =>
  if c3.1 = c6.1 then
    BL_law_1271 sl sc rec c6.2 ρ v1 v2 v3
  else
    some ((0 : Int32))
def BL_law_877 (sl : Nat) (sc : Nat → Int32) (rec : Sto → Rho → Nat → Nat → Int32 → Option (Int32)) (σ : Sto) (ρ : Rho) (v1 : Nat) (v2 : Nat) (v3 : Int32) (t0 : Int32) (t1 : Nat) (t2 : Int32) (t3 : Int32) (t4 : Int32) : Option (Int32) :=
  Option.bind (MX12_on σ ρ t1 t2 t3 t4) fun c1 =>
  if t0 = c1.1 then
    BL_law_1271 sl sc rec c1.2 ρ v1 v2 v3
  else
    some ((0 : Int32))
def BL_law_850 (sl : Nat) (sc : Nat → Int32) (rec : Sto → Rho → Nat → Nat → Int32 → Option (Int32)) (σ : Sto) (ρ : Rho) (v1 : Nat) (v2 : Nat) (v3 : Int32) (t0 : Nat) (t1 : Int32) (t2 : Int32) (t3 : Int32) : Option (Int32) :=
  Option.bind (MX11_on σ ρ t0 t1 t2 t3) fun c1 =>
  Option.bind (sg sl sc ((v3 + (1 : Int32)))) fun x2 =>
  Option.bind (sg sl sc ((v3 + (2 : Int32)))) fun x3 =>
  Option.bind (sg sl sc ((v3 + (3 : Int32)))) fun x4 =>
  if x4 = 0 then
    BL_law_877 sl sc rec c1.2 ρ v1 v2 v3 c1.1 v2 x2 x3 ((0 : Int32))
  else
    BL_law_877 sl sc rec c1.2 ρ v1 v2 v3 c1.1 v2 x2 x3 ((1 : Int32))
def BL_law_826 (sl : Nat) (sc : Nat → Int32) (rec : Sto → Rho → Nat → Nat → Int32 → Option (Int32)) (σ : Sto) (ρ : Rho) (v1 : Nat) (v2 : Nat) (v3 : Int32) : Option (Int32) :=
  Option.bind (sg sl sc ((v3 + (1 : Int32)))) fun x1 =>
  Option.bind (sg sl sc ((v3 + (2 : Int32)))) fun x2 =>
  Option.bind (sg sl sc ((v3 + (3 : Int32)))) fun x3 =>
  if x3 = 0 then
    BL_law_850 sl sc rec σ ρ v1 v2 v3 v1 x1 x2 ((0 : Int32))
  else
    BL_law_850 sl sc rec σ ρ v1 v2 v3 v1 x1 x2 ((1 : Int32))
def BL_law_885 (sl : Nat) (sc : Nat → Int32) (rec : Sto → Rho → Nat → Nat → Int32 → Option (Int32)) (σ : Sto) (ρ : Rho) (v1 : Nat) (v2 : Nat) (v3 : Int32) : Option (Int32) :=
  Option.bind (sg sl sc ((v3 + (1 : Int32)))) fun x1 =>
  Option.bind (sg sl sc ((v3 + (2 : Int32)))) fun x2 =>
  Option.bind (MX11_polar σ ρ v1 x1 x2) fun c3 =>
  Option.bind (sg sl sc ((v3 + (1 : Int32)))) fun x4 =>
  Option.bind (sg sl sc ((v3 + (2 : Int32)))) fun x5 =>
  Option.bind (MX12_polar c3.2 ρ v2 x4 x5) fun c6 =>
  if c3.1 = c6.1 then
    BL_law_1271 sl sc rec c6.2 ρ v1 v2 v3
  else
    some ((0 : Int32))
def BL_law_918 (sl : Nat) (sc : Nat → Int32) (rec : Sto → Rho → Nat → Nat → Int32 → Option (Int32)) (σ : Sto) (ρ : Rho) (v1 : Nat) (v2 : Nat) (v3 : Int32) : Option (Int32) :=
  Option.bind (sg sl sc ((v3 + (1 : Int32)))) fun x1 =>
  Option.bind (sg sl sc ((v3 + (2 : Int32)))) fun x2 =>
  Option.bind (MX11_pole σ ρ v1 x1 x2) fun c3 =>
  Option.bind (sg sl sc ((v3 + (1 : Int32)))) fun x4 =>
  Option.bind (sg sl sc ((v3 + (2 : Int32)))) fun x5 =>
  Option.bind (MX12_pole c3.2 ρ v2 x4 x5) fun c6 =>
  if c3.1 = c6.1 then
    BL_law_1271 sl sc rec c6.2 ρ v1 v2 v3
  else
    some ((0 : Int32))
def BL_law_951 (sl : Nat) (sc : Nat → Int32) (rec : Sto → Rho → Nat → Nat → Int32 → Option (Int32)) (σ : Sto) (ρ : Rho) (v1 : Nat) (v2 : Nat) (v3 : Int32) : Option (Int32) :=
  Option.bind (sg sl sc ((v3 + (1 : Int32)))) fun x1 =>
  Option.bind (sg sl sc ((v3 + (2 : Int32)))) fun x2 =>
  Option.bind (MX11_meets σ ρ v1 x1 x2) fun c3 =>
  Option.bind (sg sl sc ((v3 + (1 : Int32)))) fun x4 =>
  Option.bind (sg sl sc ((v3 + (2 : Int32)))) fun x5 =>
  Option.bind (MX12_meets c3.2 ρ v2 x4 x5) fun c6 =>
  if c3.1 = c6.1 then
    BL_law_1271 sl sc rec c6.2 ρ v1 v2 v3
  else
    some ((0 : Int32))
def BL_law_984 (sl : Nat) (sc : Nat → Int32) (rec : Sto → Rho → Nat → Nat → Int32 → Option (Int32)) (σ : Sto) (ρ : Rho) (v1 : Nat) (v2 : Nat) (v3 : Int32) : Option (Int32) :=
  Option.bind (sg sl sc ((v3 + (1 : Int32)))) fun x1 =>
  Option.bind (sg sl sc ((v3 + (2 : Int32)))) fun x2 =>
  Option.bind (sg sl sc ((v3 + (3 : Int32)))) fun x3 =>
  Option.bind (MX11_tangent σ ρ v1 x1 x2 x3) fun c4 =>
  Option.bind (sg sl sc ((v3 + (1 : Int32)))) fun x5 =>
  Option.bind (sg sl sc ((v3 + (2 : Int32)))) fun x6 =>
  Option.bind (sg sl sc ((v3 + (3 : Int32)))) fun x7 =>
  Option.bind (MX12_tangent c4.2 ρ v2 x5 x6 x7) fun c8 =>
  if c4.1 = c8.1 then
    BL_law_1271 sl sc rec c8.2 ρ v1 v2 v3
  else
    some ((0 : Int32))
def BL_law_1027 (sl : Nat) (sc : Nat → Int32) (rec : Sto → Rho → Nat → Nat → Int32 → Option (Int32)) (σ : Sto) (ρ : Rho) (v1 : Nat) (v2 : Nat) (v3 : Int32) : Option (Int32) :=
  Option.bind (sg sl sc ((v3 + (1 : Int32)))) fun x1 =>
  Option.bind (sg sl sc ((v3 + (2 : Int32)))) fun x2 =>
  Option.bind (sg sl sc ((v3 + (3 : Int32)))) fun x3 =>
  Option.bind (MX11_pencil σ ρ v1 x1 x2 x3) fun c4 =>
  Option.bind (sg sl sc ((v3 + (1 : Int32)))) fun x5 =>
  Option.bind (sg sl sc ((v3 + (2 : Int32)))) fun x6 =>
  Option.bind (sg sl sc ((v3 + (3 : Int32)))) fun x7 =>
  Option.bind (MX12_pencil c4.2 ρ v2 x5 x6 x7) fun c8 =>
  if c4.1 = c8.1 then
    BL_law_1271 sl sc rec c8.2 ρ v1 v2 v3
  else
    some ((0 : Int32))
def BL_law_1070 (sl : Nat) (sc : Nat → Int32) (rec : Sto → Rho → Nat → Nat → Int32 → Option (Int32)) (σ : Sto) (ρ : Rho) (v1 : Nat) (v2 : Nat) (v3 : Int32) : Option (Int32) :=
  Option.bind (sg sl sc ((v3 + (1 : Int32)))) fun x1 =>
  Option.bind (sg sl sc ((v3 + (2 : Int32)))) fun x2 =>
  Option.bind (sg sl sc ((v3 + (3 : Int32)))) fun x3 =>
  Option.bind (sg sl sc ((v3 + (4 : Int32)))) fun x4 =>
  Option.bind (MX11_member σ ρ v1 x1 x2 x3 x4) fun c5 =>
  Option.bind (sg sl sc ((v3 + (1 : Int32)))) fun x6 =>
  Option.bind (sg sl sc ((v3 + (2 : Int32)))) fun x7 =>
  Option.bind (sg sl sc ((v3 + (3 : Int32)))) fun x8 =>
  Option.bind (sg sl sc ((v3 + (4 : Int32)))) fun x9 =>
  Option.bind (MX12_member c5.2 ρ v2 x6 x7 x8 x9) fun c10 =>
  if c5.1 = c10.1 then
    BL_law_1271 sl sc rec c10.2 ρ v1 v2 v3
  else
    some ((0 : Int32))
def BL_law_1123 (sl : Nat) (sc : Nat → Int32) (rec : Sto → Rho → Nat → Nat → Int32 → Option (Int32)) (σ : Sto) (ρ : Rho) (v1 : Nat) (v2 : Nat) (v3 : Int32) : Option (Int32) :=
  Option.bind (sg sl sc ((v3 + (1 : Int32)))) fun x1 =>
  Option.bind (sg sl sc ((v3 + (2 : Int32)))) fun x2 =>
  Option.bind (sg sl sc ((v3 + (3 : Int32)))) fun x3 =>
  Option.bind (MX11_passing σ ρ v1 x1 x2 x3) fun c4 =>
  Option.bind (sg sl sc ((v3 + (1 : Int32)))) fun x5 =>
  Option.bind (sg sl sc ((v3 + (2 : Int32)))) fun x6 =>
  Option.bind (sg sl sc ((v3 + (3 : Int32)))) fun x7 =>
  Option.bind (MX12_passing c4.2 ρ v2 x5 x6 x7) fun c8 =>
  if c4.1 = c8.1 then
    BL_law_1271 sl sc rec c8.2 ρ v1 v2 v3
  else
    some ((0 : Int32))
def BL_law_1166 (sl : Nat) (sc : Nat → Int32) (rec : Sto → Rho → Nat → Nat → Int32 → Option (Int32)) (σ : Sto) (ρ : Rho) (v1 : Nat) (v2 : Nat) (v3 : Int32) : Option (Int32) :=
  Option.bind (sg sl sc ((v3 + (1 : Int32)))) fun x1 =>
  Option.bind (MX11_only σ ρ v1 x1) fun c2 =>
  Option.bind (sg sl sc ((v3 + (1 : Int32)))) fun x3 =>
  Option.bind (MX12_only c2.2.1 c2.2.2 v2 x3) fun c4 =>
  if c2.1 = c4.1 then
    BL_law_1271 sl sc rec c4.2 c2.2.2 v1 v2 v3
  else
    some ((0 : Int32))
def BL_law_1189 (sl : Nat) (sc : Nat → Int32) (rec : Sto → Rho → Nat → Nat → Int32 → Option (Int32)) (σ : Sto) (ρ : Rho) (v1 : Nat) (v2 : Nat) (v3 : Int32) : Option (Int32) :=
  Option.bind (sg sl sc ((v3 + (1 : Int32)))) fun x1 =>
  Option.bind (MX11_freed σ ρ v1 x1) fun c2 =>
  Option.bind (sg sl sc ((v3 + (1 : Int32)))) fun x3 =>
  Option.bind (MX12_freed c2.2.1 c2.2.2 v2 x3) fun c4 =>
  if c2.1 = c4.1 then
    BL_law_1271 sl sc rec c4.2 c2.2.2 v1 v2 v3
  else
    some ((0 : Int32))
def BL_law_1212 (sl : Nat) (sc : Nat → Int32) (rec : Sto → Rho → Nat → Nat → Int32 → Option (Int32)) (σ : Sto) (ρ : Rho) (v1 : Nat) (v2 : Nat) (v3 : Int32) : Option (Int32) :=
  Option.bind (MX11_useful σ ρ v1) fun c1 =>
  Option.bind (MX12_useful c1.2.1 c1.2.2 v2) fun c2 =>
  if c1.1 = c2.1 then
    BL_law_1271 sl sc rec c2.2 c1.2.2 v1 v2 v3
  else
    some ((0 : Int32))
def BL_law_1225 (sl : Nat) (sc : Nat → Int32) (rec : Sto → Rho → Nat → Nat → Int32 → Option (Int32)) (σ : Sto) (ρ : Rho) (v1 : Nat) (v2 : Nat) (v3 : Int32) : Option (Int32) :=
  Option.bind (sg sl sc ((v3 + (1 : Int32)))) fun x1 =>
  Option.bind (MX11_image σ ρ v1 x1) fun c2 =>
  Option.bind (sg sl sc ((v3 + (1 : Int32)))) fun x3 =>
  Option.bind (MX12_image c2.2 ρ v2 x3) fun c4 =>
  if c2.1 = c4.1 then
    BL_law_1271 sl sc rec c4.2 ρ v1 v2 v3
  else
    some ((0 : Int32))
def BL_law_1248 (sl : Nat) (sc : Nat → Int32) (rec : Sto → Rho → Nat → Nat → Int32 → Option (Int32)) (σ : Sto) (ρ : Rho) (v1 : Nat) (v2 : Nat) (v3 : Int32) : Option (Int32) :=
  Option.bind (sg sl sc ((v3 + (1 : Int32)))) fun x1 =>
  Option.bind (MX11_again σ ρ v1 x1) fun c2 =>
  Option.bind (sg sl sc ((v3 + (1 : Int32)))) fun x3 =>
  Option.bind (MX12_again c2.2 ρ v2 x3) fun c4 =>
  if c2.1 = c4.1 then
    BL_law_1271 sl sc rec c4.2 ρ v1 v2 v3
  else
    some ((0 : Int32))
def FL_law_18 (sl : Nat) (sc : Nat → Int32) (rec : Sto → Rho → Nat → Nat → Int32 → Option (Int32)) (σ : Sto) (ρ : Rho) (v1 : Nat) (v2 : Nat) (v3 : Int32) : Option (Int32) :=
  if ((Int32.ofNat sl) - (6 : Int32)) < v3 then
    some ((1 : Int32))
  else
    Option.bind (sg sl sc v3) fun x1 =>
    if (x1 &&& (63 : Int32)) = (0 : Int32) then
      BL_law_180 sl sc rec σ ρ v1 v2 v3
    else
    if (x1 &&& (63 : Int32)) = (1 : Int32) then
      BL_law_243 sl sc rec σ ρ v1 v2 v3
    else
    if (x1 &&& (63 : Int32)) = (2 : Int32) then
      BL_law_266 sl sc rec σ ρ v1 v2 v3
    else
    if (x1 &&& (63 : Int32)) = (3 : Int32) then
      BL_law_279 sl sc rec σ ρ v1 v2 v3
    else
    if (x1 &&& (63 : Int32)) = (4 : Int32) then
      BL_law_302 sl sc rec σ ρ v1 v2 v3
    else
    if (x1 &&& (63 : Int32)) = (5 : Int32) then
      BL_law_325 sl sc rec σ ρ v1 v2 v3
    else
    if (x1 &&& (63 : Int32)) = (6 : Int32) then
      BL_law_368 sl sc rec σ ρ v1 v2 v3
    else
    if (x1 &&& (63 : Int32)) = (7 : Int32) then
      BL_law_431 sl sc rec σ ρ v1 v2 v3
    else
    if (x1 &&& (63 : Int32)) = (8 : Int32) then
      BL_law_464 sl sc rec σ ρ v1 v2 v3
    else
    if (x1 &&& (63 : Int32)) = (9 : Int32) then
      BL_law_497 sl sc rec σ ρ v1 v2 v3
    else
    if (x1 &&& (63 : Int32)) = (10 : Int32) then
      BL_law_520 sl sc rec σ ρ v1 v2 v3
    else
    if (x1 &&& (63 : Int32)) = (11 : Int32) then
      BL_law_569 sl sc rec σ ρ v1 v2 v3
    else
    if (x1 &&& (63 : Int32)) = (12 : Int32) then
      BL_law_592 sl sc rec σ ρ v1 v2 v3
    else
    if (x1 &&& (63 : Int32)) = (13 : Int32) then
      BL_law_605 sl sc rec σ ρ v1 v2 v3
    else
    if (x1 &&& (63 : Int32)) = (14 : Int32) then
      BL_law_628 sl sc rec σ ρ v1 v2 v3
    else
    if (x1 &&& (63 : Int32)) = (15 : Int32) then
      BL_law_661 sl sc rec σ ρ v1 v2 v3
    else
    if (x1 &&& (63 : Int32)) = (16 : Int32) then
      BL_law_694 sl sc rec σ ρ v1 v2 v3
    else
    if (x1 &&& (63 : Int32)) = (17 : Int32) then
      BL_law_737 sl sc rec σ ρ v1 v2 v3
    else
    if (x1 &&& (63 : Int32)) = (18 : Int32) then
      BL_law_770 sl sc rec σ ρ v1 v2 v3
    else
    if (x1 &&& (63 : Int32)) = (19 : Int32) then
      BL_law_793 sl sc rec σ ρ v1 v2 v3
    else
    if (x1 &&& (63 : Int32)) = (20 : Int32) then
      BL_law_826 sl sc rec σ ρ v1 v2 v3
    else
    if (x1 &&& (63 : Int32)) = (21 : Int32) then
      BL_law_885 sl sc rec σ ρ v1 v2 v3
    else
    if (x1 &&& (63 : Int32)) = (22 : Int32) then
      BL_law_918 sl sc rec σ ρ v1 v2 v3
    else
    if (x1 &&& (63 : Int32)) = (23 : Int32) then
      BL_law_951 sl sc rec σ ρ v1 v2 v3
    else
    if (x1 &&& (63 : Int32)) = (24 : Int32) then
      BL_law_984 sl sc rec σ ρ v1 v2 v3
    else
    if (x1 &&& (63 : Int32)) = (25 : Int32) then
      BL_law_1027 sl sc rec σ ρ v1 v2 v3
    else
    if (x1 &&& (63 : Int32)) = (26 : Int32) then
      BL_law_1070 sl sc rec σ ρ v1 v2 v3
    else
    if (x1 &&& (63 : Int32)) = (27 : Int32) then
      BL_law_1123 sl sc rec σ ρ v1 v2 v3
    else
    if (x1 &&& (63 : Int32)) = (28 : Int32) then
      BL_law_1166 sl sc rec σ ρ v1 v2 v3
    else
    if (x1 &&& (63 : Int32)) = (29 : Int32) then
      BL_law_1189 sl sc rec σ ρ v1 v2 v3
    else
    if (x1 &&& (63 : Int32)) = (30 : Int32) then
      BL_law_1212 sl sc rec σ ρ v1 v2 v3
    else
    if (x1 &&& (63 : Int32)) = (31 : Int32) then
      BL_law_1225 sl sc rec σ ρ v1 v2 v3
    else
    if (x1 &&& (63 : Int32)) = (32 : Int32) then
      BL_law_1248 sl sc rec σ ρ v1 v2 v3
    else
    BL_law_1271 sl sc rec σ ρ v1 v2 v3
def ML_law (n : Nat) (σ : Sto) (ρ : Rho) (sl : Nat) (sc : Nat → Int32) : Option (Int32) :=
  nw 10 n σ ρ fun σ1 ρ2 =>
  Option.bind (MX11_init (n + 1) σ1 ρ2 n) fun c4 =>
  nw 11 (n + 92) c4.1 c4.2 fun σ5 ρ6 =>
  Option.bind (MX12_init (n + 93) σ5 ρ6 (n + 92)) fun c8 =>
  bn ((0 : Int32)) fun y9 =>
  fixN (fun _ _ _ _ _ => none) (FL_law_18 sl sc) FU c8.1 c8.2 n ((n + 92)) y9
