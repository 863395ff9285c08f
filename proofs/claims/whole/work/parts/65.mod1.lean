/-! THE REFERENCE's small methods -/
theorem bn_eq {α β : Type} (a : α) (f : α → Option β) : bn a f = f a := congrArg (fun x => x) (rfl : bn a f = f a)
theorem ob_some {α β : Type} (a : α) (f : α → Option β) : Option.bind (some a) f = f a := congrArg (fun x => x) (rfl : Option.bind (some a) f = f a)
theorem ob_none {α β : Type} (f : α → Option β) : Option.bind none f = none := congrArg (fun x => x) (rfl : Option.bind none f = none)
theorem zr0 {β : Type} (o : Option β) : zr 0 o = o := congrArg (fun x => x) (rfl : zr 0 o = o)
theorem zr1 {β : Type} (o : Option β) : zr 1 o = o := congrArg (fun x => x) (rfl : zr 1 o = o)
theorem ag_ok {σ : Sto} {k : Nat} {z : Int} (h0 : 0 ≤ z) (h1 : z < ln k) (hl : ln k ≤ 3000) : ag σ k (iI z) = some (σ k z.toNat) := by
  unfold ag
  have hr : rg32 z := ⟨by omega, by omega⟩
  rw [if_neg, iI_cl hr]
  rw [iI_cl hr, show (0 : Int32) = iI 0 from rfl, iI_lt hr ⟨by omega, by omega⟩]
  omega
theorem ag_lit {σ : Sto} {k : Nat} (n : Nat) (h1 : n < ln k) (hl : ln k ≤ 3000) : ag σ k (OfNat.ofNat n : Int32) = some (σ k n) := by
  have e : (OfNat.ofNat n : Int32) = iI (n : Int) := (Int32.ofInt_eq_ofNat (n := n)).symm
  rw [e, ag_ok (by omega) (by omega) hl]
  simp
theorem ap_ok {σ : Sto} {k : Nat} {z : Int} {x : Int32} (h0 : 0 ≤ z) (h1 : z < ln k) (hl : ln k ≤ 3000) : ap σ k (iI z) x = some (su σ k z.toNat x) := by
  unfold ap
  have hr : rg32 z := ⟨by omega, by omega⟩
  rw [if_neg, iI_cl hr]
  rw [iI_cl hr, show (0 : Int32) = iI 0 from rfl, iI_lt hr ⟨by omega, by omega⟩]
  omega
theorem ap_lit {σ : Sto} {k : Nat} {x : Int32} (n : Nat) (h1 : n < ln k) (hl : ln k ≤ 3000) : ap σ k (OfNat.ofNat n : Int32) x = some (su σ k n x) := by
  have e : (OfNat.ofNat n : Int32) = iI (n : Int) := (Int32.ofInt_eq_ofNat (n := n)).symm
  rw [e, ap_ok (by omega) (by omega) hl]
  simp
theorem ln93 : ln 93 = 2115 := by decide +kernel
theorem ln94 : ln 94 = 500 := by decide +kernel
theorem ln95 : ln 95 = 3 := by decide +kernel
theorem ln96 : ln 96 = 6 := by decide +kernel
theorem ln97 : ln 97 = 48 := by decide +kernel
theorem ln98 : ln 98 = 6 := by decide +kernel
theorem ln99 : ln 99 = 6 := by decide +kernel
theorem ag93 {σ : Sto} (n : Nat) (h : n < 2115) : ag σ 93 (OfNat.ofNat n : Int32) = some (σ 93 n) := ag_lit n (by rw [ln93]; exact h) (by rw [ln93]; decide)
theorem ap93 {σ : Sto} {x : Int32} (n : Nat) (h : n < 2115) : ap σ 93 (OfNat.ofNat n : Int32) x = some (su σ 93 n x) := ap_lit n (by rw [ln93]; exact h) (by rw [ln93]; decide)
theorem ag93i {σ : Sto} {z : Int} (h0 : 0 ≤ z) (h1 : z < 2115) : ag σ 93 (iI z) = some (σ 93 z.toNat) := ag_ok h0 (by rw [ln93]; exact h1) (by rw [ln93]; decide)
theorem ap93i {σ : Sto} {z : Int} {x : Int32} (h0 : 0 ≤ z) (h1 : z < 2115) : ap σ 93 (iI z) x = some (su σ 93 z.toNat x) := ap_ok h0 (by rw [ln93]; exact h1) (by rw [ln93]; decide)
theorem ag94 {σ : Sto} (n : Nat) (h : n < 500) : ag σ 94 (OfNat.ofNat n : Int32) = some (σ 94 n) := ag_lit n (by rw [ln94]; exact h) (by rw [ln94]; decide)
theorem ap94 {σ : Sto} {x : Int32} (n : Nat) (h : n < 500) : ap σ 94 (OfNat.ofNat n : Int32) x = some (su σ 94 n x) := ap_lit n (by rw [ln94]; exact h) (by rw [ln94]; decide)
theorem ag94i {σ : Sto} {z : Int} (h0 : 0 ≤ z) (h1 : z < 500) : ag σ 94 (iI z) = some (σ 94 z.toNat) := ag_ok h0 (by rw [ln94]; exact h1) (by rw [ln94]; decide)
theorem ap94i {σ : Sto} {z : Int} {x : Int32} (h0 : 0 ≤ z) (h1 : z < 500) : ap σ 94 (iI z) x = some (su σ 94 z.toNat x) := ap_ok h0 (by rw [ln94]; exact h1) (by rw [ln94]; decide)
theorem ag95 {σ : Sto} (n : Nat) (h : n < 3) : ag σ 95 (OfNat.ofNat n : Int32) = some (σ 95 n) := ag_lit n (by rw [ln95]; exact h) (by rw [ln95]; decide)
theorem ap95 {σ : Sto} {x : Int32} (n : Nat) (h : n < 3) : ap σ 95 (OfNat.ofNat n : Int32) x = some (su σ 95 n x) := ap_lit n (by rw [ln95]; exact h) (by rw [ln95]; decide)
theorem ag95i {σ : Sto} {z : Int} (h0 : 0 ≤ z) (h1 : z < 3) : ag σ 95 (iI z) = some (σ 95 z.toNat) := ag_ok h0 (by rw [ln95]; exact h1) (by rw [ln95]; decide)
theorem ap95i {σ : Sto} {z : Int} {x : Int32} (h0 : 0 ≤ z) (h1 : z < 3) : ap σ 95 (iI z) x = some (su σ 95 z.toNat x) := ap_ok h0 (by rw [ln95]; exact h1) (by rw [ln95]; decide)
theorem ag96 {σ : Sto} (n : Nat) (h : n < 6) : ag σ 96 (OfNat.ofNat n : Int32) = some (σ 96 n) := ag_lit n (by rw [ln96]; exact h) (by rw [ln96]; decide)
theorem ap96 {σ : Sto} {x : Int32} (n : Nat) (h : n < 6) : ap σ 96 (OfNat.ofNat n : Int32) x = some (su σ 96 n x) := ap_lit n (by rw [ln96]; exact h) (by rw [ln96]; decide)
theorem ag96i {σ : Sto} {z : Int} (h0 : 0 ≤ z) (h1 : z < 6) : ag σ 96 (iI z) = some (σ 96 z.toNat) := ag_ok h0 (by rw [ln96]; exact h1) (by rw [ln96]; decide)
theorem ap96i {σ : Sto} {z : Int} {x : Int32} (h0 : 0 ≤ z) (h1 : z < 6) : ap σ 96 (iI z) x = some (su σ 96 z.toNat x) := ap_ok h0 (by rw [ln96]; exact h1) (by rw [ln96]; decide)
theorem ag97 {σ : Sto} (n : Nat) (h : n < 48) : ag σ 97 (OfNat.ofNat n : Int32) = some (σ 97 n) := ag_lit n (by rw [ln97]; exact h) (by rw [ln97]; decide)
theorem ap97 {σ : Sto} {x : Int32} (n : Nat) (h : n < 48) : ap σ 97 (OfNat.ofNat n : Int32) x = some (su σ 97 n x) := ap_lit n (by rw [ln97]; exact h) (by rw [ln97]; decide)
theorem ag97i {σ : Sto} {z : Int} (h0 : 0 ≤ z) (h1 : z < 48) : ag σ 97 (iI z) = some (σ 97 z.toNat) := ag_ok h0 (by rw [ln97]; exact h1) (by rw [ln97]; decide)
theorem ap97i {σ : Sto} {z : Int} {x : Int32} (h0 : 0 ≤ z) (h1 : z < 48) : ap σ 97 (iI z) x = some (su σ 97 z.toNat x) := ap_ok h0 (by rw [ln97]; exact h1) (by rw [ln97]; decide)
theorem ag98 {σ : Sto} (n : Nat) (h : n < 6) : ag σ 98 (OfNat.ofNat n : Int32) = some (σ 98 n) := ag_lit n (by rw [ln98]; exact h) (by rw [ln98]; decide)
theorem ap98 {σ : Sto} {x : Int32} (n : Nat) (h : n < 6) : ap σ 98 (OfNat.ofNat n : Int32) x = some (su σ 98 n x) := ap_lit n (by rw [ln98]; exact h) (by rw [ln98]; decide)
theorem ag98i {σ : Sto} {z : Int} (h0 : 0 ≤ z) (h1 : z < 6) : ag σ 98 (iI z) = some (σ 98 z.toNat) := ag_ok h0 (by rw [ln98]; exact h1) (by rw [ln98]; decide)
theorem ap98i {σ : Sto} {z : Int} {x : Int32} (h0 : 0 ≤ z) (h1 : z < 6) : ap σ 98 (iI z) x = some (su σ 98 z.toNat x) := ap_ok h0 (by rw [ln98]; exact h1) (by rw [ln98]; decide)
theorem ag99 {σ : Sto} (n : Nat) (h : n < 6) : ag σ 99 (OfNat.ofNat n : Int32) = some (σ 99 n) := ag_lit n (by rw [ln99]; exact h) (by rw [ln99]; decide)
theorem ap99 {σ : Sto} {x : Int32} (n : Nat) (h : n < 6) : ap σ 99 (OfNat.ofNat n : Int32) x = some (su σ 99 n x) := ap_lit n (by rw [ln99]; exact h) (by rw [ln99]; decide)
theorem ag99i {σ : Sto} {z : Int} (h0 : 0 ≤ z) (h1 : z < 6) : ag σ 99 (iI z) = some (σ 99 z.toNat) := ag_ok h0 (by rw [ln99]; exact h1) (by rw [ln99]; decide)
theorem ap99i {σ : Sto} {z : Int} {x : Int32} (h0 : 0 ≤ z) (h1 : z < 6) : ap σ 99 (iI z) x = some (su σ 99 z.toNat x) := ap_ok h0 (by rw [ln99]; exact h1) (by rw [ln99]; decide)
theorem oag96_0 {β : Type} {σ : Sto} {f : Int32 → Option β} : Option.bind (ag σ 96 (0 : Int32)) f = f (σ 96 0) := by rw [ag96 0 (by decide)]; rfl
theorem oap96_0 {β : Type} {σ : Sto} {x : Int32} {f : Sto → Option β} : Option.bind (ap σ 96 (0 : Int32) x) f = f (su σ 96 0 x) := by rw [ap96 0 (by decide)]; rfl
theorem oag96_1 {β : Type} {σ : Sto} {f : Int32 → Option β} : Option.bind (ag σ 96 (1 : Int32)) f = f (σ 96 1) := by rw [ag96 1 (by decide)]; rfl
theorem oap96_1 {β : Type} {σ : Sto} {x : Int32} {f : Sto → Option β} : Option.bind (ap σ 96 (1 : Int32) x) f = f (su σ 96 1 x) := by rw [ap96 1 (by decide)]; rfl
theorem oag96_2 {β : Type} {σ : Sto} {f : Int32 → Option β} : Option.bind (ag σ 96 (2 : Int32)) f = f (σ 96 2) := by rw [ag96 2 (by decide)]; rfl
theorem oap96_2 {β : Type} {σ : Sto} {x : Int32} {f : Sto → Option β} : Option.bind (ap σ 96 (2 : Int32) x) f = f (su σ 96 2 x) := by rw [ap96 2 (by decide)]; rfl
theorem oag96_3 {β : Type} {σ : Sto} {f : Int32 → Option β} : Option.bind (ag σ 96 (3 : Int32)) f = f (σ 96 3) := by rw [ag96 3 (by decide)]; rfl
theorem oap96_3 {β : Type} {σ : Sto} {x : Int32} {f : Sto → Option β} : Option.bind (ap σ 96 (3 : Int32) x) f = f (su σ 96 3 x) := by rw [ap96 3 (by decide)]; rfl
theorem oag96_4 {β : Type} {σ : Sto} {f : Int32 → Option β} : Option.bind (ag σ 96 (4 : Int32)) f = f (σ 96 4) := by rw [ag96 4 (by decide)]; rfl
theorem oap96_4 {β : Type} {σ : Sto} {x : Int32} {f : Sto → Option β} : Option.bind (ap σ 96 (4 : Int32) x) f = f (su σ 96 4 x) := by rw [ap96 4 (by decide)]; rfl
theorem oag96_5 {β : Type} {σ : Sto} {f : Int32 → Option β} : Option.bind (ag σ 96 (5 : Int32)) f = f (σ 96 5) := by rw [ag96 5 (by decide)]; rfl
theorem oap96_5 {β : Type} {σ : Sto} {x : Int32} {f : Sto → Option β} : Option.bind (ap σ 96 (5 : Int32) x) f = f (su σ 96 5 x) := by rw [ap96 5 (by decide)]; rfl
theorem oag98_0 {β : Type} {σ : Sto} {f : Int32 → Option β} : Option.bind (ag σ 98 (0 : Int32)) f = f (σ 98 0) := by rw [ag98 0 (by decide)]; rfl
theorem oap98_0 {β : Type} {σ : Sto} {x : Int32} {f : Sto → Option β} : Option.bind (ap σ 98 (0 : Int32) x) f = f (su σ 98 0 x) := by rw [ap98 0 (by decide)]; rfl
theorem oag98_1 {β : Type} {σ : Sto} {f : Int32 → Option β} : Option.bind (ag σ 98 (1 : Int32)) f = f (σ 98 1) := by rw [ag98 1 (by decide)]; rfl
theorem oap98_1 {β : Type} {σ : Sto} {x : Int32} {f : Sto → Option β} : Option.bind (ap σ 98 (1 : Int32) x) f = f (su σ 98 1 x) := by rw [ap98 1 (by decide)]; rfl
theorem oag98_2 {β : Type} {σ : Sto} {f : Int32 → Option β} : Option.bind (ag σ 98 (2 : Int32)) f = f (σ 98 2) := by rw [ag98 2 (by decide)]; rfl
theorem oap98_2 {β : Type} {σ : Sto} {x : Int32} {f : Sto → Option β} : Option.bind (ap σ 98 (2 : Int32) x) f = f (su σ 98 2 x) := by rw [ap98 2 (by decide)]; rfl
theorem oag98_3 {β : Type} {σ : Sto} {f : Int32 → Option β} : Option.bind (ag σ 98 (3 : Int32)) f = f (σ 98 3) := by rw [ag98 3 (by decide)]; rfl
theorem oap98_3 {β : Type} {σ : Sto} {x : Int32} {f : Sto → Option β} : Option.bind (ap σ 98 (3 : Int32) x) f = f (su σ 98 3 x) := by rw [ap98 3 (by decide)]; rfl
theorem oag98_4 {β : Type} {σ : Sto} {f : Int32 → Option β} : Option.bind (ag σ 98 (4 : Int32)) f = f (σ 98 4) := by rw [ag98 4 (by decide)]; rfl
theorem oap98_4 {β : Type} {σ : Sto} {x : Int32} {f : Sto → Option β} : Option.bind (ap σ 98 (4 : Int32) x) f = f (su σ 98 4 x) := by rw [ap98 4 (by decide)]; rfl
theorem oag98_5 {β : Type} {σ : Sto} {f : Int32 → Option β} : Option.bind (ag σ 98 (5 : Int32)) f = f (σ 98 5) := by rw [ag98 5 (by decide)]; rfl
theorem oap98_5 {β : Type} {σ : Sto} {x : Int32} {f : Sto → Option β} : Option.bind (ap σ 98 (5 : Int32) x) f = f (su σ 98 5 x) := by rw [ap98 5 (by decide)]; rfl
theorem oag99_0 {β : Type} {σ : Sto} {f : Int32 → Option β} : Option.bind (ag σ 99 (0 : Int32)) f = f (σ 99 0) := by rw [ag99 0 (by decide)]; rfl
theorem oap99_0 {β : Type} {σ : Sto} {x : Int32} {f : Sto → Option β} : Option.bind (ap σ 99 (0 : Int32) x) f = f (su σ 99 0 x) := by rw [ap99 0 (by decide)]; rfl
theorem oag99_1 {β : Type} {σ : Sto} {f : Int32 → Option β} : Option.bind (ag σ 99 (1 : Int32)) f = f (σ 99 1) := by rw [ag99 1 (by decide)]; rfl
theorem oap99_1 {β : Type} {σ : Sto} {x : Int32} {f : Sto → Option β} : Option.bind (ap σ 99 (1 : Int32) x) f = f (su σ 99 1 x) := by rw [ap99 1 (by decide)]; rfl
theorem oag99_2 {β : Type} {σ : Sto} {f : Int32 → Option β} : Option.bind (ag σ 99 (2 : Int32)) f = f (σ 99 2) := by rw [ag99 2 (by decide)]; rfl
theorem oap99_2 {β : Type} {σ : Sto} {x : Int32} {f : Sto → Option β} : Option.bind (ap σ 99 (2 : Int32) x) f = f (su σ 99 2 x) := by rw [ap99 2 (by decide)]; rfl
theorem oag99_3 {β : Type} {σ : Sto} {f : Int32 → Option β} : Option.bind (ag σ 99 (3 : Int32)) f = f (σ 99 3) := by rw [ag99 3 (by decide)]; rfl
theorem oap99_3 {β : Type} {σ : Sto} {x : Int32} {f : Sto → Option β} : Option.bind (ap σ 99 (3 : Int32) x) f = f (su σ 99 3 x) := by rw [ap99 3 (by decide)]; rfl
theorem oag99_4 {β : Type} {σ : Sto} {f : Int32 → Option β} : Option.bind (ag σ 99 (4 : Int32)) f = f (σ 99 4) := by rw [ag99 4 (by decide)]; rfl
theorem oap99_4 {β : Type} {σ : Sto} {x : Int32} {f : Sto → Option β} : Option.bind (ap σ 99 (4 : Int32) x) f = f (su σ 99 4 x) := by rw [ap99 4 (by decide)]; rfl
theorem oag99_5 {β : Type} {σ : Sto} {f : Int32 → Option β} : Option.bind (ag σ 99 (5 : Int32)) f = f (σ 99 5) := by rw [ag99 5 (by decide)]; rfl
theorem oap99_5 {β : Type} {σ : Sto} {x : Int32} {f : Sto → Option β} : Option.bind (ap σ 99 (5 : Int32) x) f = f (su σ 99 5 x) := by rw [ap99 5 (by decide)]; rfl
/-- where the reference's arrays lie -/
def Md (ρ : Rho) : Prop := ρ 92 0 = some 93 ∧ ρ 92 1 = some 94 ∧ ρ 92 2 = some 95 ∧ ρ 92 11 = some 96 ∧ ρ 92 12 = some 97 ∧ ρ 92 13 = some 98 ∧ ρ 92 19 = some 99
/-- points and lines by their numbers -/
def cX (p n : Nat) : Int := if n < p * p then 1 else 0
def cY (p n : Nat) : Int := if n < p * p then ((n / p : Nat) : Int) else if n < p * p + p then 1 else 0
def cZ (p n : Nat) : Int := if n < p * p then ((n % p : Nat) : Int) else if n < p * p + p then ((n - p * p : Nat) : Int) else 1
def NP (p : Nat) : Nat := p * p + p + 1
theorem cX_bd {p n : Nat} : 0 ≤ cX p n ∧ cX p n ≤ 1 := by unfold cX; split <;> omega
theorem cY_bd {p n : Nat} (hp : 1 < p) : 0 ≤ cY p n ∧ cY p n < p := by
  unfold cY
  split
  · rename_i h
    have h1 : n / p < p := Nat.div_lt_of_lt_mul h
    generalize n / p = d at h1
    omega
  · split <;> omega
theorem cZ_bd {p n : Nat} (hp : 1 < p) : 0 ≤ cZ p n ∧ cZ p n < p := by
  unfold cZ
  split
  · have : n % p < p := Nat.mod_lt _ (by omega)
    omega
  · split <;> omega
def lp (σ : Sto) (x y z : Int) : Sto := su (su (su σ 92 8 (iI x)) 92 9 (iI y)) 92 10 (iI z)
theorem PR.sq {p : Nat} (h : PR p) : p * p ≤ 529 ∧ 9 ≤ p * p := by
  unfold PR at h
  rcases h with h | h | h | h | h | h | h | h <;> subst h <;> decide
theorem m_laysPlace {σ : Sto} {p n : Nat} (hp : PR p) (h7 : σ 92 7 = iI p) (hn : n < NP p) : MX12_laysPlace σ 92 (iI n) = some (lp σ (cX p n) (cY p n) (cZ p n)) := by
  obtain ⟨hp3, hp23⟩ := hp.le
  obtain ⟨hq, hq9⟩ := hp.sq
  have hrn : rg32 (n : Int) := by unfold NP at hn; exact ⟨by omega, by omega⟩
  have hrp : rg32 (p : Int) := ⟨by omega, by omega⟩
  have e1 : ((p : Int) * (p : Int)) = ((p * p : Nat) : Int) := by push_cast; rfl
  have hrq : rg32 ((p : Int) * (p : Int)) := by rw [e1]; exact ⟨by omega, by omega⟩
  have hrq2 : rg32 ((p : Int) * (p : Int) + p) := by rw [e1]; exact ⟨by omega, by omega⟩
  have hd : dvi (iI n) (iI p) = some (iI ((n / p : Nat) : Int)) := by
    rw [dvi_iI hrn hrp (by omega), Int.tdiv_eq_ediv_of_nonneg (by omega)]; rfl
  have hm : rmi (iI n) (iI p) = some (iI ((n % p : Nat) : Int)) := by
    rw [rmi_iI hrn hrp (by omega), Int.tmod_eq_emod_of_nonneg (by omega)]; rfl
  unfold MX12_laysPlace BX12_laysPlace_19 BX12_laysPlace_68 BX12_laysPlace_127 lp cX cY cZ
  simp only [bn_eq, h7, iI_mul, iI_add, iI_sub, iI_le hrq hrn, iI_le hrq2 hrn]
  by_cases c1 : n < p * p
  · have c2 : ¬ ((p : Int) * p ≤ n) := by rw [e1]; omega
    simp [c1, c2, su, h7, hd, hm, ob_some, iI_mul, iI_le hrq hrn, iI_lit]
  · have c2 : ((p : Int) * p ≤ n) := by rw [e1]; omega
    by_cases c3 : n < p * p + p
    · have c4 : ¬ ((p : Int) * p + p ≤ n) := by rw [e1]; omega
      have c5 : ((n - p * p : Nat) : Int) = (n : Int) - p * p := by rw [e1]; omega
      simp [c1, c2, c3, c4, c5, su, h7, hd, hm, ob_some, iI_mul, iI_add, iI_sub, iI_le hrq hrn, iI_le hrq2 hrn, iI_lit]
    · have c4 : ((p : Int) * p + p ≤ n) := by rw [e1]; omega
      simp [c1, c2, c3, c4, su, h7, hd, hm, ob_some, iI_mul, iI_add, iI_le hrq hrn, iI_le hrq2 hrn, iI_lit]
theorem m_rest {σ : Sto} {p : Nat} {v : Int} (hp : PR p) (h7 : σ 92 7 = iI p) (hv : rg32 v) : MX12_rest σ 92 (iI v) = some (iI (v % p)) := by
  obtain ⟨hp3, hp23⟩ := hp.le
  have hrp : rg32 (p : Int) := ⟨by omega, by omega⟩
  have h1 : -(p : Int) < v.tmod p := Int.lt_tmod_of_pos v (by omega)
  have h2 : v.tmod p < (p : Int) := Int.tmod_lt_of_pos v (by omega)
  unfold MX12_rest
  rw [h7, rmi_iI hv hrp (by omega), ob_some, iI_add, rmi_iI ⟨by omega, by omega⟩ hrp (by omega), ob_some, rest_math (by omega)]
/-- the inverse -/
def iv (p v : Nat) : Nat := ((List.range p).find? (fun k => v * k % p == 1)).getD 0
theorem iv_ok {p v : Nat} (hp : PR p) (h1 : 1 ≤ v) (h2 : v < p) : 1 ≤ iv p v ∧ iv p v < p ∧ v * iv p v % p = 1 ∧ ∀ j, j < iv p v → v * j % p ≠ 1 := by
  have key : ∀ p ∈ [3, 5, 7, 11, 13, 17, 19, 23], ∀ v, v < p → 1 ≤ v → 1 ≤ iv p v ∧ iv p v < p ∧ v * iv p v % p = 1 ∧ ∀ j, j < iv p v → v * j % p ≠ 1 := by decide +kernel
  exact key p (by unfold PR at hp; simp; exact hp) v h2 h1
theorem fix_run {γ : Type} {bt : γ} {F : γ → γ} {Q : Nat → γ → Prop} (h0 : ∀ r, Q 0 (F r)) (hs : ∀ d r, Q d r → Q (d + 1) (F r)) : ∀ d fuel, d < fuel → Q d (fixN bt F fuel)
  | 0, fuel + 1, _ => h0 _
  | d + 1, fuel + 1, h => hs d _ (fix_run h0 hs d fuel (by omega))
theorem m_inverse {σ : Sto} {p v : Nat} (hp : PR p) (h7 : σ 92 7 = iI p) (h1 : 1 ≤ v) (h2 : v < p) : MX12_inverse σ 92 (iI v) = some (iI (iv p v)) := by
  obtain ⟨hp3, hp23⟩ := hp.le
  have hrp : rg32 (p : Int) := ⟨by omega, by omega⟩
  obtain ⟨k1, k2, k3, k4⟩ := iv_ok hp h1 h2
  generalize hK : iv p v = K at *
  unfold MX12_inverse
  rw [bn_eq]
  have key : ∀ d fuel, d < fuel → ∀ k : Nat, 1 ≤ k → k + d = K → fixN (fun _ => none) (FX12_inverse_2 σ 92 (iI v)) fuel (iI k) = some (iI K) := by
    refine fix_run (Q := fun d (r : Int32 → Option Int32) => ∀ k : Nat, 1 ≤ k → k + d = K → r (iI k) = some (iI K)) ?_ ?_
    · intro r k hk1 hk
      have hkK : k = K := by omega
      subst hkK
      have e : ((v : Int) * (k : Int)) = ((v * k : Nat) : Int) := by push_cast; rfl
      have hb : v * k ≤ 23 * 23 := Nat.mul_le_mul (by omega) (by omega)
      unfold FX12_inverse_2
      rw [h7, iI_mul, e, rmi_iI ⟨by omega, by omega⟩ hrp (by omega), ob_some, Int.tmod_eq_emod_of_nonneg (by omega), ← Int.natCast_emod, k3, if_pos (by rfl)]
    · intro d r hr k hk1 hk
      have e : ((v : Int) * (k : Int)) = ((v * k : Nat) : Int) := by push_cast; rfl
      have hb : v * k ≤ 23 * 23 := Nat.mul_le_mul (by omega) (by omega)
      have hne := k4 k (by omega)
      have hlt : v * k % p < p := Nat.mod_lt _ (by omega)
      unfold FX12_inverse_2
      rw [h7, iI_mul, e, rmi_iI ⟨by omega, by omega⟩ hrp (by omega), ob_some, Int.tmod_eq_emod_of_nonneg (by omega), ← Int.natCast_emod, if_neg, bn_eq]
      · have := hr (k + 1) (by omega) (by omega)
        rw [← this, show (1 : Int32) = iI 1 from rfl, iI_add]
        congr 2
      · rw [show (1 : Int32) = iI ((1 : Nat) : Int) from rfl, iI_eq ⟨by omega, by omega⟩ ⟨by omega, by omega⟩]
        omega
  exact key (K - 1) FU (by unfold FU; omega) 1 (by omega) (by omega)
def nb (p : Nat) (x y z : Int) : Int :=
  if x % p = 0 then
    if y % p = 0 then
      if z % p = 0 then -1 else p * p + p
    else p * p + z % p * iv p (y % p).toNat % p
  else p * (y % p * iv p (x % p).toNat % p) + z % p * iv p (x % p).toNat % p
theorem emod_nn {x : Int} {p : Nat} (hp : 0 < p) : 0 ≤ x % p ∧ x % p < p := ⟨Int.emod_nonneg _ (by omega), Int.emod_lt_of_pos _ (by omega)⟩
theorem m_numberOf {σ : Sto} {p : Nat} {x y z : Int} (hp : PR p) (h7 : σ 92 7 = iI p) (hx : rg32 x) (hy : rg32 y) (hz : rg32 z) : MX12_numberOf σ 92 (iI x) (iI y) (iI z) = some (iI (nb p x y z)) := by
  obtain ⟨hp3, hp23⟩ := hp.le
  obtain ⟨hq, hq9⟩ := hp.sq
  have hrp : rg32 (p : Int) := ⟨by omega, by omega⟩
  have e1 : ((p : Int) * (p : Int)) = ((p * p : Nat) : Int) := by push_cast; rfl
  obtain ⟨u1, u2⟩ := emod_nn (x := x) (p := p) (by omega)
  obtain ⟨v1, v2⟩ := emod_nn (x := y) (p := p) (by omega)
  obtain ⟨w1, w2⟩ := emod_nn (x := z) (p := p) (by omega)
  have r0 : rg32 0 := ⟨by omega, by omega⟩
  have z0 : (0 : Int32) = iI 0 := rfl
  have inv : ∀ u : Int, 0 ≤ u → u < p → u ≠ 0 → MX12_inverse σ 92 (iI u) = some (iI (iv p u.toNat)) ∧ 0 ≤ (iv p u.toNat : Int) ∧ (iv p u.toNat : Int) < p := by
    intro u hu1 hu2 hu3
    have h1 := m_inverse (v := u.toNat) hp h7 (by omega) (by omega)
    have h2 := iv_ok (v := u.toNat) hp (by omega) (by omega)
    rw [show ((u.toNat : Nat) : Int) = u by omega] at h1
    exact ⟨h1, by omega, by omega⟩
  have mulr : ∀ a b : Int, 0 ≤ a → a < p → 0 ≤ b → b < p → rmi (iI a * iI b) (iI p) = some (iI (a * b % p)) := by
    intro a b a1 a2 b1 b2
    have hb := bd_mul (a := a) (b := b) (A := 23) (B := 23) ⟨by omega, by omega⟩ ⟨by omega, by omega⟩
    rw [iI_mul, rmi_iI (bd_rg hb (by decide)) hrp (by omega), Int.tmod_eq_emod_of_nonneg (Int.mul_nonneg a1 b1)]
  unfold MX12_numberOf nb
  simp only [m_rest hp h7 hx, m_rest hp h7 hy, m_rest hp h7 hz, ob_some, bn_eq]
  simp only [z0, iI_eq (bd_rg (bd_of (B := 23) u1 (by omega)) (by decide)) r0, iI_eq (bd_rg (bd_of (B := 23) v1 (by omega)) (by decide)) r0, iI_eq (bd_rg (bd_of (B := 23) w1 (by omega)) (by decide)) r0, h7]
  by_cases c1 : x % p = 0
  · rw [if_pos c1, if_pos c1]
    by_cases c2 : y % p = 0
    · rw [if_pos c2, if_pos c2]
      by_cases c3 : z % p = 0
      · rw [if_pos c3, if_pos c3]; rfl
      · rw [if_neg c3, if_neg c3, iI_mul, iI_add]
    · obtain ⟨i1, i2, i3⟩ := inv _ v1 v2 c2
      rw [if_neg c2, if_neg c2, i1, ob_some, mulr _ _ w1 w2 i2 i3, ob_some, iI_mul, iI_add]
  · obtain ⟨i1, i2, i3⟩ := inv _ u1 u2 c1
    rw [if_neg c1, if_neg c1, i1, ob_some, mulr _ _ v1 v2 i2 i3, ob_some, ob_some, mulr _ _ w1 w2 i2 i3, ob_some, iI_mul, iI_add]
theorem lp_7 {σ x y z} : lp σ x y z 92 7 = σ 92 7 := by simp [lp, su]
theorem lp_8 {σ x y z} : lp σ x y z 92 8 = iI x := by simp [lp, su]
theorem lp_9 {σ x y z} : lp σ x y z 92 9 = iI y := by simp [lp, su]
theorem lp_10 {σ x y z} : lp σ x y z 92 10 = iI z := by simp [lp, su]
theorem lp_k {σ x y z k i} (h : k ≠ 92) : lp σ x y z k i = σ k i := by simp [lp, su, h]
theorem lp_i {σ x y z i} (h : i < 8 ∨ 10 < i) : lp σ x y z 92 i = σ 92 i := by
  have h1 : ¬ i = 8 := by omega
  have h2 : ¬ i = 9 := by omega
  have h3 : ¬ i = 10 := by omega
  simp [lp, su, h1, h2, h3]
theorem lp_lp {σ x y z x' y' z'} : lp (lp σ x y z) x' y' z' = lp σ x' y' z' := by
  funext k i
  by_cases hk : k = 92
  · subst hk
    by_cases h : i < 8 ∨ 10 < i
    · rw [lp_i h, lp_i h, lp_i h]
    · have h3 : i = 8 ∨ i = 9 ∨ i = 10 := by omega
      rcases h3 with h | h | h <;> subst h
      · rw [lp_8, lp_8]
      · rw [lp_9, lp_9]
      · rw [lp_10, lp_10]
  · rw [lp_k hk, lp_k hk, lp_k hk]
/-- lines and points -/
def lnv (p : Nat) (u v w x y z : Int) : Int := (u * x + v * y + w * z) % p
theorem m_isOnLine {σ : Sto} {p n k : Nat} (hp : PR p) (h7 : σ 92 7 = iI p) (hn : n < NP p) (hk : k < NP p) : MX12_isOnLine σ 92 (iI n) (iI k) = some (if lnv p (cX p k) (cY p k) (cZ p k) (cX p n) (cY p n) (cZ p n) = 0 then 1 else 0, lp σ (cX p n) (cY p n) (cZ p n)) := by
  obtain ⟨hp3, hp23⟩ := hp.le
  have hrp : rg32 (p : Int) := ⟨by omega, by omega⟩
  have b1 := cX_bd (p := p) (n := n)
  have b2 := cY_bd (p := p) (n := n) (by omega)
  have b3 := cZ_bd (p := p) (n := n) (by omega)
  have b4 := cX_bd (p := p) (n := k)
  have b5 := cY_bd (p := p) (n := k) (by omega)
  have b6 := cZ_bd (p := p) (n := k) (by omega)
  unfold MX12_isOnLine
  rw [m_laysPlace hp h7 hk, ob_some, bn_eq, bn_eq, bn_eq, m_laysPlace hp (by rw [lp_7, h7]) hn, ob_some, lp_lp]
  simp only [lp_7, lp_8, lp_9, lp_10, h7, iI_mul, iI_add]
  generalize cX p n = x at *
  generalize cY p n = y at *
  generalize cZ p n = z at *
  generalize cX p k = u at *
  generalize cY p k = v at *
  generalize cZ p k = w at *
  have n1 : 0 ≤ u * x + v * y + w * z := by
    have := Int.mul_nonneg b4.1 b1.1
    have := Int.mul_nonneg b5.1 b2.1
    have := Int.mul_nonneg b6.1 b3.1
    omega
  have B : ∀ t : Int, 0 ≤ t → t ≤ 23 → bd t 23 := fun t h1 h2 => ⟨by omega, h2⟩
  have hb : rg32 (u * x + v * y + w * z) := bd_rg (bd_add (bd_add (bd_mul (B u b4.1 (by omega)) (B x b1.1 (by omega))) (bd_mul (B v b5.1 (by omega)) (B y b2.1 (by omega)))) (bd_mul (B w b6.1 (by omega)) (B z b3.1 (by omega)))) (by decide)
  rw [rmi_iI hb hrp (by omega), ob_some, Int.tmod_eq_emod_of_nonneg n1]
  have e := emod_nn (x := u * x + v * y + w * z) (p := p) (by omega)
  unfold lnv
  by_cases c : (u * x + v * y + w * z) % p = 0
  · rw [if_pos (by rw [c]; rfl), if_pos c, zr1]
  · rw [if_neg (by rw [show (0 : Int32) = iI 0 from rfl, iI_eq ⟨by omega, by omega⟩ ⟨by omega, by omega⟩]; exact c), if_neg c, zr0]
/-- the conic that is laid -/
def Mm (σ : Sto) (p : Nat) (m : Nat → Int) : Prop := σ 92 7 = iI p ∧ (∀ i, i < 6 → σ 96 i = iI (m i)) ∧ ∀ i, i < 6 → 0 ≤ m i ∧ m i < p
def qv (m : Nat → Int) (x y z : Int) : Int := m 0 * x * x + m 1 * y * y + m 2 * z * z + m 3 * y * z + m 4 * z * x + m 5 * x * y
theorem Mm_lp {σ p m x y z} (h : Mm σ p m) : Mm (lp σ x y z) p m := ⟨by rw [lp_7]; exact h.1, fun i hi => by rw [lp_k (by decide)]; exact h.2.1 i hi, h.2.2⟩
theorem m_isOn {σ : Sto} {ρ : Rho} {p n : Nat} {m : Nat → Int} (hρ : Md ρ) (hp : PR p) (hm : Mm σ p m) (hn : n < NP p) : MX12_isOn σ ρ 92 (iI n) = some (if qv m (cX p n) (cY p n) (cZ p n) % p = 0 then 1 else 0, lp σ (cX p n) (cY p n) (cZ p n)) := by
  obtain ⟨hp3, hp23⟩ := hp.le
  have hrp : rg32 (p : Int) := ⟨by omega, by omega⟩
  have b1 := cX_bd (p := p) (n := n)
  have b2 := cY_bd (p := p) (n := n) (by omega)
  have b3 := cZ_bd (p := p) (n := n) (by omega)
  have hv := (Mm_lp (x := cX p n) (y := cY p n) (z := cZ p n) hm).2.1
  obtain ⟨h7, -, hb⟩ := hm
  unfold MX12_isOn
  rw [m_laysPlace hp h7 hn, ob_some]
  rw [hρ.2.2.2.1]
  simp only [↓ob_some, ↓oag96_0, ↓oag96_1, ↓oag96_2, ↓oag96_3, ↓oag96_4, ↓oag96_5]
  simp only [lp_7, lp_8, lp_9, lp_10, h7, hv 0 (by decide), hv 1 (by decide), hv 2 (by decide), hv 3 (by decide), hv 4 (by decide), hv 5 (by decide), iI_mul, iI_add]
  have m0 := hb 0 (by decide); have m1 := hb 1 (by decide); have m2 := hb 2 (by decide); have m3 := hb 3 (by decide); have m4 := hb 4 (by decide); have m5 := hb 5 (by decide)
  have B : ∀ t : Int, 0 ≤ t → t ≤ 23 → bd t 23 := fun t h1 h2 => ⟨by omega, h2⟩
  have x1 := B _ b1.1 (by omega); have y1 := B _ b2.1 (by omega); have z1 := B _ b3.1 (by omega)
  have hbb : rg32 (m 0 * cX p n * cX p n + m 1 * cY p n * cY p n + m 2 * cZ p n * cZ p n + m 3 * cY p n * cZ p n + m 4 * cZ p n * cX p n + m 5 * cX p n * cY p n) :=
    bd_rg (bd_add (bd_add (bd_add (bd_add (bd_add (bd_mul (bd_mul (B _ m0.1 (by omega)) x1) x1) (bd_mul (bd_mul (B _ m1.1 (by omega)) y1) y1)) (bd_mul (bd_mul (B _ m2.1 (by omega)) z1) z1)) (bd_mul (bd_mul (B _ m3.1 (by omega)) y1) z1)) (bd_mul (bd_mul (B _ m4.1 (by omega)) z1) x1)) (bd_mul (bd_mul (B _ m5.1 (by omega)) x1) y1)) (by decide)
  have N := fun (a b c : Int) (ha : 0 ≤ a) (hb : 0 ≤ b) (hc : 0 ≤ c) => Int.mul_nonneg (Int.mul_nonneg ha hb) hc
  have nn : 0 ≤ m 0 * cX p n * cX p n + m 1 * cY p n * cY p n + m 2 * cZ p n * cZ p n + m 3 * cY p n * cZ p n + m 4 * cZ p n * cX p n + m 5 * cX p n * cY p n := by
    have := N _ _ _ m0.1 b1.1 b1.1; have := N _ _ _ m1.1 b2.1 b2.1; have := N _ _ _ m2.1 b3.1 b3.1
    have := N _ _ _ m3.1 b2.1 b3.1; have := N _ _ _ m4.1 b3.1 b1.1; have := N _ _ _ m5.1 b1.1 b2.1
    omega
  rw [rmi_iI hbb hrp (by omega), ob_some, Int.tmod_eq_emod_of_nonneg nn]
  have e := emod_nn (x := m 0 * cX p n * cX p n + m 1 * cY p n * cY p n + m 2 * cZ p n * cZ p n + m 3 * cY p n * cZ p n + m 4 * cZ p n * cX p n + m 5 * cX p n * cY p n) (p := p) (by omega)
  unfold qv
  by_cases c : (m 0 * cX p n * cX p n + m 1 * cY p n * cY p n + m 2 * cZ p n * cZ p n + m 3 * cY p n * cZ p n + m 4 * cZ p n * cX p n + m 5 * cX p n * cY p n) % p = 0
  · rw [if_pos (by rw [c]; rfl), if_pos c, zr1]
  · rw [if_neg (by rw [show (0 : Int32) = iI 0 from rfl, iI_eq ⟨by omega, by omega⟩ ⟨by omega, by omega⟩]; exact c), if_neg c, zr0]
/-- what may change: -/
def Fr (S : Nat → Nat → Prop) (σ σ' : Sto) : Prop := ∀ k i, ¬ S k i → σ' k i = σ k i
theorem Fr.rf {S σ} : Fr S σ σ := fun _ _ _ => rfl
theorem Fr.tr {S σ σ' σ''} (h : Fr S σ σ') (h2 : Fr S σ' σ'') : Fr S σ σ'' := fun k i hs => (h2 k i hs).trans (h k i hs)
theorem Fr.mo {S S' : Nat → Nat → Prop} {σ σ'} (h : Fr S σ σ') (hS : ∀ k i, S k i → S' k i) : Fr S' σ σ' := fun k i hs => h k i (fun z => hs (hS k i z))
theorem Fr.su {S : Nat → Nat → Prop} {σ k i v} (h : S k i) : Fr S σ (su σ k i v) := fun k' i' hs => su_n (by
  by_cases q : k' = k
  · right; intro z; subst q; subst z; exact hs h
  · exact Or.inl q)
def PX (k i : Nat) : Prop := k = 92 ∧ 8 ≤ i ∧ i ≤ 10
theorem Fr_lp {σ x y z} : Fr PX σ (lp σ x y z) := ((Fr.su ⟨rfl, by decide, by decide⟩).tr (Fr.su ⟨rfl, by decide, by decide⟩)).tr (Fr.su ⟨rfl, by decide, by decide⟩)
theorem Mm_fr {σ σ' p m} (h : Mm σ p m) (hf : Fr PX σ σ') : Mm σ' p m := ⟨by rw [hf 92 7 (by unfold PX; omega)]; exact h.1, fun i hi => by rw [hf 96 i (by unfold PX; omega)]; exact h.2.1 i hi, h.2.2⟩
/-- counting -/
def ct (P : Nat → Bool) : Nat → Nat
  | 0 => 0
  | n + 1 => ct P n + if P n then 1 else 0
theorem ct_le (P : Nat → Bool) : ∀ n, ct P n ≤ n
  | 0 => Nat.le_refl _
  | n + 1 => by have := ct_le P n; unfold ct; split <;> omega
theorem ct_congr {P Q : Nat → Bool} : ∀ {n}, (∀ k, k < n → P k = Q k) → ct P n = ct Q n
  | 0, _ => rfl
  | n + 1, h => by unfold ct; rw [ct_congr (fun k hk => h k (by omega)), h n (by omega)]
theorem NP_le {p : Nat} (hp : PR p) : NP p ≤ 553 := by
  have := hp.le; have := hp.sq; unfold NP; omega
theorem m_places {σ : Sto} {p : Nat} (h7 : σ 92 7 = iI p) : MX12_places σ 92 = some (iI (NP p : Nat)) := by
  unfold MX12_places NP
  rw [h7, iI_mul, iI_add, show (1 : Int32) = iI 1 from rfl, iI_add]
  congr 2
def onB (m : Nat → Int) (p n : Nat) : Bool := decide (qv m (cX p n) (cY p n) (cZ p n) % p = 0)
def liB (p n k : Nat) : Bool := decide (lnv p (cX p k) (cY p k) (cZ p k) (cX p n) (cY p n) (cZ p n) = 0)
theorem m_isOn' {σ : Sto} {ρ : Rho} {p n : Nat} {m : Nat → Int} (hρ : Md ρ) (hp : PR p) (hm : Mm σ p m) (hn : n < NP p) : ∃ σ', MX12_isOn σ ρ 92 (iI n) = some (if onB m p n then 1 else 0, σ') ∧ Fr PX σ σ' := by
  refine ⟨lp σ (cX p n) (cY p n) (cZ p n), ?_, Fr_lp⟩
  rw [m_isOn hρ hp hm hn]
  unfold onB
  by_cases c : qv m (cX p n) (cY p n) (cZ p n) % p = 0 <;> simp [c]
theorem m_isOnLine' {σ : Sto} {p n k : Nat} (hp : PR p) (h7 : σ 92 7 = iI p) (hn : n < NP p) (hk : k < NP p) : ∃ σ', MX12_isOnLine σ 92 (iI n) (iI k) = some (if liB p n k then 1 else 0, σ') ∧ Fr PX σ σ' := by
  refine ⟨lp σ (cX p n) (cY p n) (cZ p n), ?_, Fr_lp⟩
  rw [m_isOnLine hp h7 hn hk]
  unfold liB
  by_cases c : lnv p (cX p k) (cY p k) (cZ p k) (cX p n) (cY p n) (cZ p n) = 0 <;> simp [c]
theorem rgN {n : Nat} (h : n ≤ 100000) : rg32 (n : Int) := ⟨by omega, by omega⟩
theorem iI_succ (n : Nat) : iI n + 1 = iI ((n + 1 : Nat) : Int) := by
  rw [show (1 : Int32) = iI 1 from rfl, iI_add]; rfl
theorem iI_leN {a b : Nat} (ha : a ≤ 100000) (hb : b ≤ 100000) : (iI a ≤ iI b) ↔ a ≤ b := by
  rw [iI_le (rgN ha) (rgN hb)]; omega
/-- a loop that counts: n, then k from 0 to N -/
theorem cnt_loop {bt : Sto → Int32 → Int32 → Option (Int32 × Sto)} {F : (Sto → Int32 → Int32 → Option (Int32 × Sto)) → Sto → Int32 → Int32 → Option (Int32 × Sto)} {N : Nat} {P : Nat → Bool} {I : Sto → Prop}
    (hexit : ∀ r s (v : Nat), I s → v ≤ N → F r s (iI v) (iI N) = some (iI v, s))
    (hstep : ∀ r s (v k : Nat), I s → k < N → v ≤ k → ∃ s', I s' ∧ F r s (iI v) (iI k) = r s' (iI ((v + if P k then 1 else 0 : Nat) : Int)) (iI ((k + 1 : Nat) : Int))) {fu : Nat} (hfu : N < fu) {s : Sto} (hs : I s) :
    ∃ s', fixN bt F fu s (iI 0) (iI 0) = some (iI (ct P N : Nat), s') ∧ I s' := by
  have key : ∀ d fuel, d < fuel → ∀ (k : Nat) (s : Sto), k + d = N → I s → ∃ s', fixN bt F fuel s (iI (ct P k : Nat)) (iI k) = some (iI (ct P N : Nat), s') ∧ I s' := by
    refine fix_run (Q := fun d (r : Sto → Int32 → Int32 → Option (Int32 × Sto)) => ∀ (k : Nat) (s : Sto), k + d = N → I s → ∃ s', r s (iI (ct P k : Nat)) (iI k) = some (iI (ct P N : Nat), s') ∧ I s') ?_ ?_
    · intro r k s hk hs
      have hkN : k = N := by omega
      subst hkN
      exact ⟨s, hexit r s _ hs (ct_le P k), hs⟩
    · intro d r hr k s hk hs
      obtain ⟨s2, i2, e2⟩ := hstep r s (ct P k) k hs (by omega) (ct_le P k)
      obtain ⟨s3, e3, i3⟩ := hr (k + 1) s2 (by omega) i2
      exact ⟨s3, by rw [e2, ← e3]; rfl, i3⟩
  exact key N fu hfu 0 s (by omega) hs
theorem iI_add0 (v : Int) : iI v + 0 = iI v := by
  rw [show (0 : Int32) = iI 0 from rfl, iI_add, Int.add_zero]
theorem ne10 : ¬ ((1 : Int32) = 0) := by decide
theorem m_pointsOn {σ : Sto} {ρ : Rho} {p : Nat} {m : Nat → Int} (hρ : Md ρ) (hp : PR p) (hm : Mm σ p m) : ∃ σ', MX12_pointsOn σ ρ 92 = some (iI (ct (onB m p) (NP p) : Nat), σ') ∧ Fr PX σ σ' := by
  have hN := NP_le hp
  unfold MX12_pointsOn
  rw [bn_eq, bn_eq]
  refine cnt_loop (I := fun s => Fr PX σ s) ?_ ?_ (by unfold FU; omega) Fr.rf
  · intro r s v hs hv
    unfold FX12_pointsOn_4
    rw [m_places (Mm_fr hm hs).1, ob_some, if_pos (by rw [iI_leN (by omega) (by omega)]; omega)]
  · intro r s v k hs hk hv
    obtain ⟨s2, e2, f2⟩ := m_isOn' (n := k) hρ hp (Mm_fr hm hs) (by omega)
    refine ⟨s2, hs.tr f2, ?_⟩
    unfold FX12_pointsOn_4 BX12_pointsOn_26
    rw [m_places (Mm_fr hm hs).1, ob_some, if_neg (by rw [iI_leN (by omega) (by omega)]; omega), e2, ob_some]
    cases c : onB m p k <;> simp [bn_eq, iI_succ, iI_add0, ne10]
