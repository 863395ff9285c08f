section DEVB
variable {α β γ : Type}
abbrev Sto : Type := Nat → Nat → Int32
abbrev Rho : Type := Nat → Nat → Option Nat
def kdSheet : List Nat := [7, 20, 20]
def kdMoment : List Nat := [3, 7, 20, 20, 8, 21]
def kdL : List Nat := [10] ++ kdMoment ++ ([4, 24] ++ (kdSheet ++ kdSheet ++ kdSheet ++ kdSheet ++ kdSheet ++ kdSheet ++ kdSheet ++ kdSheet)) ++ ([25] ++ kdMoment ++ kdMoment ++ kdMoment) ++ [22] ++ ([6] ++ kdSheet ++ [2, 9]) ++ ([5, 0, 2, 0, 2, 0, 2, 9, 9]) ++ ([1, 23, 9, 0, 2, 0, 2, 0, 2, 0, 2, 0, 2, 0, 2]) ++ [0, 2, 0, 2, 2, 2, 9, 9, 9] ++ [11, 20, 20, 22, 20, 20, 20, 20]
def lnSheet : List Nat := [0, 8, 36]
def lnMoment : List Nat := [0, 0, 8, 36, 0, 500]
def lnL : List Nat := [0] ++ lnMoment ++ ([0, 8] ++ (lnSheet ++ lnSheet ++ lnSheet ++ lnSheet ++ lnSheet ++ lnSheet ++ lnSheet ++ lnSheet)) ++ ([3] ++ lnMoment ++ lnMoment ++ lnMoment) ++ [3] ++ ([0] ++ lnSheet ++ [0, 0]) ++ ([0, 0, 0, 0, 0, 0, 0, 0, 0]) ++ ([0, 6, 0, 0, 0, 0, 0, 0, 0, 0, 0, 0, 0, 0, 0]) ++ [0, 0, 0, 0, 0, 0, 0, 0, 0] ++ [0, 2115, 500, 3, 6, 48, 6, 6]
def kd (k : Nat) : Nat := kdL.getD k 99
def ln (k : Nat) : Nat := lnL.getD k 0
def jn (lo hi : Int32) : Int64 := Int64.ofBitVec (hi.toBitVec ++ lo.toBitVec)
def jlo (v : Int64) : Int32 := Int32.ofBitVec (v.toBitVec.setWidth 32)
def jhi (v : Int64) : Int32 := Int32.ofBitVec ((v.toBitVec >>> 32).setWidth 32)
theorem jn_jlo (v : Int64) : jn (jlo v) (jhi v) = v := by
  apply Int64.toBitVec_inj.mp
  show ((v.toBitVec >>> 32).setWidth 32 ++ v.toBitVec.setWidth 32 : BitVec 64) = v.toBitVec
  apply BitVec.eq_of_getLsbD_eq
  intro i hi
  rw [BitVec.getLsbD_append]
  by_cases h : i < 32
  · simp [h]
  · simp only [h, if_false, BitVec.getLsbD_setWidth, BitVec.getLsbD_ushiftRight]
    have h1 : i - 32 < 32 := by omega
    have h2 : 32 + (i - 32) = i := by omega
    simp [h1, h2]
def su (σ : Sto) (k i : Nat) (v : Int32) : Sto := fun k' i' => if k' = k ∧ i' = i then v else σ k' i'
def ru (ρ : Rho) (k i : Nat) (v : Option Nat) : Rho := fun k' i' => if k' = k ∧ i' = i then v else ρ k' i'
theorem su_s {σ k i v} : su σ k i v k i = v := by simp [su]
theorem su_n {σ : Sto} {k i v k' i'} (h : k' ≠ k ∨ i' ≠ i) : su σ k i v k' i' = σ k' i' := by
  unfold su
  rw [if_neg]
  rintro ⟨a, c⟩
  rcases h with h | h
  · exact h a
  · exact h c
theorem ru_s {ρ k i v} : ru ρ k i v k i = v := by simp [ru]
theorem ru_n {ρ : Rho} {k i v k' i'} (h : k' ≠ k ∨ i' ≠ i) : ru ρ k i v k' i' = ρ k' i' := by
  unfold ru
  rw [if_neg]
  rintro ⟨a, c⟩
  rcases h with h | h
  · exact h a
  · exact h c
def stL : List Nat := [5, 5, 5, 4]
def stB : List (List Int32) := [[112, 114, 105, 109, 101], [112, 111, 105, 110, 116], [99, 111, 110, 105, 99], [112, 97, 105, 114]]
def bn (a : α) (f : α → Option β) : Option β := f a
def dvi (x y : Int32) : Option Int32 := if y = 0 then none else some (x / y)
def rmi (x y : Int32) : Option Int32 := if y = 0 then none else some (x - x / y * y)
def fixN (bt : γ) (F : γ → γ) : Nat → γ
  | 0 => bt
  | k + 1 => F (fixN bt F k)
theorem fixN_ind {bt : γ} {F : γ → γ} {P : γ → Prop} (h0 : P bt) (hs : ∀ r, P r → P (F r)) : ∀ k, P (fixN bt F k)
  | 0 => h0
  | k + 1 => hs _ (fixN_ind h0 hs k)
def FU : Nat := 4000
def ag (σ : Sto) (k : Nat) (i : Int32) : Option Int32 := if i < 0 ∨ ln k ≤ i.toNatClampNeg then none else some (σ k i.toNatClampNeg)
def ap (σ : Sto) (k : Nat) (i x : Int32) : Option Sto := if i < 0 ∨ ln k ≤ i.toNatClampNeg then none else some (su σ k i.toNatClampNeg x)
def rg (ρ : Rho) (k : Nat) (i : Int32) : Option Nat := if i < 0 ∨ ln k ≤ i.toNatClampNeg then none else ρ k i.toNatClampNeg
def rp (ρ : Rho) (k : Nat) (i : Int32) (j : Nat) : Option Rho := if i < 0 ∨ ln k ≤ i.toNatClampNeg then none else some (ru ρ k i.toNatClampNeg (some j))
def zr (r : Int32) (o : Option β) : Option β := if r = 0 ∨ r = 1 then o else none
def zs (σ : Sto) (n : Nat) : Sto := fun k i => if k = n then 0 else σ k i
def zn (ρ : Rho) (n : Nat) : Rho := fun k i => if k = n then none else ρ k i
def nw {β : Type} (ci n : Nat) (σ : Sto) (ρ : Rho) (f : Sto → Rho → Option β) : Option β := if kd n = ci then f (zs σ n) (zn ρ n) else none
def nwa {β : Type} (t n : Nat) (len : Int32) (σ : Sto) (ρ : Rho) (f : Sto → Rho → Option β) : Option β := if kd n = t ∧ ln n = len.toNatClampNeg then f (zs σ n) (zn ρ n) else none
def pg (i : Int32) : Option Int32 := if i < 0 ∨ 8 ≤ i.toNatClampNeg then none else some (([3, 5, 7, 11, 13, 17, 19, 23] : List Int32).getD i.toNatClampNeg 0)
def cpf (σ : Sto) (a : Nat) (sp : Nat) (c : Nat) (dp m : Nat) : Sto := fun k i => if k = c ∧ dp ≤ i ∧ i < dp + m then σ a (sp + (i - dp)) else σ k i
def cpa (σ : Sto) (a : Nat) (sp : Int32) (c : Nat) (dp m : Int32) : Option Sto := if sp < 0 ∨ dp < 0 ∨ m < 0 ∨ ¬ (sp.toNatClampNeg + m.toNatClampNeg ≤ ln a ∧ dp.toNatClampNeg + m.toNatClampNeg ≤ ln c) then none else some (cpf σ a sp.toNatClampNeg c dp.toNatClampNeg m.toNatClampNeg)
def sch (i : Nat) (k : Int32) : Int32 := ((((stB.getD i []).getD k.toNatClampNeg 0) &&& 255).toUInt32 % 65536).toInt32
def sg (sl : Nat) (sc : Nat → Int32) (i : Int32) : Option Int32 := if i < 0 ∨ sl ≤ i.toNatClampNeg then none else some (sc i.toNatClampNeg)
def σ0 : Sto := fun _ _ => 0
def ρ0 : Rho := fun _ _ => none
end DEVB
