/-! the counts, said of the reference's words -/
theorem ct_split {P R : Nat → Bool} : ∀ {n}, ct P n = ct (fun k => P k && R k) n + ct (fun k => P k && !R k) n
  | 0 => rfl
  | n + 1 => by
    unfold ct
    rw [ct_split (R := R) (n := n)]
    cases P n <;> cases R n <;> simp <;> omega
theorem ct_z {P : Nat → Bool} : ∀ {n}, ct P n = 0 → ∀ k, k < n → P k = false
  | 0, _, _, hk => by omega
  | n + 1, h, k, hk => by
    unfold ct at h
    by_cases q : k = n
    · subst q
      by_cases c : P k = true
      · rw [if_pos c] at h; omega
      · simpa using c
    · exact ct_z (n := n) (by omega) k (by omega)
def e6m (m : Nat → Int) : Int := e6 (m 0) (m 1) (m 2) (m 3) (m 4) (m 5)
def dlm (p : Nat) (m : Nat → Int) : Int := dl p (m 0) (m 1) (m 2) (m 3) (m 4) (m 5)
def zm (p : Nat) (m : Nat → Int) : Prop := m 0 % p = 0 ∧ m 1 % p = 0 ∧ m 2 % p = 0 ∧ m 3 % p = 0 ∧ m 4 % p = 0 ∧ m 5 % p = 0
def meetN (p : Nat) (m : Nat → Int) (u v w : Int) : Int := zf p (lA (m 0) (m 1) (m 5) u v) (lB (m 0) (m 3) (m 4) (m 5) u v w) (lC (m 0) (m 1) (m 2) (m 3) (m 4) u v w)
def lzm (p : Nat) (m : Nat → Int) (u v w : Int) : Bool := lz p (m 0) (m 1) (m 2) (m 3) (m 4) (m 5) u v w
theorem onB_eq {p : Nat} {m : Nat → Int} : onB m p = fun n => decide (q6 (m 0) (m 1) (m 2) (m 3) (m 4) (m 5) (cX p n) (cY p n) (cZ p n) % p = 0) := rfl
theorem pts_on {p : Nat} (hp : PR p) {m : Nat → Int} (nz : ¬ zm p m) : ((ct (onB m p) (NP p) : Nat) : Int) = p + 1 + p * (if e6m m % p = 0 then dlm p m else 0) := pts6 hp nz
theorem q6_z {p : Nat} {m : Nat → Int} (z : zm p m) (x y w : Int) : q6 (m 0) (m 1) (m 2) (m 3) (m 4) (m 5) x y w % p = 0 := by
  obtain ⟨h0, h1, h2, h3, h4, h5⟩ := z
  unfold q6
  exact z_add (z_add (z_add (z_add (z_add (z_mulR _ (z_mulR _ h0)) (z_mulR _ (z_mulR _ h1))) (z_mulR _ (z_mulR _ h2))) (z_mulR _ (z_mulR _ h3))) (z_mulR _ (z_mulR _ h4))) (z_mulR _ (z_mulR _ h5))
theorem pts_void {p : Nat} {m : Nat → Int} (z : zm p m) : ct (onB m p) (NP p) = NP p := by
  rw [onB_eq]
  exact ct_all (fun k _ => decide_eq_true (q6_z z _ _ _))
theorem liB_eq {p n l : Nat} : liB p n l = decide ((cX p l * cX p n + cY p l * cY p n + cZ p l * cZ p n) % p = 0) := rfl
theorem meet_on {p : Nat} (hp : PR p) {m : Nat → Int} {l : Nat} (hl : l < NP p) : ((ct (fun k => liB p k l && onB m p k) (NP p) : Nat) : Int) = meetN p m (cX p l) (cY p l) (cZ p l) := meet6 hp (nrm_c (by have := hp.le; omega) hl)
theorem zf_lt {p : Nat} (hp : PR p) {A B C : Int} (h : ¬ (A % p = 0 ∧ B % p = 0 ∧ C % p = 0)) : zf p A B C = 1 + chi p (B * B - 4 * A * C) ∧ zf p A B C ≤ 2 ∧ 0 ≤ zf p A B C := by
  have e : zf p A B C = 1 + chi p (B * B - 4 * A * C) := by unfold zf; rw [if_neg h]
  refine ⟨e, ?_⟩
  rw [e]
  by_cases q : (B * B - 4 * A * C) % p = 0
  · rw [chi0 hp q]; omega
  · rcases chi_pm hp q with r | r <;> rw [r] <;> omega
theorem line_pts {p : Nat} (hp : PR p) {l : Nat} (hl : l < NP p) : ((ct (fun k => liB p k l) (NP p) : Nat) : Int) = p + 1 := by
  have h := meet_on hp (m := fun _ => 0) hl
  have e : (fun k => liB p k l && onB (fun _ => 0) p k) = fun k => liB p k l := by
    funext k
    rw [onB_eq]
    simp only [decide_eq_true (q6_z (p := p) (m := fun _ => 0) (by unfold zm; simp) (cX p k) (cY p k) (cZ p k)), Bool.and_true]
  rw [e] at h
  rw [h]
  unfold meetN zf lA lB lC
  rw [if_pos (by simp)]
theorem all_lz {p : Nat} (hp : PR p) {m : Nat → Int} {l : Nat} (hl : l < NP p) : allB m p l = lzm p m (cX p l) (cY p l) (cZ p l) := by
  have hp3 := hp.le.1
  have h1 := meet_on hp (m := m) hl
  have h2 := line_pts hp hl
  have h3 := ct_split (P := fun k => liB p k l) (R := onB m p) (n := NP p)
  unfold allB lzm lz
  by_cases c : lA (m 0) (m 1) (m 5) (cX p l) (cY p l) % p = 0 ∧ lB (m 0) (m 3) (m 4) (m 5) (cX p l) (cY p l) (cZ p l) % p = 0 ∧ lC (m 0) (m 1) (m 2) (m 3) (m 4) (cX p l) (cY p l) (cZ p l) % p = 0
  · rw [decide_eq_true c]
    have h4 : meetN p m (cX p l) (cY p l) (cZ p l) = p + 1 := by unfold meetN zf; rw [if_pos c]
    have h5 : ct (fun k => liB p k l && !onB m p k) (NP p) = 0 := by omega
    have h6 : fs (offB m p l) (NP p) = none := fs_none.mpr (ct_z h5)
    rw [h6]
    rfl
  · rw [decide_eq_false c]
    have h4 := zf_lt hp c
    have h5 : ct (fun k => liB p k l && !onB m p k) (NP p) ≠ 0 := by
      unfold meetN at h1
      omega
    cases h6 : fs (offB m p l) (NP p) with
    | none =>
      exact absurd (ct_non (fs_none.mp h6)) h5
    | some k => rfl
theorem lines_on {p : Nat} (hp : PR p) {m : Nat → Int} (nz : ¬ zm p m) : ((ct (allB m p) (NP p) : Nat) : Int) = if e6m m % p = 0 then 1 + dlm p m else 0 := by
  have e : ct (allB m p) (NP p) = ct (fun n => lzm p m (cX p n) (cY p n) (cZ p n)) (NP p) := ct_congr (fun k hk => all_lz hp hk)
  rw [e]
  exact lines6 hp nz
theorem lines_void {p : Nat} (hp : PR p) {m : Nat → Int} (z : zm p m) : ct (allB m p) (NP p) = NP p := by
  refine ct_all (fun k hk => ?_)
  rw [all_lz hp hk]
  unfold lzm lz lA lB lC
  obtain ⟨h0, h1, h2, h3, h4, h5⟩ := z
  refine decide_eq_true ⟨?_, ?_, ?_⟩
  · split
    · exact h0
    · exact z_sub (z_add (z_mulR _ (z_mulR _ h0)) h1) (z_mulR _ h5)
  · split
    · split
      · exact h5
      · exact z_sub h4 (z_mulR _ h5)
    · exact z_sub (z_sub (z_add (z_mulR _ (z_mulR _ (z_mulL _ h0))) h3) (z_mulR _ h4)) (z_mulR _ h5)
  · split
    · split
      · exact h1
      · exact z_sub (z_add (z_mulR _ (z_mulR _ h1)) h2) (z_mulR _ h3)
    · exact z_sub (z_add (z_mulR _ (z_mulR _ h0)) h2) (z_mulR _ h4)
