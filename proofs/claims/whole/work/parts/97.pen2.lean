/-! QUESTIONS: the pencil's base and members -/
def basB (m m' : Nat → Int) (p i : Nat) : Bool := onB m p i && onB m' p i
def falB (p : Nat) (m m' : Nat → Int) (t : Nat) : Bool := decide (e6m (mbm p m m' t) % p = 0)
def touB (m m' : Nat → Int) (p i : Nat) : Bool := basB m m' p i && decide (plv m p i = plv m' p i)
theorem k_base1 {σ : Sto} {ρ : Rho} {p i : Nat} {m m' : Nat → Int} (hD : Dk ρ) (hp : PR p) (h : Cv σ 60 p m) (h' : Cv σ 62 p m') (hi : i < NP p) : MX6_isOfBase σ ρ 59 (iI i) = some (if basB m m' p i then 1 else 0, T3 σ 66 (cX p i) (cY p i) (cZ p i)) := by
  have g : Cv (T3 σ 66 (cX p i) (cY p i) (cZ p i)) 60 p m := Cv_k h (fun i => T3_k (by decide)) (fun i => T3_k (by decide))
  have g' : Cv (T3 σ 66 (cX p i) (cY p i) (cZ p i)) 62 p m' := Cv_k h' (fun i => T3_k (by decide)) (fun i => T3_k (by decide))
  unfold MX6_isOfBase basB onB
  rw [dk_59_3 hD, ob_some, dk_59_0 hD, ob_some, h.1, c_placeN hp hi, ob_some]
  dsimp only
  rw [if_neg ne10, ob_some, ob_some, c_value (dk_60_0 hD) hp g T3_Tr (cXYZ_bd hp), ob_some]
  by_cases c1 : qv m (cX p i) (cY p i) (cZ p i) % p = 0
  · rw [if_pos ((zI hp).mpr c1), dk_59_1 hD, ob_some, ob_some, c_value (dk_62_0 hD) hp g' T3_Tr (cXYZ_bd hp), ob_some, decide_eq_true c1]
    by_cases c2 : qv m' (cX p i) (cY p i) (cZ p i) % p = 0
    · rw [if_pos ((zI hp).mpr c2), decide_eq_true c2, zr1]; rfl
    · rw [if_neg (fun z => c2 ((zI hp).mp z)), decide_eq_false c2, zr0]; rfl
  · rw [if_neg (fun z => c1 ((zI hp).mp z)), decide_eq_false c1, zr0]; rfl
theorem k_sizeOfBase {σ : Sto} {ρ : Rho} {p : Nat} {m m' : Nat → Int} (hD : Dk ρ) (hp : PR p) (h : Cv σ 60 p m) (h' : Cv σ 62 p m') : OK (MX6_sizeOfBase σ ρ 59) (fun o => o.1 = iI (ct (basB m m' p) (NP p) : Nat) ∧ Fr SC σ o.2) := by
  have hN := NP_le hp
  unfold MX6_sizeOfBase
  rw [bn_eq, bn_eq]
  refine cnt_g (S := Sto) (call := fun (g : Sto → Int32 → Int32 → Option (Int32 × Sto)) s (v k : Nat) => g s (iI v) (iI k)) (N := NP p) (P := basB m m' p) (I := fun s => Fr SC σ s ∧ Cv s 60 p m ∧ Cv s 62 p m') (Post := fun r => OK r _) ?_ ?_ (by unfold FU; omega) (s := σ) ⟨Fr.rf, h, h'⟩
  · intro g s ⟨i1, i2, i3⟩
    unfold FX6_sizeOfBase_4
    rw [dk_59_0 hD, ob_some, i2.1, c_points, ob_some, if_pos (by rw [iI_leN (by omega) (by omega)]; omega)]
    exact OK.so ⟨rfl, i1⟩
  · intro g s v k ⟨i1, i2, i3⟩ hk hv
    refine ⟨T3 s 66 (cX p k) (cY p k) (cZ p k), ⟨i1.tr (sc_T3 (by omega)), Cv_k i2 (fun i => T3_k (by decide)) (fun i => T3_k (by decide)), Cv_k i3 (fun i => T3_k (by decide)) (fun i => T3_k (by decide))⟩, ?_⟩
    unfold FX6_sizeOfBase_4 BX6_sizeOfBase_29
    rw [dk_59_0 hD, ob_some, i2.1, c_points, ob_some, if_neg (by rw [iI_leN (by omega) (by omega)]; omega), k_base1 hD hp i2 i3 hk, ob_some]
    cases basB m m' p k <;> simp [bn_eq, iI_succ, ne10]
theorem k_nthOfBase {σ : Sto} {ρ : Rho} {p K : Nat} {m m' : Nat → Int} (hD : Dk ρ) (hp : PR p) (h : Cv σ 60 p m) (h' : Cv σ 62 p m') (hK : (K : Int) < 2147483648) : OK (MX6_nthOfBase σ ρ 59 (iI K)) (fun o => o.1 = iI (oI (kth (basB m m' p) (NP p) K)) ∧ Fr SC σ o.2) := by
  have hN := NP_le hp
  unfold MX6_nthOfBase
  rw [bn_eq, bn_eq]
  refine kth_g (S := Sto) (call := fun (g : Sto → Int32 → Int32 → Option (Int32 × Sto)) s (v i : Nat) => g s (iI ((K : Int) - v)) (iI i)) (N := NP p) (k := K) (P := basB m m' p) (I := fun s => Fr SC σ s ∧ Cv s 60 p m ∧ Cv s 62 p m') (Post := fun o r => OK r (fun o' => o'.1 = iI (oI o) ∧ Fr SC σ o'.2)) ?_ ?_ ?_ (by unfold FU; omega) (s := σ) ⟨Fr.rf, h, h'⟩
  · intro g s v ⟨i1, i2, i3⟩ _ _
    unfold FX6_nthOfBase_4
    rw [dk_59_0 hD, ob_some, i2.1, c_points, ob_some, if_pos (by rw [iI_leN (by omega) (by omega)]; omega)]
    exact OK.so ⟨rfl, i1⟩
  · intro g s i ⟨i1, i2, i3⟩ hi hP hki
    unfold FX6_nthOfBase_4
    rw [dk_59_0 hD, ob_some, i2.1, c_points, ob_some, if_neg (by rw [iI_leN (by omega) (by omega)]; omega), k_base1 hD hp i2 i3 hi, ob_some, hP]
    dsimp only
    rw [if_pos rfl, if_neg ne10, if_pos ((left0 hK (Nat.le_refl _)).mpr rfl)]
    exact OK.so ⟨rfl, i1.tr (sc_T3 (by omega))⟩
  · intro g s v i ⟨i1, i2, i3⟩ hi hv hvi hP
    refine ⟨T3 s 66 (cX p i) (cY p i) (cZ p i), ⟨i1.tr (sc_T3 (by omega)), Cv_k i2 (fun i => T3_k (by decide)) (fun i => T3_k (by decide)), Cv_k i3 (fun i => T3_k (by decide)) (fun i => T3_k (by decide))⟩, ?_⟩
    unfold FX6_nthOfBase_4 BX6_nthOfBase_35
    rw [dk_59_0 hD, ob_some, i2.1, c_points, ob_some, if_neg (by rw [iI_leN (by omega) (by omega)]; omega), k_base1 hD hp i2 i3 hi, ob_some]
    cases hb : basB m m' p i with
    | true =>
      have := hP hb
      dsimp only
      rw [if_pos rfl, if_neg ne10, if_neg (fun z => by have := (left0 hK hv).mp z; omega), bn_eq, bn_eq, left1, iI_succ, if_pos rfl]
    | false => simp [bn_eq, iI_succ]
theorem k_fallen {σ : Sto} {ρ : Rho} {p : Nat} {m m' : Nat → Int} (hD : Dk ρ) (hp : PR p) (h : Cv σ 60 p m) (h' : Cv σ 62 p m') : OK (MX6_fallen σ ρ 59) (fun o => o.1 = iI (ct (falB p m m') (p + 1) : Nat) ∧ Fr SC σ o.2) := by
  obtain ⟨hp3, hp23⟩ := hp.le
  unfold MX6_fallen
  rw [bn_eq, bn_eq]
  refine cnt_g (S := Sto) (call := fun (g : Sto → Int32 → Int32 → Option (Int32 × Sto)) s (v k : Nat) => g s (iI v) (iI k)) (N := p + 1) (P := falB p m m') (I := fun s => Fr SC σ s ∧ Cv s 60 p m ∧ Cv s 62 p m') (Post := fun r => OK r _) ?_ ?_ (by unfold FU; omega) (s := σ) ⟨Fr.rf, h, h'⟩
  · intro g s ⟨i1, i2, i3⟩
    unfold FX6_fallen_4
    rw [dk_59_0 hD, ob_some, i2.1, if_pos (by rw [iI_lt (rgN (by omega)) (rgN (by omega))]; omega)]
    exact OK.so ⟨rfl, i1⟩
  · intro g s v t ⟨i1, i2, i3⟩ ht hv
    rcases k_member1 (t := (t : Int)) hD hp i2 i3 (rgN (by omega)) with ⟨t0, t1, s2, e2, q1, q2⟩ | ⟨t0, e2⟩
    · rw [Int.toNat_natCast] at q1
      refine ⟨s2, ⟨i1.tr (sc_C2 q2 (by omega)), Cv_k i2 (fun i => q2 _ _ (by unfold C2; omega)) (fun i => q2 _ _ (by unfold C2; omega)), Cv_k i3 (fun i => q2 _ _ (by unfold C2; omega)) (fun i => q2 _ _ (by unfold C2; omega))⟩, ?_⟩
      have hkl := kdm_le (p := p) (m := mbm p m m' t)
      unfold FX6_fallen_4 BX6_fallen_37 falB
      rw [dk_59_0 hD, ob_some, i2.1, if_neg (by rw [iI_lt (rgN (by omega)) (rgN (by omega))]; omega), e2, ob_some]
      dsimp only
      rw [if_neg ne10, dk_59_2 hD, ob_some, c_kind (dk_64_0 hD) hp q1, ob_some]
      by_cases c : kdm p (mbm p m m' t) = 4
      · rw [if_pos (by rw [c]; rfl), decide_eq_false (kdm_4.mp c), bn_eq, iI_succ]
        rfl
      · rw [if_neg (by rw [w4, iI_eqN (by omega) (by omega)]; exact c), decide_eq_true (Classical.byContradiction fun z => c (kdm_4.mpr z)), bn_eq, bn_eq, iI_succ, iI_succ]
        rfl
    · exact absurd ⟨by omega, by omega⟩ t0
theorem k_polarSpot {σ : Sto} {ρ : Rho} {p k i : Nat} {m : Nat → Int} (hD : Dk ρ) (hp : PR p) (hk : ρ k 0 = some (k + 1)) (hk2 : k + 1 < 66) (h : Cv σ k p m) (ht : Tr σ 66 (cX p i) (cY p i) (cZ p i)) : ∃ s, MX6_polarAtSpot σ ρ 59 k = some (iI (plv m p i), s) ∧ Fr (fun k _ => k = 67) σ s := by
  obtain ⟨q1, q2, q3⟩ := plr_bd hp h.2.2 (cXYZ_bd (n := i) hp)
  refine ⟨T3 σ 67 (plr m (cX p i) (cY p i) (cZ p i)).1 (plr m (cX p i) (cY p i) (cZ p i)).2.1 (plr m (cX p i) (cY p i) (cZ p i)).2.2, ?_, fun k' i hn => T3_k hn⟩
  unfold MX6_polarAtSpot
  rw [dk_59_3 hD, ob_some, dk_59_4 hD, ob_some, c_polar hk h ht, ob_some, ob_some, T3_k (by omega), h.1, c_numbered hp T3_Tr (bd_rg q1 (by decide)) (bd_rg q2 (by decide)) (bd_rg q3 (by decide)), ob_some]
  rfl
theorem k_touching {σ : Sto} {ρ : Rho} {p : Nat} {m m' : Nat → Int} (hD : Dk ρ) (hp : PR p) (h : Cv σ 60 p m) (h' : Cv σ 62 p m') : OK (MX6_touching σ ρ 59) (fun o => o.1 = iI (cas (e6m m % p ≠ 0 ∧ e6m m' % p ≠ 0) (ct (touB m m' p) (NP p) : Nat) (-1)) ∧ Fr SC σ o.2) := by
  have hN := NP_le hp
  have hkl := kdm_le (p := p) (m := m)
  have hkl' := kdm_le (p := p) (m := m')
  unfold MX6_touching
  rw [dk_59_0 hD, ob_some, c_kind (dk_60_0 hD) hp h, ob_some]
  by_cases c4 : kdm p m = 4
  · rw [if_pos (by rw [c4]; rfl), dk_59_1 hD, ob_some, c_kind (dk_62_0 hD) hp h', ob_some]
    by_cases c4' : kdm p m' = 4
    · rw [if_pos (by rw [c4']; rfl), bn_eq, bn_eq, cas_pos (show e6m m % p ≠ 0 ∧ e6m m' % p ≠ 0 from ⟨kdm_4.mp c4, kdm_4.mp c4'⟩)]
      refine cnt_g (S := Sto) (call := fun (g : Sto → Int32 → Int32 → Option (Int32 × Sto)) s (v k : Nat) => g s (iI v) (iI k)) (N := NP p) (P := touB m m' p) (I := fun s => Fr SC σ s ∧ Cv s 60 p m ∧ Cv s 62 p m') (Post := fun r => OK r _) ?_ ?_ (by unfold FU; omega) (s := σ) ⟨Fr.rf, h, h'⟩
      · intro g s ⟨i1, i2, i3⟩
        unfold FX6_touching_28
        rw [dk_59_0 hD, ob_some, i2.1, c_points, ob_some, if_pos (by rw [iI_leN (by omega) (by omega)]; omega)]
        exact OK.so ⟨rfl, i1⟩
      · intro g s v k ⟨i1, i2, i3⟩ hk hv
        have b := k_base1 hD hp i2 i3 hk
        generalize hs : T3 s 66 (cX p k) (cY p k) (cZ p k) = s1 at b
        have f1 : Fr SC σ s1 := by rw [← hs]; exact i1.tr (sc_T3 (by omega))
        have t1 : Tr s1 66 (cX p k) (cY p k) (cZ p k) := by rw [← hs]; exact T3_Tr
        have c1 : Cv s1 60 p m := by rw [← hs]; exact Cv_k i2 (fun i => T3_k (by decide)) (fun i => T3_k (by decide))
        have c2 : Cv s1 62 p m' := by rw [← hs]; exact Cv_k i3 (fun i => T3_k (by decide)) (fun i => T3_k (by decide))
        obtain ⟨s2, e2, f2⟩ := k_polarSpot hD hp (dk_60_0 hD) (by omega) c1 t1
        have g2 : ∀ k i, k ≠ 67 → s2 k i = s1 k i := fun k i hk => f2 k i hk
        obtain ⟨s3, e3, f3⟩ := k_polarSpot hD hp (dk_62_0 hD) (by omega) (Cv_k c2 (fun i => g2 _ _ (by decide)) (fun i => g2 _ _ (by decide))) (Tr_k t1 (fun i => g2 _ _ (by decide)))
        have g3 : ∀ k i, k ≠ 67 → s3 k i = s2 k i := fun k i hk => f3 k i hk
        have sc67 : ∀ {a b : Sto}, Fr (fun k _ => k = 67) a b → Fr SC a b := fun {a b} hf => hf.mo (fun k i h => by unfold SC; omega)
        have pr1 := plv_rg (n := k) (m := m) hp
        have pr2 := plv_rg (n := k) (m := m') hp
        unfold FX6_touching_28 BX6_touching_72 touB
        rw [dk_59_0 hD, ob_some, i2.1, c_points, ob_some, if_neg (by rw [iI_leN (by omega) (by omega)]; omega), b, ob_some]
        cases hb : basB m m' p k with
        | false =>
          refine ⟨s1, ⟨f1, c1, c2⟩, ?_⟩
          simp [bn_eq, iI_succ]
        | true =>
          refine ⟨s3, ⟨(f1.tr (sc67 f2)).tr (sc67 f3), Cv_k c1 (fun i => (g3 _ _ (by decide)).trans (g2 _ _ (by decide))) (fun i => (g3 _ _ (by decide)).trans (g2 _ _ (by decide))), Cv_k c2 (fun i => (g3 _ _ (by decide)).trans (g2 _ _ (by decide))) (fun i => (g3 _ _ (by decide)).trans (g2 _ _ (by decide)))⟩, ?_⟩
          dsimp only
          rw [if_pos rfl, if_neg ne10, ob_some, e2, ob_some, dk_59_1 hD, ob_some]
          dsimp only
          rw [e3, ob_some, Bool.true_and]
          dsimp only
          by_cases c : plv m p k = plv m' p k
          · rw [if_pos (by rw [c]), bn_eq, bn_eq, iI_succ, iI_succ, decide_eq_true c, if_pos rfl]
          · rw [if_neg (by rw [iI_eq ⟨by omega, by omega⟩ ⟨by omega, by omega⟩]; exact c), bn_eq, iI_succ, decide_eq_false c, if_neg (by decide)] <;> rfl
    · rw [if_neg (by rw [w4, iI_eqN (by omega) (by omega)]; exact c4'), cas_neg (fun z => c4' (kdm_4.mpr z.2))]; exact OK.so ⟨rfl, Fr.rf⟩
  · rw [if_neg (by rw [w4, iI_eqN (by omega) (by omega)]; exact c4), cas_neg (fun z => c4 (kdm_4.mpr z.1))]; exact OK.so ⟨rfl, Fr.rf⟩
/-- pencil -/
noncomputable def aPenM (p : Nat) (m : Nat → Int) (w : Int) : Int := cas (w < 2000) (kdm p m : Nat) (cas (w < 3000) (ptsN p m : Nat) (lnsN p m : Nat))
noncomputable def aPen (S : Sheet) (a b w : Int) : Int := cas (pcl S a b) (cas (w = 0) (ct (basB (cm S a.toNat) (cm S b.toNat) S.1) (NP S.1) : Nat) (cas (w = 1) (ct (falB S.1 (cm S a.toNat) (cm S b.toNat)) (S.1 + 1) : Nat) (cas (w = 2) (cas (e6m (cm S a.toNat) % S.1 ≠ 0 ∧ e6m (cm S b.toNat) % S.1 ≠ 0) (ct (touB (cm S a.toNat) (cm S b.toNat) S.1) (NP S.1) : Nat) (-1)) (cas (100 ≤ w ∧ w ≤ 999) (oI (kth (basB (cm S a.toNat) (cm S b.toNat) S.1) (NP S.1) (w - 100).toNat)) (cas (1000 ≤ w ∧ w ≤ 3999 ∧ w % 1000 ≤ S.1) (aPenM S.1 (mbm S.1 (cm S a.toNat) (cm S b.toNat) (w % 1000).toNat) w) (-1)))))) (-1)
theorem k_pencil {σ : Sto} {ρ : Rho} {S : Sheet} {a b w : Int} (h : QV σ ρ S) (ha : rg32 a) (hb : rg32 b) (hw : rg32 w) : OK (MX11_pencil σ ρ 0 (iI a) (iI b) (iI w)) (fun o => o.1 = iI (aPen S a b w) ∧ Fr SC σ o.2) := by
  obtain ⟨hD, hρ, hP, hS, hC, hM⟩ := id h
  obtain ⟨hp3, hp23⟩ := hS.1.le
  have hw' := hw
  unfold rg32 at hw'
  unfold MX11_pencil
  refine k_pencilTake h ha hb (fun hn s f => ?_) (fun hy s f c1 c2 => ?_)
  · unfold aPen
    dsimp only
    rw [if_pos rfl, cas_neg hn]; exact OK.so ⟨rfl, f⟩
  · unfold aPen
    have L : ∀ k : Int, rg32 k → ((iI w < iI k) ↔ w < k) := fun k hk => iI_lt hw hk
    have E : ∀ k : Int, rg32 k → ((iI w = iI k) ↔ w = k) := fun k hk => iI_eq hw hk
    dsimp only
    rw [if_neg ne10, cas_pos hy, show (3000 : Int32) = iI 3000 from rfl, show (2000 : Int32) = iI 2000 from rfl, show (1000 : Int32) = iI 1000 from rfl, show (100 : Int32) = iI 100 from rfl, show (0 : Int32) = iI 0 from rfl, show (1 : Int32) = iI 1 from rfl, show (2 : Int32) = iI 2 from rfl]
    simp only [L 3000 ⟨by omega, by omega⟩, L 2000 ⟨by omega, by omega⟩, L 1000 ⟨by omega, by omega⟩, L 100 ⟨by omega, by omega⟩, E 0 ⟨by omega, by omega⟩, E 1 ⟨by omega, by omega⟩, E 2 ⟨by omega, by omega⟩]
    by_cases w0' : w = 0
    · rw [cas_pos w0', if_pos (show w < 3000 by omega), if_pos (show w < 2000 by omega), if_pos (show w < 1000 by omega), if_pos (show w < 100 by omega), if_pos w0', dk_0_5 hD, ob_some]
      refine OK.bi (k_sizeOfBase hD hS.1 c1 c2) ?_
      rintro ⟨v, s2⟩ ⟨r1, r2⟩
      exact OK.so ⟨r1, f.tr r2⟩
    · rw [cas_neg w0']
      by_cases w1' : w = 1
      · rw [cas_pos w1', if_pos (show w < 3000 by omega), if_pos (show w < 2000 by omega), if_pos (show w < 1000 by omega), if_pos (show w < 100 by omega), if_neg w0', if_pos w1', dk_0_5 hD, ob_some]
        refine OK.bi (k_fallen hD hS.1 c1 c2) ?_
        rintro ⟨v, s2⟩ ⟨r1, r2⟩
        exact OK.so ⟨r1, f.tr r2⟩
      · rw [cas_neg w1']
        by_cases w2' : w = 2
        · rw [cas_pos w2', if_pos (show w < 3000 by omega), if_pos (show w < 2000 by omega), if_pos (show w < 1000 by omega), if_pos (show w < 100 by omega), if_neg w0', if_neg w1', if_pos w2', dk_0_5 hD, ob_some]
          refine OK.bi (k_touching hD hS.1 c1 c2) ?_
          rintro ⟨v, s2⟩ ⟨r1, r2⟩
          exact OK.so ⟨r1, f.tr r2⟩
        · rw [cas_neg w2']
          by_cases wA : w < 100
          · rw [cas_neg (show ¬ (100 ≤ w ∧ w ≤ 999) by omega), cas_neg (show ¬ (1000 ≤ w ∧ w ≤ 3999 ∧ w % 1000 ≤ S.1) by omega), if_pos (show w < 3000 by omega), if_pos (show w < 2000 by omega), if_pos (show w < 1000 by omega), if_pos wA, if_neg w0', if_neg w1', if_neg w2']; exact OK.so ⟨rfl, f⟩
          · by_cases wB : w < 1000
            · rw [cas_pos (show 100 ≤ w ∧ w ≤ 999 by omega), if_pos (show w < 3000 by omega), if_pos (show w < 2000 by omega), if_pos wB, if_neg wA, dk_0_5 hD, ob_some, iI_sub]
              have := k_nthOfBase (K := (w - 100).toNat) hD hS.1 c1 c2 (by omega)
              rw [show (((w - 100).toNat : Nat) : Int) = w - 100 by omega] at this
              refine OK.bi this ?_
              rintro ⟨v, s2⟩ ⟨r1, r2⟩
              exact OK.so ⟨r1, f.tr r2⟩
            · rw [cas_neg (show ¬ (100 ≤ w ∧ w ≤ 999) by omega)]
              by_cases wC : w < 2000
              · rw [if_pos (show w < 3000 by omega), if_pos wC, if_neg wB, dk_0_5 hD, ob_some, iI_sub]
                rcases k_member1 (t := w - 1000) hD hS.1 c1 c2 ⟨by omega, by omega⟩ with ⟨t0, t1, s2, e2, q1, q2⟩ | ⟨t0, e2⟩
                · rw [e2, ob_some]
                  dsimp only
                  rw [if_neg (show ¬ (1 : Int32) = iI 0 by decide), ob_some, dk_59_2 hD, ob_some, c_kind (dk_64_0 hD) hS.1 q1, ob_some]
                  rw [cas_pos (show 1000 ≤ w ∧ w ≤ 3999 ∧ w % 1000 ≤ S.1 by omega), show w % 1000 = w - 1000 by omega]
                  unfold aPenM
                  rw [cas_pos wC]; exact OK.so ⟨rfl, f.tr (sc_C2 q2 (by omega))⟩
                · rw [e2, ob_some]
                  dsimp only
                  rw [if_pos (show (0 : Int32) = iI 0 from rfl), cas_neg (show ¬ (1000 ≤ w ∧ w ≤ 3999 ∧ w % 1000 ≤ S.1) by omega)]; exact OK.so ⟨rfl, f⟩
              · by_cases wD : w < 3000
                · rw [if_pos wD, if_neg wC, dk_0_5 hD, ob_some, iI_sub]
                  rcases k_member1 (t := w - 2000) hD hS.1 c1 c2 ⟨by omega, by omega⟩ with ⟨t0, t1, s2, e2, q1, q2⟩ | ⟨t0, e2⟩
                  · rw [e2, ob_some]
                    dsimp only
                    rw [if_neg (show ¬ (1 : Int32) = iI 0 by decide), ob_some, dk_59_2 hD, ob_some, c_curvePoints (dk_64_0 hD) hS.1 q1, ob_some]
                    rw [cas_pos (show 1000 ≤ w ∧ w ≤ 3999 ∧ w % 1000 ≤ S.1 by omega), show w % 1000 = w - 2000 by omega]
                    unfold aPenM
                    rw [cas_neg wC, cas_pos wD]; exact OK.so ⟨rfl, f.tr (sc_C2 q2 (by omega))⟩
                  · rw [e2, ob_some]
                    dsimp only
                    rw [if_pos (show (0 : Int32) = iI 0 from rfl), cas_neg (show ¬ (1000 ≤ w ∧ w ≤ 3999 ∧ w % 1000 ≤ S.1) by omega)]; exact OK.so ⟨rfl, f⟩
                · rw [if_neg wD, dk_0_5 hD, ob_some, iI_sub]
                  rcases k_member1 (t := w - 3000) hD hS.1 c1 c2 ⟨by omega, by omega⟩ with ⟨t0, t1, s2, e2, q1, q2⟩ | ⟨t0, e2⟩
                  · rw [e2, ob_some]
                    dsimp only
                    rw [if_neg (show ¬ (1 : Int32) = iI 0 by decide), ob_some, dk_59_2 hD, ob_some, c_curveLines (dk_64_0 hD) hS.1 q1, ob_some]
                    rw [cas_pos (show 1000 ≤ w ∧ w ≤ 3999 ∧ w % 1000 ≤ S.1 by omega), show w % 1000 = w - 3000 by omega]
                    unfold aPenM
                    rw [cas_neg wC, cas_neg wD]; exact OK.so ⟨rfl, f.tr (sc_C2 q2 (by omega))⟩
                  · rw [e2, ob_some]
                    dsimp only
                    rw [if_pos (show (0 : Int32) = iI 0 from rfl), cas_neg (show ¬ (1000 ≤ w ∧ w ≤ 3999 ∧ w % 1000 ≤ S.1) by omega)]; exact OK.so ⟨rfl, f⟩
/-- the reference's base -/
theorem m_isBase {σ : Sto} {ρ : Rho} {S : Sheet} {a b : Int} {i : Nat} (h : QV σ ρ S) (ha : inC a) (hb : inC b) (hi : i < NP S.1) : ∃ s, MX12_isBase σ ρ 92 (iI a) (iI b) (iI i) = some (if basB (cm S a.toNat) (cm S b.toNat) S.1 i then 1 else 0, s) ∧ Fr SC σ s ∧ Mm s S.1 (cm S b.toNat) := by
  obtain ⟨hD, hρ, hP, hS, hC, hM⟩ := id h
  have lay : ∀ (c : Int), inC c → ∀ s, Fr SC σ s → ∃ s', MX12_laysConic s ρ 92 (0 : Int32) (iI c) = some s' ∧ Fr SC σ s' ∧ Mm s' S.1 (cm S c.toNat) := by
    intro c hc s hs
    obtain ⟨s', e1, hm, hf⟩ := m_laysConic (c := c.toNat) hρ hS (QV_fr h hs).2.2.2.2.2 (by unfold inC at hc; omega)
    rw [show ((c.toNat : Nat) : Int) = c by unfold inC at hc; omega] at e1
    exact ⟨s', e1, hs.tr (hf.mo (fun _ _ h => sc_PM h)), hm⟩
  obtain ⟨s1, e1, f1, m1⟩ := lay a ha σ Fr.rf
  obtain ⟨s2, e2, f2⟩ := m_isOn' (n := i) hρ hS.1 m1 hi
  obtain ⟨s3, e3, f3, m3⟩ := lay b hb s2 (f1.tr (f2.mo (fun _ _ h => sc_PX h)))
  obtain ⟨s4, e4, f4⟩ := m_isOn' (n := i) hρ hS.1 m3 hi
  unfold MX12_isBase basB
  rw [e1, ob_some, e2, ob_some]
  dsimp only
  rw [bn_eq, e3, ob_some]
  cases b1 : onB (cm S a.toNat) S.1 i with
  | false => exact ⟨s3, by rw [if_pos (show (if false = true then (1 : Int32) else 0) = 0 from rfl)]; exact zr0 _, f3, m3⟩
  | true =>
    refine ⟨s4, ?_, f3.tr (f4.mo (fun _ _ h => sc_PX h)), Mm_fr m3 f4⟩
    rw [if_neg (show ¬ (if true = true then (1 : Int32) else 0) = 0 by decide), e4, ob_some, Bool.true_and]
    cases b2 : onB (cm S b.toNat) S.1 i with
    | false => exact zr0 _
    | true => exact zr1 _
theorem m_base {σ : Sto} {ρ : Rho} {S : Sheet} {a b k : Int} (h : QV σ ρ S) (h7 : σ 92 7 = iI S.1) (ha : inC a) (hb : inC b) (hk : rg32 k) (hk0 : -1 ≤ k) : OK (MX12_base σ ρ 92 (iI a) (iI b) (iI k)) (fun o => Fr SC σ o.2 ∧ (k = -1 → o.1 = iI (-1 - (ct (basB (cm S a.toNat) (cm S b.toNat) S.1) (NP S.1) : Nat))) ∧ (0 ≤ k → (∃ i, kth (basB (cm S a.toNat) (cm S b.toNat) S.1) (NP S.1) k.toNat = some i ∧ o.1 = iI (i : Nat)) ∨ (kth (basB (cm S a.toNat) (cm S b.toNat) S.1) (NP S.1) k.toNat = none ∧ ∃ v : Nat, v ≤ NP S.1 ∧ o.1 = iI (-1 - (v : Int))))) := by
  obtain ⟨hD, hρ, hP, hS, hC, hM⟩ := id h
  have hN := NP_le hS.1
  unfold MX12_base
  rw [bn_eq, bn_eq]
  have B47 : ∀ s (v : Nat), BX12_base_47 ρ 92 (iI a) (iI b) (iI k) s (iI v) = some (iI (-1 - (v : Int)), s) := fun s v => by
    unfold BX12_base_47
    rw [show (-1 : Int32) = iI (-1) from rfl, iI_sub]
  by_cases k1 : k = -1
  · subst k1
    refine cnt_g (S := Sto) (call := fun (g : Sto → Int32 → Int32 → Option (Int32 × Sto)) s (v i : Nat) => g s (iI v) (iI i)) (N := NP S.1) (P := basB (cm S a.toNat) (cm S b.toNat) S.1) (I := fun s => Fr SC σ s ∧ s 92 7 = iI S.1) (Post := fun r => OK r _) ?_ ?_ (by unfold FU; omega) (s := σ) ⟨Fr.rf, h7⟩
    · intro g s ⟨i1, i2⟩
      unfold FX12_base_6
      rw [m_places i2, ob_some, if_pos (by rw [iI_leN (by omega) (by omega)]; omega), B47]
      exact OK.so ⟨i1, fun _ => rfl, fun z => absurd z (by decide)⟩
    · intro g s v i ⟨i1, i2⟩ hi hv
      obtain ⟨s2, e2, f2, m2⟩ := m_isBase (QV_fr h i1) ha hb hi
      refine ⟨s2, ⟨i1.tr f2, m2.1⟩, ?_⟩
      unfold FX12_base_6 BX12_base_41
      rw [m_places i2, ob_some, if_neg (by rw [iI_leN (by omega) (by omega)]; omega), e2, ob_some]
      cases basB (cm S a.toNat) (cm S b.toNat) S.1 i with
      | false => simp [bn_eq, iI_succ]
      | true =>
        dsimp only
        rw [if_pos rfl, if_neg ne10, if_neg (by rw [iI_eq (rgN (by omega)) hk]; omega), bn_eq, bn_eq, iI_succ, iI_succ, if_pos rfl]
  · obtain ⟨K, rfl⟩ := Int.eq_ofNat_of_zero_le (show 0 ≤ k by omega)
    have hkk : (K : Int) < 2147483648 := by unfold rg32 at hk; omega
    rw [Int.toNat_natCast]
    refine kth_g (S := Sto) (call := fun (g : Sto → Int32 → Int32 → Option (Int32 × Sto)) s (v i : Nat) => g s (iI v) (iI i)) (N := NP S.1) (k := K) (P := basB (cm S a.toNat) (cm S b.toNat) S.1) (I := fun s => Fr SC σ s ∧ s 92 7 = iI S.1) (Post := fun o r => OK r (fun o' => Fr SC σ o'.2 ∧ ((K : Int) = -1 → o'.1 = iI (-1 - (ct (basB (cm S a.toNat) (cm S b.toNat) S.1) (NP S.1) : Nat))) ∧ (0 ≤ (K : Int) → (∃ i, o = some i ∧ o'.1 = iI (i : Nat)) ∨ (o = none ∧ ∃ v : Nat, v ≤ NP S.1 ∧ o'.1 = iI (-1 - (v : Int)))))) ?_ ?_ ?_ (by unfold FU; omega) (s := σ) ⟨Fr.rf, h7⟩
    · intro g s v ⟨i1, i2⟩ hv hvN
      unfold FX12_base_6
      rw [m_places i2, ob_some, if_pos (by rw [iI_leN (by omega) (by omega)]; omega), B47]
      exact OK.so ⟨i1, fun z => by omega, fun _ => Or.inr ⟨rfl, v, hvN, rfl⟩⟩
    · intro g s i ⟨i1, i2⟩ hi hP hki
      obtain ⟨s2, e2, f2, m2⟩ := m_isBase (QV_fr h i1) ha hb hi
      unfold FX12_base_6
      rw [m_places i2, ob_some, if_neg (by rw [iI_leN (by omega) (by omega)]; omega), e2, ob_some, hP]
      dsimp only
      rw [if_pos rfl, if_neg ne10, if_pos rfl]
      exact OK.so ⟨i1.tr f2, fun z => by omega, fun _ => Or.inl ⟨i, rfl, rfl⟩⟩
    · intro g s v i ⟨i1, i2⟩ hi hv hvi hP
      obtain ⟨s2, e2, f2, m2⟩ := m_isBase (QV_fr h i1) ha hb hi
      refine ⟨s2, ⟨i1.tr f2, m2.1⟩, ?_⟩
      unfold FX12_base_6 BX12_base_41
      rw [m_places i2, ob_some, if_neg (by rw [iI_leN (by omega) (by omega)]; omega), e2, ob_some]
      cases hb' : basB (cm S a.toNat) (cm S b.toNat) S.1 i with
      | false => simp [bn_eq, iI_succ]
      | true =>
        have := hP hb'
        dsimp only
        rw [if_pos rfl, if_neg ne10, if_neg (by rw [iI_eqL (by omega) hkk]; omega), bn_eq, bn_eq, iI_succ, iI_succ, if_pos rfl]
theorem m_fallen {σ : Sto} {ρ : Rho} {S : Sheet} {a b : Int} (h : QV σ ρ S) (h7 : σ 92 7 = iI S.1) (ha : inC a) (hb : inC b) : OK (MX12_fallen σ ρ 92 (iI a) (iI b)) (fun o => o.1 = iI (ct (falB S.1 (cm S a.toNat) (cm S b.toNat)) (S.1 + 1) : Nat) ∧ Fr SC σ o.2) := by
  obtain ⟨hD, hρ, hP, hS, hC, hM⟩ := id h
  obtain ⟨hp3, hp23⟩ := hS.1.le
  unfold MX12_fallen
  rw [bn_eq, bn_eq]
  refine cnt_g (S := Sto) (call := fun (g : Sto → Int32 → Int32 → Option (Int32 × Sto)) s (v k : Nat) => g s (iI v) (iI k)) (N := S.1 + 1) (P := falB S.1 (cm S a.toNat) (cm S b.toNat)) (I := fun s => Fr SC σ s ∧ s 92 7 = iI S.1) (Post := fun r => OK r _) ?_ ?_ (by unfold FU; omega) (s := σ) ⟨Fr.rf, h7⟩
  · intro g s ⟨i1, i2⟩
    unfold FX12_fallen_5
    rw [i2, if_pos (by rw [iI_lt (rgN (by omega)) (rgN (by omega))]; omega)]
    exact OK.so ⟨rfl, i1⟩
  · intro g s v t ⟨i1, i2⟩ ht hv
    obtain ⟨s2, e2, m2, f2⟩ := m_member1 (t := t) (QV_fr h i1) ha hb i2 (by omega)
    obtain ⟨⟨x, s3⟩, e3, r1, r2⟩ := m_rankOf hρ hS.1 m2
    have hrk := rkm_le (p := S.1) (m := mbm S.1 (cm S a.toNat) (cm S b.toNat) t)
    dsimp only at r1 r2
    refine ⟨s3, ⟨(i1.tr (f2.mo (fun k i h => by unfold SC; omega))).tr (r2.mo (fun _ _ h => sc_RX h)), (Mm_rx m2 r2).1⟩, ?_⟩
    unfold FX12_fallen_5 BX12_fallen_36 falB
    rw [i2, if_neg (by rw [iI_lt (rgN (by omega)) (rgN (by omega))]; omega), e2, ob_some, e3, ob_some]
    dsimp only
    rw [r1]
    by_cases c : 3 ≤ rkm S.1 (mbm S.1 (cm S a.toNat) (cm S b.toNat) t)
    · rw [if_pos (by rw [w3, iI_leN (by omega) (by omega)]; exact c), decide_eq_false (rkm_3'.mp (by omega)), bn_eq, bn_eq, iI_add0, iI_succ]
      rfl
    · rw [if_neg (by rw [w3, iI_leN (by omega) (by omega)]; exact c), decide_eq_true (Classical.byContradiction fun z => c (by rw [rkm_3'.mpr z]; omega)), bn_eq, bn_eq, iI_succ, iI_succ]
      rfl
theorem m_touching {σ : Sto} {ρ : Rho} {S : Sheet} {a b : Int} (h : QV σ ρ S) (ha : inC a) (hb : inC b) : OK (MX12_touching σ ρ 92 (iI a) (iI b)) (fun o => o.1 = iI (cas (e6m (cm S a.toNat) % S.1 ≠ 0 ∧ e6m (cm S b.toNat) % S.1 ≠ 0) (ct (touB (cm S a.toNat) (cm S b.toNat) S.1) (NP S.1) : Nat) (-1)) ∧ Fr SC σ o.2) := by
  obtain ⟨hD, hρ, hP, hS, hC, hM⟩ := id h
  have hN := NP_le hS.1
  have hrk := rkm_le (p := S.1) (m := cm S a.toNat)
  have hrk' := rkm_le (p := S.1) (m := cm S b.toNat)
  have B19 : ∀ s t0, Fr SC σ s → (t0 = 0 ↔ rkm S.1 (cm S a.toNat) ≠ 3) → OK (BX12_touching_19 ρ 92 (iI a) (iI b) s t0) (fun o => o.1 = iI (cas (e6m (cm S a.toNat) % S.1 ≠ 0 ∧ e6m (cm S b.toNat) % S.1 ≠ 0) (ct (touB (cm S a.toNat) (cm S b.toNat) S.1) (NP S.1) : Nat) (-1)) ∧ Fr SC σ o.2) := by
    intro s t0 f ht0
    unfold BX12_touching_19
    rw [bn_eq]
    refine m_lay (QV_fr h f) hb (fun s2 f2 m2 => ?_)
    by_cases c : t0 = 0
    · rw [if_pos c, cas_neg (fun z => (ht0.mp c) (rkm_3'.mpr z.1))]; exact OK.so ⟨rfl, f.tr f2⟩
    · have ra : rkm S.1 (cm S a.toNat) = 3 := Classical.byContradiction fun z => c (ht0.mpr z)
      rw [if_neg c]
      refine OK.bi (m_rankOf hρ hS.1 m2) ?_
      rintro ⟨v, s3⟩ ⟨r1, r2⟩
      dsimp only at r1 r2 ⊢
      have f3 : Fr SC σ s3 := (f.tr f2).tr (r2.mo (fun _ _ h => sc_RX h))
      rw [r1]
      by_cases rb : rkm S.1 (cm S b.toNat) = 3
      · rw [if_pos (by rw [rb]; rfl), bn_eq, bn_eq, cas_pos (show e6m (cm S a.toNat) % S.1 ≠ 0 ∧ e6m (cm S b.toNat) % S.1 ≠ 0 from ⟨rkm_3'.mp ra, rkm_3'.mp rb⟩)]
        refine cnt_g (S := Sto) (call := fun (g : Sto → Int32 → Int32 → Option (Int32 × Sto)) s (v k : Nat) => g s (iI v) (iI k)) (N := NP S.1) (P := touB (cm S a.toNat) (cm S b.toNat) S.1) (I := fun s => Fr SC σ s ∧ s 92 7 = iI S.1) (Post := fun r => OK r _) ?_ ?_ (by unfold FU; omega) (s := s3) ⟨f3, (Mm_rx m2 r2).1⟩
        · intro g s ⟨i1, i2⟩
          unfold FX12_touching_46
          rw [m_places i2, ob_some, if_pos (by rw [iI_leN (by omega) (by omega)]; omega)]
          exact OK.so ⟨rfl, i1⟩
        · intro g s v i ⟨i1, i2⟩ hi hv
          obtain ⟨s4, e4, f4, m4⟩ := m_isBase (QV_fr h i1) ha hb hi
          unfold FX12_touching_46 BX12_touching_101 BX12_touching_104 touB
          rw [m_places i2, ob_some, if_neg (by rw [iI_leN (by omega) (by omega)]; omega), e4, ob_some]
          cases hb' : basB (cm S a.toNat) (cm S b.toNat) S.1 i with
          | false =>
            refine ⟨s4, ⟨i1.tr f4, m4.1⟩, ?_⟩
            simp [bn_eq, iI_succ]
          | true =>
            obtain ⟨s5, e5, f5⟩ := m_polarOf (n := i) hρ hS.1 m4 hi
            have g5 : Fr SC σ s5 := (i1.tr f4).tr (f5.mo (fun _ _ h => sc_PX h))
            obtain ⟨s6, e6', m6, f6⟩ := m_laysConic (c := a.toNat) hρ hS (QV_fr h g5).2.2.2.2.2 (by unfold inC at ha; omega)
            rw [show ((a.toNat : Nat) : Int) = a by unfold inC at ha; omega] at e6'
            have e6'' : MX12_laysConic s5 ρ 92 (0 : Int32) (iI a) = some s6 := e6'
            have g6 : Fr SC σ s6 := g5.tr (f6.mo (fun _ _ h => sc_PM h))
            obtain ⟨s7, e7, f7⟩ := m_polarOf (n := i) hρ hS.1 m6 hi
            have pr1 := plv_rg (n := i) (m := cm S a.toNat) hS.1
            have pr2 := plv_rg (n := i) (m := cm S b.toNat) hS.1
            refine ⟨s7, ⟨g6.tr (f7.mo (fun _ _ h => sc_PX h)), (Mm_fr m6 f7).1⟩, ?_⟩
            dsimp only
            rw [if_pos rfl, if_neg ne10, e5, ob_some]
            dsimp only
            rw [bn_eq, e6'', ob_some, e7, ob_some, Bool.true_and]
            dsimp only
            by_cases c' : plv (cm S a.toNat) S.1 i = plv (cm S b.toNat) S.1 i
            · rw [if_pos (by rw [c']), bn_eq, bn_eq, iI_succ, iI_succ, decide_eq_true c', if_pos rfl]
            · rw [if_neg (by rw [iI_eq ⟨by omega, by omega⟩ ⟨by omega, by omega⟩]; exact c'), bn_eq, bn_eq, iI_add0, iI_succ, decide_eq_false c', if_neg (by decide)] <;> rfl
      · rw [if_neg (by rw [w3, iI_eqN (by omega) (by omega)]; exact rb), cas_neg (fun z => rb (rkm_3'.mpr z.2))]; exact OK.so ⟨rfl, f3⟩
  unfold MX12_touching
  refine m_lay h ha (fun s2 f2 m2 => ?_)
  refine OK.bi (m_rankOf hρ hS.1 m2) ?_
  rintro ⟨v, s3⟩ ⟨r1, r2⟩
  dsimp only at r1 r2 ⊢
  have f3 : Fr SC σ s3 := f2.tr (r2.mo (fun _ _ h => sc_RX h))
  rw [r1]
  by_cases ra : rkm S.1 (cm S a.toNat) = 3
  · rw [if_pos (by rw [ra]; rfl)]; exact B19 s3 1 f3 ⟨fun z => absurd z ne10, fun z => absurd ra z⟩
  · rw [if_neg (by rw [w3, iI_eqN (by omega) (by omega)]; exact ra)]; exact B19 s3 0 f3 ⟨fun _ => ra, fun _ => rfl⟩
theorem m_pencil {σ : Sto} {ρ : Rho} {S : Sheet} {a b w : Int} (h : QV σ ρ S) (ha : rg32 a) (hb : rg32 b) (hw : rg32 w) : OK (MX12_pencil σ ρ 92 (iI a) (iI b) (iI w)) (fun o => o.1 = iI (aPen S a b w) ∧ Fr SC σ o.2) := by
  obtain ⟨hD, hρ, hP, hS, hC, hM⟩ := id h
  obtain ⟨hp3, hp23⟩ := hS.1.le
  have hN := NP_le hS.1
  have hw' := hw
  unfold rg32 at hw'
  unfold MX12_pencil
  refine m_isPencil h ha hb (fun hn s f => ?_) (fun hy s f h7 => ?_)
  · unfold aPen
    dsimp only
    rw [if_pos rfl, cas_neg hn]; exact OK.so ⟨rfl, f⟩
  · unfold aPen
    have E : ∀ k : Int, rg32 k → ((iI w = iI k) ↔ w = k) := fun k hk => iI_eq hw hk
    have hq := QV_fr h f
    dsimp only
    rw [if_neg ne10, cas_pos hy]
    have e0 : (iI w = (0 : Int32)) ↔ w = 0 := E 0 ⟨by omega, by omega⟩
    have e1 : (iI w = (1 : Int32)) ↔ w = 1 := E 1 ⟨by omega, by omega⟩
    have e2 : (iI w = (2 : Int32)) ↔ w = 2 := E 2 ⟨by omega, by omega⟩
    simp only [e0, e1, e2]
    by_cases w0' : w = 0
    · rw [cas_pos w0', if_pos w0', show (-1 : Int32) = iI (-1) from rfl]
      refine OK.bi (m_base (k := -1) hq h7 hy.1 hy.2.1 ⟨by omega, by omega⟩ (by omega)) ?_
      rintro ⟨v, s2⟩ ⟨r1, r2, r3⟩
      dsimp only at r1 r2 ⊢
      refine OK.so ⟨?_, f.tr r1⟩
      dsimp only
      rw [r2 rfl, iI_sub]; congr 1; omega
    · rw [cas_neg w0', if_neg w0']
      by_cases w1' : w = 1
      · rw [cas_pos w1', if_pos w1']
        refine OK.bi (m_fallen hq h7 hy.1 hy.2.1) ?_
        rintro ⟨v, s2⟩ ⟨r1, r2⟩
        exact OK.so ⟨r1, f.tr r2⟩
      · rw [cas_neg w1', if_neg w1']
        by_cases w2' : w = 2
        · rw [cas_pos w2', if_pos w2']
          refine OK.bi (m_touching hq hy.1 hy.2.1) ?_
          rintro ⟨v, s2⟩ ⟨r1, r2⟩
          exact OK.so ⟨r1, f.tr r2⟩
        · rw [cas_neg w2', if_neg w2', show (100 : Int32) = iI 100 from rfl, show (999 : Int32) = iI 999 from rfl]
          rcases m_isIn (a := w) (b := 100) (c := 999) hw ⟨by omega, by omega⟩ ⟨by omega, by omega⟩ with ⟨x, y, e3⟩ | ⟨x, e3⟩
          · rw [e3, ob_some, if_neg ne10, cas_pos (show 100 ≤ w ∧ w ≤ 999 from ⟨x, y⟩), iI_sub]
            refine OK.bi (m_base (k := w - 100) hq h7 hy.1 hy.2.1 ⟨by omega, by omega⟩ (by omega)) ?_
            rintro ⟨v, s2⟩ ⟨r1, r2, r3⟩
            dsimp only at r1 r3 ⊢
            rw [bn_eq]
            rcases r3 (by omega) with ⟨i, k1, k2⟩ | ⟨k1, n, k2, k3⟩
            · have hi : i < NP S.1 := by unfold kth at k1; exact (fs_some k1).1
              rw [k1, k2, if_pos (by rw [w0, iI_leN (by omega) (by omega)]; omega)]
              exact OK.so ⟨rfl, f.tr r1⟩
            · rw [k1, k3, if_neg (by rw [show (0 : Int32) = iI 0 from rfl, iI_le ⟨by omega, by omega⟩ ⟨by omega, by omega⟩]; omega)]
              exact OK.so ⟨rfl, f.tr r1⟩
          · rw [e3, ob_some, if_pos rfl, cas_neg x, show (1000 : Int32) = iI 1000 from rfl, rmi_iI hw ⟨by omega, by omega⟩ (by omega), ob_some, bn_eq, show (3999 : Int32) = iI 3999 from rfl]
            rcases m_isIn (a := w) (b := 1000) (c := 3999) hw ⟨by omega, by omega⟩ ⟨by omega, by omega⟩ with ⟨x2, y2, e4⟩ | ⟨x2, e4⟩
            · rw [e4, ob_some, if_neg ne10, Int.tmod_eq_emod_of_nonneg (show 0 ≤ w by omega)]
              have ht0 : 0 ≤ w % 1000 := by omega
              by_cases c : w % 1000 ≤ S.1
              · obtain ⟨s2, e5, m5, f5⟩ := m_member1 (t := (w % 1000).toNat) hq hy.1 hy.2.1 h7 (by omega)
                rw [show (((w % 1000).toNat : Nat) : Int) = w % 1000 by omega] at e5
                have f6 : Fr SC σ s2 := f.tr (f5.mo (fun k i h => by unfold SC; omega))
                rw [if_pos (by rw [h7, iI_le ⟨by omega, by omega⟩ ⟨by omega, by omega⟩]; exact c), e5, ob_some, cas_pos (show 1000 ≤ w ∧ w ≤ 3999 ∧ w % 1000 ≤ S.1 from ⟨x2, y2, c⟩), show (2000 : Int32) = iI 2000 from rfl, show (3000 : Int32) = iI 3000 from rfl]
                unfold aPenM
                by_cases c2 : w < 2000
                · rw [if_neg (by rw [iI_le ⟨by omega, by omega⟩ hw]; omega), cas_pos c2]
                  refine OK.bi (m_kindOf hρ hS.1 m5) ?_
                  rintro ⟨v, s3⟩ ⟨r1, r2⟩
                  exact OK.so ⟨r1, f6.tr (r2.mo (fun _ _ h => sc_QX h))⟩
                · rw [if_pos (by rw [iI_le ⟨by omega, by omega⟩ hw]; omega), cas_neg c2]
                  by_cases c3 : w < 3000
                  · obtain ⟨s3, e6', f7⟩ := m_pointsOn hρ hS.1 m5
                    rw [if_neg (by rw [iI_le ⟨by omega, by omega⟩ hw]; omega), cas_pos c3, e6', ob_some, ptsN_ct hS.1]
                    exact OK.so ⟨rfl, f6.tr (f7.mo (fun _ _ h => sc_PX h))⟩
                  · obtain ⟨s3, e6', f7⟩ := m_linesOn hρ hS.1 m5
                    rw [if_pos (by rw [iI_le ⟨by omega, by omega⟩ hw]; omega), cas_neg c3, e6', ob_some, lnsN_ct hS.1]
                    exact OK.so ⟨rfl, f6.tr (f7.mo (fun _ _ h => sc_PX h))⟩
              · rw [if_neg (by rw [h7, iI_le ⟨by omega, by omega⟩ ⟨by omega, by omega⟩]; exact c), cas_neg (fun z => c z.2.2)]; exact OK.so ⟨rfl, f⟩
            · rw [e4, ob_some, if_pos rfl, cas_neg (fun z => x2 ⟨z.1, z.2.1⟩)]; exact OK.so ⟨rfl, f⟩
/-- passing -/
noncomputable def aPass (S : Sheet) (a b q : Int) : Int := cas (pcl S a b ∧ inP S.1 q) (oI (fs (fun t => onB (mbm S.1 (cm S a.toNat) (cm S b.toNat) t) S.1 q.toNat) (S.1 + 1))) (-1)
theorem k_passing {σ : Sto} {ρ : Rho} {S : Sheet} {a b q : Int} (h : QV σ ρ S) (ha : rg32 a) (hb : rg32 b) (hq : rg32 q) : OK (MX11_passing σ ρ 0 (iI a) (iI b) (iI q)) (fun o => o.1 = iI (aPass S a b q) ∧ Fr SC σ o.2) := by
  obtain ⟨hD, hρ, hP, hS, hC, hM⟩ := id h
  obtain ⟨hp3, hp23⟩ := hS.1.le
  unfold MX11_passing aPass
  refine k_pencilTake h ha hb (fun hn s f => ?_) (fun hy s f c1 c2 => ?_)
  · dsimp only
    rw [if_pos rfl, cas_neg (fun z => hn z.1)]; exact OK.so ⟨rfl, f⟩
  · dsimp only
    have hC' := (QV_fr h f).2.2.2.2.1
    rw [if_neg ne10, dk_0_11 hD, ob_some, dk_0_0 hD, ob_some, dk_1_0 hD, ob_some, hC'.1]
    rcases k_take (σ := s) (t := 89) hS.1 hq with ⟨i1, e2⟩ | ⟨i1, e2⟩
    · rw [e2, ob_some]
      dsimp only
      generalize hs1 : T3 s 89 (cX S.1 q.toNat) (cY S.1 q.toNat) (cZ S.1 q.toNat) = s1
      have f1 : Fr SC σ s1 := by rw [← hs1]; exact f.tr (sc_T3 (by omega))
      have t1 : Tr s1 89 (cX S.1 q.toNat) (cY S.1 q.toNat) (cZ S.1 q.toNat) := by rw [← hs1]; exact T3_Tr
      have d1 : Cv s1 60 S.1 (cm S a.toNat) := by rw [← hs1]; exact Cv_k c1 (fun i => T3_k (by decide)) (fun i => T3_k (by decide))
      have d2 : Cv s1 62 S.1 (cm S b.toNat) := by rw [← hs1]; exact Cv_k c2 (fun i => T3_k (by decide)) (fun i => T3_k (by decide))
      rw [if_neg ne10, dk_0_5 hD, ob_some, ob_some, cas_pos (show pcl S a b ∧ inP S.1 q from ⟨hy, i1⟩)]
      unfold MX6_firstThrough
      rw [bn_eq]
      suffices hx : OK (fixN (fun _ _ => none) (FX6_firstThrough_2 ρ 59 89) FU s1 (0 : Int32)) (fun o => o.1 = iI (oI (fs (fun t => onB (mbm S.1 (cm S a.toNat) (cm S b.toNat) t) S.1 q.toNat) (S.1 + 1))) ∧ Fr SC σ o.2) from OK.bi hx (fun o ho => OK.so ho)
      refine scan_g (S := Sto) (call := fun (g : Sto → Int32 → Option (Int32 × Sto)) s (k : Nat) => g s (iI k)) (N := S.1 + 1) (P := fun t => onB (mbm S.1 (cm S a.toNat) (cm S b.toNat) t) S.1 q.toNat) (I := fun s => Fr SC σ s ∧ Cv s 60 S.1 (cm S a.toNat) ∧ Cv s 62 S.1 (cm S b.toNat) ∧ Tr s 89 (cX S.1 q.toNat) (cY S.1 q.toNat) (cZ S.1 q.toNat)) (Post := fun o r => OK r (fun o' => o'.1 = iI (oI o) ∧ Fr SC σ o'.2)) ?_ ?_ ?_ (by unfold FU; omega) (s := s1) ⟨f1, d1, d2, t1⟩
      · intro g s2 ⟨k1, k2, k3, k4⟩
        unfold FX6_firstThrough_2
        rw [dk_59_0 hD, ob_some, k2.1, if_pos (by rw [iI_lt (rgN (by omega)) (rgN (by omega))]; omega)]
        exact OK.so ⟨rfl, k1⟩
      · intro g s2 t ⟨k1, k2, k3, k4⟩ ht hPt
        rcases k_member1 (t := (t : Int)) hD hS.1 k2 k3 (rgN (by omega)) with ⟨t0, t1', s3, e3, q1, q2⟩ | ⟨t0, e3⟩
        · rw [Int.toNat_natCast] at q1
          unfold FX6_firstThrough_2
          rw [dk_59_0 hD, ob_some, k2.1, if_neg (by rw [iI_lt (rgN (by omega)) (rgN (by omega))]; omega), e3, ob_some]
          dsimp only
          rw [if_neg ne10, dk_59_2 hD, ob_some, c_value (dk_64_0 hD) hS.1 q1 (Tr_k k4 (fun i => q2 _ _ (by unfold C2; omega))) (cXYZ_bd hS.1), ob_some, if_pos ((zI hS.1).mpr (of_decide_eq_true hPt))]
          exact OK.so ⟨rfl, k1.tr (sc_C2 q2 (by omega))⟩
        · exact absurd ⟨by omega, by omega⟩ t0
      · intro g s2 t ⟨k1, k2, k3, k4⟩ ht hPt
        rcases k_member1 (t := (t : Int)) hD hS.1 k2 k3 (rgN (by omega)) with ⟨t0, t1', s3, e3, q1, q2⟩ | ⟨t0, e3⟩
        · rw [Int.toNat_natCast] at q1
          refine ⟨s3, ⟨k1.tr (sc_C2 q2 (by omega)), Cv_k k2 (fun i => q2 _ _ (by unfold C2; omega)) (fun i => q2 _ _ (by unfold C2; omega)), Cv_k k3 (fun i => q2 _ _ (by unfold C2; omega)) (fun i => q2 _ _ (by unfold C2; omega)), Tr_k k4 (fun i => q2 _ _ (by unfold C2; omega))⟩, ?_⟩
          unfold FX6_firstThrough_2 BX6_firstThrough_34
          rw [dk_59_0 hD, ob_some, k2.1, if_neg (by rw [iI_lt (rgN (by omega)) (rgN (by omega))]; omega), e3, ob_some]
          dsimp only
          rw [if_neg ne10, dk_59_2 hD, ob_some, c_value (dk_64_0 hD) hS.1 q1 (Tr_k k4 (fun i => q2 _ _ (by unfold C2; omega))) (cXYZ_bd hS.1), ob_some, if_neg (fun z => (of_decide_eq_false hPt) ((zI hS.1).mp z)), bn_eq, iI_succ]
        · exact absurd ⟨by omega, by omega⟩ t0
    · rw [e2, ob_some]
      dsimp only
      rw [if_pos rfl, cas_neg (fun z => i1 z.2)]; exact OK.so ⟨rfl, f⟩
theorem m_passing {σ : Sto} {ρ : Rho} {S : Sheet} {a b q : Int} (h : QV σ ρ S) (ha : rg32 a) (hb : rg32 b) (hq : rg32 q) : OK (MX12_passing σ ρ 92 (iI a) (iI b) (iI q)) (fun o => o.1 = iI (aPass S a b q) ∧ Fr SC σ o.2) := by
  obtain ⟨hD, hρ, hP, hS, hC, hM⟩ := id h
  obtain ⟨hp3, hp23⟩ := hS.1.le
  unfold MX12_passing
  refine m_isPencil h ha hb (fun hn s f => ?_) (fun hy s f h7 => ?_)
  · unfold aPass
    dsimp only
    rw [if_pos rfl, cas_neg (fun z => hn z.1)]; exact OK.so ⟨rfl, f⟩
  · unfold aPass
    dsimp only
    rw [if_neg ne10]
    rcases m_isPlace (QV_fr h f) hq with ⟨i1, e2⟩ | ⟨i1, e2⟩
    · rw [e2, ob_some]
      dsimp only
      have en : ((q.toNat : Nat) : Int) = q := by unfold inP at i1; omega
      have hqN : q.toNat < NP S.1 := by unfold inP at i1; omega
      rw [if_neg ne10, bn_eq, cas_pos (show pcl S a b ∧ inP S.1 q from ⟨hy, i1⟩)]
      refine scan_g (S := Sto) (call := fun (g : Sto → Int32 → Option (Int32 × Sto)) s (k : Nat) => g s (iI k)) (N := S.1 + 1) (P := fun t => onB (mbm S.1 (cm S a.toNat) (cm S b.toNat) t) S.1 q.toNat) (I := fun s => Fr SC σ s ∧ s 92 7 = iI S.1) (Post := fun o r => OK r (fun o' => o'.1 = iI (oI o) ∧ Fr SC σ o'.2)) ?_ ?_ ?_ (by unfold FU; omega) (s := su s 92 7 (iI S.1)) ⟨f.tr sc_su7, su_s⟩
      · intro g s2 ⟨k1, k2⟩
        unfold FX12_passing_22
        rw [k2, if_pos (by rw [iI_lt (rgN (by omega)) (rgN (by omega))]; omega)]
        exact OK.so ⟨rfl, k1⟩
      all_goals
        intro g s2 t ⟨k1, k2⟩ ht hPt
        obtain ⟨s3, e3, m3, f3⟩ := m_member1 (t := t) (QV_fr h k1) hy.1 hy.2.1 k2 (by omega)
        obtain ⟨s4, e4, f4⟩ := m_isOn' (n := q.toNat) hρ hS.1 m3 hqN
        rw [en] at e4
        have f5 : Fr SC σ s4 := (k1.tr (f3.mo (fun k i h => by unfold SC; omega))).tr (f4.mo (fun _ _ h => sc_PX h))
      · unfold FX12_passing_22
        rw [k2, if_neg (by rw [iI_lt (rgN (by omega)) (rgN (by omega))]; omega), e3, ob_some, e4, ob_some, hPt]
        dsimp only
        rw [if_pos rfl, if_neg ne10]
        exact OK.so ⟨rfl, f5⟩
      · refine ⟨s4, ⟨f5, (Mm_fr m3 f4).1⟩, ?_⟩
        unfold FX12_passing_22
        rw [k2, if_neg (by rw [iI_lt (rgN (by omega)) (rgN (by omega))]; omega), e3, ob_some, e4, ob_some, hPt]
        simp [bn_eq, iI_succ]
    · rw [e2, ob_some]
      dsimp only
      rw [if_pos rfl, cas_neg (fun z => i1 z.2)]; exact OK.so ⟨rfl, f.tr sc_su7⟩
