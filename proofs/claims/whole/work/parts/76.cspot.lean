/-! THE CLASS'S FLOOD: a spot taken out of what is left, run by run -/
theorem rdJ_self (σ : Sto) (a k : Nat) (v : Int64) (y : Nat) : (stJ σ a k v).2 a y = if y = k then v else σ.2 a y := by simp [stJ, up2]
theorem rdJ_ne {σ : Sto} {a c k : Nat} {v : Int64} (h : c ≠ a) : (stJ σ a k v).2 c = σ.2 c := up2_ne _ _ _ h
def CW (b : Nat) (σ : Sto) : Prop := (∀ y, y < 64 → σ.2 (b + 59) y = 0) ∧ σ.2 (b + 50) 5 = 0
def FR (b w h f : Nat) (σ : Sto) (A Q Wt : Nat → Nat → Bool) : Prop :=
  Sh σ (b + 53) (b + 54) 64 (w, h, fun x y => A x y && !Q x y) ∧ Sh σ (b + 55) (b + 56) 64 (w, h, Q) ∧ (∀ y, y < 64 → ∀ x, tb (σ.2 (b + 59) y) x = Wt x y) ∧ (∀ y, tb (σ.2 (b + 50) 5) y = anyB (fun x => Wt x y) 64) ∧ σ.1 (b + 50) 6 = nI (fb_ct (pk2 Q) 4096) ∧ σ.1 (b + 50) 9 = nI f ∧ ∃ tp bt, σ.1 (b + 50) 7 = nI tp ∧ σ.1 (b + 50) 8 = nI bt ∧ tp < 64 ∧ bt < 64 ∧ ∀ x y, Q x y = true → tp ≤ y ∧ y ≤ bt
theorem FR_A {b w h f : Nat} {σ : Sto} {A Q Wt : Nat → Nat → Bool} (hF : FR b w h f σ A Q Wt) {x y : Nat} (ha : A x y = true) : x < w ∧ y < h := by
  cases hq : Q x y with
  | true => exact hF.2.1.2.2.2.2.2 x y hq
  | false => exact hF.1.2.2.2.2.2 x y (by simp only; rw [ha, hq]; rfl)
/-- one row more -/
def addR (Q : Nat → Nat → Bool) (y : Nat) (R : Nat → Bool) : Nat → Nat → Bool := fun x v => Q x v || (decide (v = y) && R x)
theorem addR_no (Q : Nat → Nat → Bool) (y : Nat) : addR Q y (fun _ => false) = Q := by funext x v; simp [addR]
theorem addR_self (Q : Nat → Nat → Bool) (y : Nat) (R : Nat → Bool) (x : Nat) : addR Q y R x y = (Q x y || R x) := by simp [addR]
theorem addR_ne (Q : Nat → Nat → Bool) {y v : Nat} (R : Nat → Bool) (x : Nat) (h : v ≠ y) : addR Q y R x v = Q x v := by simp [addR, h]
def RunOk (A Q : Nat → Nat → Bool) (y : Nat) (T R : Nat → Bool) : Prop :=
  (∀ x, R x = true → A x y = true ∧ Q x y = false) ∧ (∀ x, T x = true → A x y = true → Q x y = false → R x = true) ∧ (∀ x, R x = true → A (x + 1) y = true → Q (x + 1) y = false → R (x + 1) = true) ∧ (∀ x, R (x + 1) = true → A x y = true → Q x y = false → R x = true) ∧ (∀ S : Nat → Prop, (∀ x, T x = true → A x y = true → Q x y = false → S x) → (∀ x, S x → A (x + 1) y = true → S (x + 1)) → (∀ x, S (x + 1) → A x y = true → S x) → ∀ x, R x = true → S x)
theorem RunOk_none {A Q : Nat → Nat → Bool} {y : Nat} {T : Nat → Bool} (h : ∀ x, T x = true → A x y = true → Q x y = false → False) : RunOk A Q y T (fun _ => false) :=
  ⟨fun x q => (Bool.false_ne_true q).elim, fun x q1 q2 q3 => (h x q1 q2 q3).elim, fun x q => (Bool.false_ne_true q).elim, fun x q => (Bool.false_ne_true q).elim, fun S _ _ _ x q => (Bool.false_ne_true q).elim⟩
theorem ct_add {Q : Nat → Nat → Bool} {y : Nat} {R : Nat → Bool} (hy : y < 64) (hd : ∀ x, R x = true → Q x y = false) : fb_ct (pk2 (addR Q y R)) 4096 = fb_ct (pk2 Q) 4096 + fb_ct R 64 := by
  have e1 : ∀ S : Nat → Nat → Bool, fb_ct (pk2 S) 4096 = fb_sm (fun v => fb_ct (fun x => S x v) 64) 64 := fun S => (ct_rows S 64).symm
  rw [e1, e1]
  have hrow : fb_ct (fun x => addR Q y R x y) 64 = fb_ct (fun x => Q x y) 64 + fb_ct R 64 := by
    rw [show (fun x => addR Q y R x y) = (fun x => Q x y || R x) from funext (addR_self Q y R)]
    exact fb_ct_or (fun k _ q => by rw [hd k q.2] at q; exact Bool.false_ne_true q.1)
  have e2 : fb_sm (fun v => fb_ct (fun x => addR Q y R x v) 64) 64 = fb_sm (fun v => if v = y then fb_ct (fun x => addR Q y R x y) 64 else fb_ct (fun x => Q x v) 64) 64 := fb_sm_cong (fun v _ => by
    by_cases e : v = y
    · subst e; rw [if_pos rfl]
    · rw [if_neg e]; exact fb_ct_cong (fun x _ => addR_ne Q R x e))
  have e3 := fb_sm_upd (fun v => fb_ct (fun x => Q x v) 64) (fb_ct (fun x => addR Q y R x y) 64) hy
  omega
theorem admit_eq {b w h f : Nat} {σ : Sto} {A Q Wt : Nat → Nat → Bool} (hF : FR b w h f σ A Q Wt) {y : Nat} (hy : y ≤ 64) (T : Int64) (hWQ : ∀ x v, Wt x v = true → Q x v = true) :
    ∃ τ R, F_X3_admit (ΛE b) σ (b + 50) (nI y) T = some τ ∧ FR b w h f τ A (addR Q y R) (addR Wt y R) ∧ Fr [b + 50, b + 54, b + 56, b + 59] σ τ ∧ RunOk A Q y (tb T) R := by
  have hA := fun {x v : Nat} => FR_A hF (x := x) (y := v)
  have hF0 := hF
  obtain ⟨hl, hs, hwt, hwr, hpt, hff, tp, bt, htp, hbt, htp2, hbt2, hrng⟩ := hF
  have hh : h ≤ 64 := hl.2.2.2.1
  have hw : w ≤ 64 := hl.2.2.1
  unfold F_X3_admit
  rw [nmE, r50_1]
  by_cases c1 : y < h
  · rw [hasRow_t hl (by omega) c1, if_neg (by decide)]
    have hrow : ∀ x, tb (σ.2 (b + 54) y) x = (A x y && !Q x y) := fun x => hl.2.2.2.2.1 y (by omega) x
    have c2e : (lg_cmp (T &&& σ.2 (b + 54) y) 0 = nI 0) = (∀ i, tb (T &&& σ.2 (b + 54) y) i = false) := zero_is
    simp (disch := omega) only [r53_2, l54, r50_2, r55_2, l56, r50_4, l59, gd_nI, nI_cl, ↓reduceIte, e0]
    by_cases c2 : ∀ i, tb (T &&& σ.2 (b + 54) y) i = false
    · rw [if_pos (by rw [c2e]; exact c2)]
      refine ⟨σ, fun _ => false, rfl, by rw [addR_no, addR_no]; exact hF0, Fr_refl _ _, RunOk_none (fun x q1 q2 q3 => ?_)⟩
      have := c2 x
      rw [tb_and, hrow, q1, q2, q3] at this
      cases this
    · rw [if_neg (by rw [c2e]; exact c2)]
      obtain ⟨v, v1, v2⟩ := runsAt_eq (s := T &&& σ.2 (b + 54) y) (i := σ.2 (b + 54) y) (fun x q => by
        rw [tb_and, Bool.and_eq_true] at q
        exact q.2)
      rw [v1, Option.bind_some]
      simp only [nmE]
      have lo : ∀ {x}, tb (σ.2 (b + 54) y) x = true → x < 64 := fun {x} q => by
        rcases Nat.lt_or_ge x 64 with z | z
        · exact z
        · rw [tb_big z] at q; cases q
      have R1 : ∀ x, tb v x = true → tb (σ.2 (b + 54) y) x = true := by
        intro x q
        rcases (v2 x).mp q with ⟨j, j1, j2, j3, j4⟩ | ⟨j, j1, j2, j3, j4⟩
        · exact j4 x (by omega) (by omega)
        · exact j4 x (by omega) (by omega)
      have R2 : ∀ x, tb (T &&& σ.2 (b + 54) y) x = true → tb v x = true := fun x q => (v2 x).mpr (Or.inl ⟨x, by omega, by omega, q, fun z z1 z2 => by
        rw [show z = x by omega]
        rw [tb_and, Bool.and_eq_true] at q
        exact q.2⟩)
      have R3 : ∀ x, tb v x = true → tb (σ.2 (b + 54) y) (x + 1) = true → tb v (x + 1) = true := by
        intro x q q2
        have := lo q2
        rcases (v2 x).mp q with ⟨j, j1, j2, j3, j4⟩ | ⟨j, j1, j2, j3, j4⟩
        · refine (v2 _).mpr (Or.inl ⟨j, by omega, by omega, j3, fun z z1 z2 => ?_⟩)
          by_cases e : z = x + 1
          · rw [e]; exact q2
          · exact j4 z z1 (by omega)
        · by_cases e : j = x
          · subst e
            refine (v2 _).mpr (Or.inl ⟨j, by omega, by omega, j3, fun z z1 z2 => ?_⟩)
            by_cases e : z = j + 1
            · rw [e]; exact q2
            · exact j4 z z1 (by omega)
          · exact (v2 _).mpr (Or.inr ⟨j, by omega, by omega, j3, fun z z1 z2 => j4 z (by omega) z2⟩)
      have R4 : ∀ x, tb v (x + 1) = true → tb (σ.2 (b + 54) y) x = true → tb v x = true := by
        intro x q q2
        rcases (v2 (x + 1)).mp q with ⟨j, j1, j2, j3, j4⟩ | ⟨j, j1, j2, j3, j4⟩
        · by_cases e : j = x + 1
          · refine (v2 _).mpr (Or.inr ⟨j, by omega, by omega, j3, fun z z1 z2 => ?_⟩)
            by_cases e2 : z = x
            · rw [e2]; exact q2
            · exact j4 z (by omega) (by omega)
          · exact (v2 _).mpr (Or.inl ⟨j, by omega, by omega, j3, fun z z1 z2 => j4 z z1 (by omega)⟩)
        · have := lo (j4 j (by omega) (by omega))
          refine (v2 _).mpr (Or.inr ⟨j, by omega, by omega, j3, fun z z1 z2 => ?_⟩)
          by_cases e2 : z = x
          · rw [e2]; exact q2
          · exact j4 z (by omega) z2
      have R5 : ∀ S : Nat → Prop, (∀ x, tb (T &&& σ.2 (b + 54) y) x = true → S x) → (∀ x, S x → tb (σ.2 (b + 54) y) (x + 1) = true → S (x + 1)) → (∀ x, S (x + 1) → tb (σ.2 (b + 54) y) x = true → S x) → ∀ x, tb v x = true → S x := by
        intro S s1 s2 s3 x q
        rcases (v2 x).mp q with ⟨j, j1, j2, j3, j4⟩ | ⟨j, j1, j2, j3, j4⟩
        · have : ∀ d, j + d ≤ x → S (j + d) := by
            intro d
            induction d with
            | zero => intro _; exact s1 j j3
            | succ d ih => intro hd; exact s2 _ (ih (by omega)) (j4 (j + d + 1) (by omega) (by omega))
          have h := this (x - j) (by omega)
          rwa [show j + (x - j) = x by omega] at h
        · have : ∀ d, x + d ≤ j → S (j - d) := by
            intro d
            induction d with
            | zero => intro _; exact s1 j j3
            | succ d ih =>
              intro hd
              have h := ih (by omega)
              rw [show j - d = (j - (d + 1)) + 1 by omega] at h
              exact s3 _ h (j4 _ (by omega) (by omega))
          have h := this (j - x) (by omega)
          rwa [show j - (j - x) = x by omega] at h
      have lft : ∀ {x}, tb (σ.2 (b + 54) y) x = true ↔ A x y = true ∧ Q x y = false := by
        intro x
        rw [hrow]
        simp
      have dis : ∀ x, tb v x = true → Q x y = false := fun x q => (lft.mp (R1 x q)).2
      refine ⟨_, tb v, rfl, ?_, ?_, ?_, ?_, ?_, ?_, ?_⟩
      · have hcq := fb_ct_le (pk2 Q) 4096
        have hcv := fb_ct_le (tb v) 64
        refine ⟨⟨?_, ?_, hw, hh, fun v' hv' x => ?_, fun x v' q => ?_⟩, ⟨?_, ?_, hw, hh, fun v' hv' x => ?_, fun x v' q => ?_⟩, fun v' hv' x => ?_, fun v' => ?_, ?_, ?_, ?_⟩
        · simp (disch := omega) only [stI_1, stI_2, stJ_1, stJ_2, putJ_1, putI_2, up2_self, up2_ne, up2_nk]; exact hl.1
        · simp (disch := omega) only [stI_1, stI_2, stJ_1, stJ_2, putJ_1, putI_2, up2_self, up2_ne, up2_nk]; exact hl.2.1
        · simp (disch := omega) only [stI_2, rdJ_ne, rdJ_self]
          by_cases e : v' = y
          · subst e
            rw [if_pos rfl, tb_and, tb_not, hrow]
            show _ = (A x v' && !addR Q v' (tb v) x v')
            rw [addR_self]
            cases ha : A x v' with
            | false => rfl
            | true =>
              have := (hA ha).1
              rw [decide_eq_true (show x < 64 by omega)]
              cases Q x v' <;> cases tb v x <;> rfl
          · rw [if_neg e, hl.2.2.2.2.1 v' hv']
            show (A x v' && !Q x v') = (A x v' && !addR Q y (tb v) x v')
            rw [addR_ne _ _ _ e]
        · have q : (A x v' && !addR Q y (tb v) x v') = true := q
          rw [Bool.and_eq_true] at q
          exact hA q.1
        · simp (disch := omega) only [stI_1, stI_2, stJ_1, stJ_2, putJ_1, putI_2, up2_self, up2_ne, up2_nk]; exact hs.1
        · simp (disch := omega) only [stI_1, stI_2, stJ_1, stJ_2, putJ_1, putI_2, up2_self, up2_ne, up2_nk]; exact hs.2.1
        · simp (disch := omega) only [stI_2, rdJ_ne, rdJ_self]
          by_cases e : v' = y
          · subst e
            rw [if_pos rfl, tb_or, hs.2.2.2.2.1 v' hv']
            show _ = addR Q v' (tb v) x v'
            rw [addR_self]
          · rw [if_neg e, hs.2.2.2.2.1 v' hv']
            show _ = addR Q y (tb v) x v'
            rw [addR_ne _ _ _ e]
        · have q : addR Q y (tb v) x v' = true := q
          by_cases e : v' = y
          · subst e
            rw [addR_self, Bool.or_eq_true] at q
            rcases q with q | q
            · exact hs.2.2.2.2.2 x v' q
            · exact hA (lft.mp (R1 x q)).1
          · rw [addR_ne _ _ _ e] at q
            exact hs.2.2.2.2.2 x v' q
        · simp (disch := omega) only [stI_2, rdJ_ne, rdJ_self]
          by_cases e : v' = y
          · subst e
            rw [if_pos rfl, tb_or, hwt v' hv', addR_self]
          · rw [if_neg e, hwt v' hv', addR_ne _ _ _ e]
        · simp (disch := omega) only [stI_2, rdJ_ne, rdJ_self, ↓reduceIte]
          rw [tb_or, tb_bit (by omega), hwr]
          by_cases e : v' = y
          · subst e
            simp only [decide_true, Bool.or_true]
            symm
            rw [anyB_iff]
            have c3 : ∃ i, tb (T &&& σ.2 (b + 54) v') i = true := Classical.byContradiction fun c3 => c2 (fun i => by
              cases hc : tb (T &&& σ.2 (b + 54) v') i with
              | false => rfl
              | true => exact absurd ⟨i, hc⟩ c3)
            obtain ⟨i, hi⟩ := c3
            have hv := R2 i hi
            exact ⟨i, lo (R1 i hv), by rw [addR_self, hv, Bool.or_true]⟩
          · rw [decide_eq_false e, Bool.or_false]
            congr 1
            funext x
            rw [addR_ne _ _ _ e]
        · simp (disch := omega) only [stI_1, stI_2, stJ_1, stJ_2, putJ_1, putI_2, up2_self, up2_ne, up2_nk]
          rw [hpt, bitCount_eq, nI_add, ct_add (by omega) dis]
        · simp (disch := omega) only [stI_1, stI_2, stJ_1, stJ_2, putJ_1, putI_2, up2_self, up2_ne, up2_nk]; exact hff
        · refine ⟨min tp y, max bt y, ?_, ?_, by omega, by omega, fun x v' q => ?_⟩
          · simp (disch := omega) only [stI_1, stI_2, stJ_1, stJ_2, putJ_1, putI_2, up2_self, up2_ne, up2_nk]
            rw [htp, mn_nI (by omega) (by omega)]
          · simp (disch := omega) only [stI_1, stI_2, stJ_1, stJ_2, putJ_1, putI_2, up2_self, up2_ne, up2_nk]
            rw [hbt, mx_nI (by omega) (by omega)]
          · by_cases e : v' = y
            · omega
            · rw [addR_ne _ _ _ e] at q
              have := hrng x v' q
              omega
      · exact Fr_trans (Fr_trans (Fr_trans (Fr_trans (Fr_trans (Fr_trans (Fr_stJ (by simp)) (Fr_stJ (by simp))) (Fr_stJ (by simp))) (Fr_stJ (by simp))) (Fr_stI (by simp))) (Fr_stI (by simp))) (Fr_stI (by simp))
      · exact fun x q => lft.mp (R1 x q)
      · exact fun x q1 q2 q3 => R2 x (by rw [tb_and, q1, lft.mpr ⟨q2, q3⟩]; rfl)
      · exact fun x q1 q2 q3 => R3 x q1 (lft.mpr ⟨q2, q3⟩)
      · exact fun x q1 q2 q3 => R4 x q1 (lft.mpr ⟨q2, q3⟩)
      · intro S s1 s2 s3
        refine R5 S (fun x q => ?_) (fun x q1 q2 => s2 x q1 (lft.mp q2).1) (fun x q1 q2 => s3 x q1 (lft.mp q2).1)
        rw [tb_and, Bool.and_eq_true] at q
        exact s1 x q.1 (lft.mp q.2).1 (lft.mp q.2).2
  · rw [hasRow_f hl (by omega) (fun ⟨k, k1, k2⟩ => by
      have k1 : k < h := k1
      have := (nI_eq (by omega) (by omega)).mp k2
      omega), if_pos nI_0]
    refine ⟨σ, fun _ => false, rfl, by rw [addR_no, addR_no]; exact hF0, Fr_refl _ _, RunOk_none (fun x _ q2 _ => c1 (hA q2).2)⟩
theorem admit_up {b w h f : Nat} {σ : Sto} {A Q Wt : Nat → Nat → Bool} (hF : FR b w h f σ A Q Wt) (T : Int64) : F_X3_admit (ΛE b) σ (b + 50) (nI 0 - 1) T = some σ := by
  obtain ⟨hl, -⟩ := hF
  have hh : h ≤ 64 := hl.2.2.2.1
  unfold F_X3_admit
  rw [nmE, r50_1, hasRow_f hl (by omega) (fun ⟨k, k1, k2⟩ => by
      have k1 : k < h := k1
      rw [eq32, nI_ti (by omega), show (nI 0 - 1 : Int32).toInt = -1 by decide] at k2
      omega), if_pos nI_0]
