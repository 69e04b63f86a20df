/-! THE CLASS'S FLOOD, to its end; the next spot -/
def FL (I A Q Wt : Nat → Nat → Bool) (sx sy : Nat) : Prop :=
  (∀ x y, Q x y = true → A x y = true) ∧ (∀ x y, Wt x y = true → Q x y = true) ∧ (∀ x y, Q x y = true → A (x + 1) y = true → Q (x + 1) y = true) ∧ (∀ x y, Q (x + 1) y = true → A x y = true → Q x y = true) ∧ (∀ x y u v, Q x y = true → Wt x y = false → ad x y u v → A u v = true → Q u v = true) ∧ (∀ x y, Q x y = true → cn I sx sy x y) ∧ Q sx sy = true
/-- what an admission keeps -/
theorem FL_add {I A Q : Nat → Nat → Bool} {sx sy y : Nat} {T R : Nat → Bool} (hAI : ∀ x y, A x y = true → I x y = true) (h1 : ∀ x y, Q x y = true → A x y = true) (h3 : ∀ x y, Q x y = true → A (x + 1) y = true → Q (x + 1) y = true) (h4 : ∀ x y, Q (x + 1) y = true → A x y = true → Q x y = true) (h6 : ∀ x y, Q x y = true → cn I sx sy x y) (hR : RunOk A Q y T R) (hT : ∀ x, T x = true → A x y = true → Q x y = false → cn I sx sy x y) :
    (∀ x v, addR Q y R x v = true → A x v = true) ∧ (∀ x v, addR Q y R x v = true → A (x + 1) v = true → addR Q y R (x + 1) v = true) ∧ (∀ x v, addR Q y R (x + 1) v = true → A x v = true → addR Q y R x v = true) ∧ (∀ x v, addR Q y R x v = true → cn I sx sy x v) := by
  obtain ⟨r1, r2, r3, r4, r5⟩ := hR
  refine ⟨fun x v q => ?_, fun x v q qa => ?_, fun x v q qa => ?_, fun x v q => ?_⟩
  · by_cases e : v = y
    · subst e
      rw [addR_self, Bool.or_eq_true] at q
      rcases q with q | q
      · exact h1 x v q
      · exact (r1 x q).1
    · rw [addR_ne _ _ _ e] at q; exact h1 x v q
  · by_cases e : v = y
    · subst e
      rw [addR_self, Bool.or_eq_true] at q ⊢
      cases hq : Q (x + 1) v with
      | true => exact Or.inl rfl
      | false =>
        rcases q with q | q
        · rw [h3 x v q qa] at hq; cases hq
        · exact Or.inr (r3 x q qa hq)
    · rw [addR_ne _ _ _ e] at q ⊢; exact h3 x v q qa
  · by_cases e : v = y
    · subst e
      rw [addR_self, Bool.or_eq_true] at q ⊢
      cases hq : Q x v with
      | true => exact Or.inl rfl
      | false =>
        rcases q with q | q
        · rw [h4 x v q qa] at hq; cases hq
        · exact Or.inr (r4 x q qa hq)
    · rw [addR_ne _ _ _ e] at q ⊢; exact h4 x v q qa
  · by_cases e : v = y
    · subst e
      rw [addR_self, Bool.or_eq_true] at q
      rcases q with q | q
      · exact h6 x v q
      · exact r5 (fun x => cn I sx sy x v) hT (fun z c1 c2 => cn_trans c1 (cn_one ⟨by omega, by omega, by omega, by omega⟩ (hAI _ _ c2))) (fun z c1 c2 => cn_trans c1 (cn_one ⟨by omega, by omega, by omega, by omega⟩ (hAI _ _ c2))) x q
    · rw [addR_ne _ _ _ e] at q; exact h6 x v q
theorem widened_tb (v : Int64) (x : Nat) : tb (F_X3_widened v) x = (tb v x || (decide (x < 64) && (decide (1 ≤ x) && tb v (x - 1))) || tb v (1 + x)) := by
  unfold F_X3_widened
  rw [e1, tb_or, tb_or, tb_shl (by omega), tb_ushr (by omega)]
theorem widened_t {v : Int64} {x u : Nat} (h : tb v u = true) (h1 : x ≤ u + 1) (h2 : u ≤ x + 1) (hx : x < 64) : tb (F_X3_widened v) x = true := by
  rw [widened_tb]
  rcases (show u = x ∨ u + 1 = x ∨ u = 1 + x by omega) with q | q | q
  · subst q; rw [h]; rfl
  · subst q
    rw [show u + 1 - 1 = u by omega, h]
    simp [hx]
  · subst q; rw [h]; simp
theorem widened_f {v : Int64} {x : Nat} (h : tb (F_X3_widened v) x = true) : ∃ u, tb v u = true ∧ x ≤ u + 1 ∧ u ≤ x + 1 := by
  rw [widened_tb] at h
  simp only [Bool.or_eq_true, Bool.and_eq_true, decide_eq_true_eq] at h
  rcases h with (h | h) | h
  · exact ⟨x, h, by omega, by omega⟩
  · exact ⟨x - 1, h.2.2, by omega, by omega⟩
  · exact ⟨1 + x, h, by omega, by omega⟩
def cutR (Wt : Nat → Nat → Bool) (y : Nat) : Nat → Nat → Bool := fun x v => decide (v ≠ y) && Wt x v
def notW (Q Wt : Nat → Nat → Bool) : Nat → Nat → Bool := fun x v => Q x v && !Wt x v
theorem grow_eq {b w h f sx sy y : Nat} {σ : Sto} {I A Q Wt : Nat → Nat → Bool} (hF : FR b w h f σ A Q Wt) (hL : FL I A Q Wt sx sy) (hAI : ∀ x y, A x y = true → I x y = true) (hyw : ∃ x, Wt x y = true) :
    ∃ τ Q2 W2, F_X3_growFrom (ΛE b) σ (b + 50) (nI y) = some τ ∧ FR b w h f τ A Q2 W2 ∧ FL I A Q2 W2 sx sy ∧ Fr [b + 50, b + 54, b + 56, b + 59] σ τ ∧ fb_ct (pk2 (notW Q Wt)) 4096 < fb_ct (pk2 (notW Q2 W2)) 4096 := by
  obtain ⟨x0, hx0⟩ := hyw
  have hA := fun {x v : Nat} => FR_A hF (x := x) (y := v)
  obtain ⟨l1, l2, l3, l4, l5, l6, l7⟩ := hL
  have hq0 := l2 x0 y hx0
  have hb0 := hA (l1 x0 y hq0)
  have hh : h ≤ 64 := hF.1.2.2.2.1
  have hw : w ≤ 64 := hF.1.2.2.1
  have hwt := hF.2.2.1
  unfold F_X3_growFrom
  simp (disch := omega) only [r50_4, l59, gd_nI, nI_cl, ↓reduceIte, nmE]
  generalize hr : F_X3_widened (σ.2 (b + 59) y) = reach
  have rt : ∀ {x u}, Wt u y = true → x ≤ u + 1 → u ≤ x + 1 → x < 64 → tb reach x = true := fun {x u} q1 q2 q3 q4 => by
    rw [← hr]; exact widened_t (by rw [hwt y (by omega)]; exact q1) q2 q3 q4
  have rf : ∀ {x}, tb reach x = true → ∃ u, Wt u y = true ∧ x ≤ u + 1 ∧ u ≤ x + 1 := fun {x} q => by
    rw [← hr] at q
    obtain ⟨u, u1, u2, u3⟩ := widened_f q
    exact ⟨u, by rw [← hwt y (by omega)]; exact u1, u2, u3⟩
  have hF1 : FR b w h f (stJ (stJ σ (b + 59) y 0) (b + 50) 5 ((stJ σ (b + 59) y 0).2 (b + 50) 5 &&& (shlL 1 (nI y) ^^^ -1))) A Q (cutR Wt y) := by
    obtain ⟨g1, g2, g3, g4, g5, g6, g7⟩ := hF
    refine ⟨Sh_fr g1 rfl (by simp (disch := omega) only [rdJ_ne]), Sh_fr g2 rfl (by simp (disch := omega) only [rdJ_ne]), fun v hv x => ?_, fun v => ?_, g5, g6, g7⟩
    · simp (disch := omega) only [rdJ_ne, rdJ_self]
      by_cases e : v = y
      · rw [if_pos e, tb_zero]; simp [cutR, e]
      · rw [if_neg e, g3 v hv]; simp [cutR, e]
    · simp (disch := omega) only [rdJ_ne, rdJ_self, ↓reduceIte]
      rw [tb_and, tb_not, tb_bit (by omega), g4]
      by_cases e : v = y
      · rw [decide_eq_true e]
        simp only [Bool.not_true, Bool.and_false]
        symm
        rw [anyB_not]
        intro k _
        simp [cutR, e]
      · rw [decide_eq_false e]
        by_cases e2 : v < 64
        · rw [decide_eq_true e2]
          simp only [Bool.not_false, Bool.and_true]
          congr 1
          funext x
          simp [cutR, e]
        · rw [decide_eq_false e2]
          simp only [Bool.false_and, Bool.and_false]
          symm
          rw [anyB_not]
          intro k _
          cases hc : Wt k v with
          | false => simp [cutR, hc]
          | true => have := hA (l1 k v (l2 k v hc)); omega
  have fr1 : Fr [b + 50, b + 54, b + 56, b + 59] σ (stJ (stJ σ (b + 59) y 0) (b + 50) 5 ((stJ σ (b + 59) y 0).2 (b + 50) 5 &&& (shlL 1 (nI y) ^^^ -1))) := Fr_trans (Fr_stJ (by simp)) (Fr_stJ (by simp))
  generalize stJ (stJ σ (b + 59) y 0) (b + 50) 5 ((stJ σ (b + 59) y 0).2 (b + 50) 5 &&& (shlL 1 (nI y) ^^^ -1)) = σ1 at *
  have cutQ : ∀ x v, cutR Wt y x v = true → Q x v = true := fun x v q => l2 x v (by
    have q : (decide (v ≠ y) && Wt x v) = true := q
    rw [Bool.and_eq_true] at q
    exact q.2)
  have snd : ∀ {x v}, (v + 1 = y ∨ v = y + 1) → tb reach x = true → A x v = true → cn I sx sy x v := by
    intro x v hv q qa
    obtain ⟨u, u1, u2, u3⟩ := rf q
    exact cn_trans (l6 u y (l2 u y u1)) (cn_one ⟨by omega, by omega, by omega, by omega⟩ (hAI _ _ qa))
  -- the row above
  have up : ∃ τ1 Q1 W1, F_X3_admit (ΛE b) σ1 (b + 50) (nI y - 1) reach = some τ1 ∧ FR b w h f τ1 A Q1 W1 ∧ Fr [b + 50, b + 54, b + 56, b + 59] σ1 τ1 ∧ (∀ x v, Q1 x v = true → A x v = true) ∧ (∀ x v, Q1 x v = true → A (x + 1) v = true → Q1 (x + 1) v = true) ∧ (∀ x v, Q1 (x + 1) v = true → A x v = true → Q1 x v = true) ∧ (∀ x v, Q1 x v = true → cn I sx sy x v) ∧ (∀ x v, Q x v = true → Q1 x v = true) ∧ (∀ x v, W1 x v = true → Q1 x v = true) ∧ (∀ x v, Q1 x v = true → W1 x v = false → Q x v = true ∧ cutR Wt y x v = false) ∧ (∀ x, W1 x y = false) ∧ (∀ x v, v + 1 = y → tb reach x = true → A x v = true → Q1 x v = true) ∧ (∀ x v, Q x v = true → cutR Wt y x v = false → W1 x v = false) := by
    by_cases y0 : y = 0
    · subst y0
      refine ⟨σ1, Q, cutR Wt 0, admit_up hF1 reach, hF1, Fr_refl _ _, l1, l3, l4, l6, fun _ _ q => q, cutQ, fun _ _ q1 q2 => ⟨q1, q2⟩, fun x => by simp [cutR], fun x v hv => by omega, fun _ _ _ q => q⟩
    · obtain ⟨τ1, R, a1, a2, a3, a4⟩ := admit_eq hF1 (y := y - 1) (by omega) reach cutQ
      have hfl := FL_add (sx := sx) (sy := sy) hAI l1 l3 l4 l6 a4 (fun x q1 q2 _ => snd (Or.inl (by omega)) q1 q2)
      refine ⟨τ1, _, _, by rw [nI_subo (by omega)]; exact a1, a2, a3, hfl.1, hfl.2.1, hfl.2.2.1, hfl.2.2.2, fun x v q => by simp [addR, q], fun x v q => ?_, fun x v q1 q2 => ?_, fun x => ?_, fun x v hv q qa => ?_, fun x v q1 q2 => ?_⟩
      · simp only [addR, Bool.or_eq_true] at q ⊢
        rcases q with q | q
        · exact Or.inl (cutQ x v q)
        · exact Or.inr q
      · simp only [addR, Bool.or_eq_true, Bool.or_eq_false_iff] at q1 q2
        rcases q1 with q1 | q1
        · exact ⟨q1, q2.1⟩
        · rw [q2.2] at q1; cases q1
      · rw [addR_ne _ _ _ (by omega)]; simp [cutR]
      · have ev : v = y - 1 := by omega
        subst ev
        rw [addR_self, Bool.or_eq_true]
        cases hc : Q x (y - 1) with
        | true => exact Or.inl rfl
        | false => exact Or.inr (a4.2.1 x q qa hc)
      · simp only [addR, q2, Bool.false_or, Bool.and_eq_false_iff]
        cases hR : R x with
        | false => exact Or.inr rfl
        | true =>
          refine Or.inl (decide_eq_false fun e => ?_)
          subst e
          rw [(a4.1 x hR).2] at q1; cases q1
  obtain ⟨τ1, Q1, W1, a1, a2, a3, b1, b2, b3, b4, b5, b6, b7, b8, b9, b10⟩ := up
  obtain ⟨τ2, R, c1, c2, c3, c4⟩ := admit_eq a2 (y := y + 1) (by omega) reach b6
  have hfl := FL_add (sx := sx) (sy := sy) hAI b1 b2 b3 b4 c4 (fun x q1 q2 _ => snd (Or.inr rfl) q1 q2)
  rw [a1, Option.bind_some, nI_1, c1, Option.bind_some]
  have q12 : ∀ x v, Q1 x v = true → addR Q1 (y + 1) R x v = true := fun x v q => by simp [addR, q]
  refine ⟨τ2, _, _, rfl, c2, ⟨hfl.1, fun x v q => ?_, hfl.2.1, hfl.2.2.1, fun x v u z q1 q2 qd qa => ?_, hfl.2.2.2, q12 _ _ (b5 _ _ l7)⟩, Fr_trans fr1 (Fr_trans a3 c3), ?_⟩
  · simp only [addR, Bool.or_eq_true] at q ⊢
    rcases q with q | q
    · exact Or.inl (b6 x v q)
    · exact Or.inr q
  · -- around what no longer waits
    have old : Q x v = true ∧ cutR Wt y x v = false := by
      simp only [addR, Bool.or_eq_true, Bool.or_eq_false_iff] at q1 q2
      rcases q1 with q1 | q1
      · exact b7 x v q1 q2.1
      · rw [q2.2] at q1; cases q1
    by_cases e : v = y
    · subst e
      cases hwx : Wt x v with
      | false => exact q12 _ _ (b5 _ _ (l5 x v u z old.1 hwx qd qa))
      | true =>
        unfold ad at qd
        have hz := hA qa
        rcases (show z = v ∨ z + 1 = v ∨ z = v + 1 by omega) with ez | ez | ez
        · subst ez
          rcases (show u = x ∨ u = x + 1 ∨ x = u + 1 by omega) with eu | eu | eu
          · subst eu; exact q12 _ _ (b5 _ _ old.1)
          · subst eu; exact hfl.2.1 x z q1 qa
          · subst eu; exact hfl.2.2.1 u z q1 qa
        · exact q12 _ _ (b9 u z ez (rt hwx (by omega) (by omega) (by omega)) qa)
        · subst ez
          rw [addR_self, Bool.or_eq_true]
          cases hc : Q1 u (v + 1) with
          | true => exact Or.inl rfl
          | false => exact Or.inr (c4.2.1 u (rt hwx (by omega) (by omega) (by omega)) qa hc)
    · have : Wt x v = false := by
        have := old.2
        simp only [cutR, Bool.and_eq_false_iff] at this
        rcases this with t | t
        · simp [e] at t
        · exact t
      exact q12 _ _ (b5 _ _ (l5 x v u z old.1 this qd qa))
  · -- one more is done
    have keep : ∀ x v, Q x v = true → cutR Wt y x v = false → notW (addR Q1 (y + 1) R) (addR W1 (y + 1) R) x v = true := by
      intro x v q1 q2
      have w1 := b10 x v q1 q2
      simp only [notW, q12 _ _ (b5 _ _ q1), Bool.true_and, Bool.not_eq_true']
      simp only [addR, w1, Bool.false_or, Bool.and_eq_false_iff]
      cases hR : R x with
      | false => exact Or.inr rfl
      | true =>
        refine Or.inl (decide_eq_false fun e => ?_)
        subst e
        have := (c4.1 x hR).2
        rw [b5 _ _ q1] at this; cases this
    refine ct_strict (k := 64 * y + x0) (fun i _ q => ?_) (by omega) ?_ ?_
    · have q : (Q (i % 64) (i / 64) && !Wt (i % 64) (i / 64)) = true := q
      simp only [Bool.and_eq_true, Bool.not_eq_true'] at q
      exact keep _ _ q.1 (by simp [cutR, q.2])
    · rw [pk2_at _ (by omega)]; simp [notW, hx0]
    · rw [pk2_at _ (by omega)]
      exact keep _ _ hq0 (by simp [cutR])
theorem flood_eq {b w h f sx sy : Nat} {σ : Sto} {I A Q Wt : Nat → Nat → Bool} (hF : FR b w h f σ A Q Wt) (hL : FL I A Q Wt sx sy) (hAI : ∀ x y, A x y = true → I x y = true) :
    ∃ τ Q2, iter (bd_X3_next_116 (ΛE b) (b + 50)) FU ((0 : Int32), σ) = some τ ∧ FR b w h f τ A Q2 (fun _ _ => false) ∧ FL I A Q2 (fun _ _ => false) sx sy ∧ Fr [b + 50, b + 54, b + 56, b + 59] σ τ := by
  have key := iter_mu (f := bd_X3_next_116 (ΛE b) (b + 50)) (fun s => ∃ i Q2 W2, s.1 = nI i ∧ i ≤ 4096 ∧ FR b w h f s.2 A Q2 W2 ∧ FL I A Q2 W2 sx sy ∧ Fr [b + 50, b + 54, b + 56, b + 59] σ s.2 ∧ i ≤ fb_ct (pk2 (notW Q2 W2)) 4096) (fun s => 4096 - s.1.toNatClampNeg)
    (fun τ => ∃ Q2, FR b w h f τ A Q2 (fun _ _ => false) ∧ FL I A Q2 (fun _ _ => false) sx sy ∧ Fr [b + 50, b + 54, b + 56, b + 59] σ τ)
    (by
      rintro ⟨k, τ⟩ ⟨i, Q2, W2, h1, h2, h3, h4, h5, h6⟩
      simp only at h1 h3 h5
      subst h1
      have fin : (∀ x y, W2 x y = false) → ∃ Q2, FR b w h f τ A Q2 (fun _ _ => false) ∧ FL I A Q2 (fun _ _ => false) sx sy ∧ Fr [b + 50, b + 54, b + 56, b + 59] σ τ := by
        intro hz
        have : W2 = fun _ _ => false := funext fun x => funext fun y => hz x y
        rw [this] at h3 h4
        exact ⟨Q2, h3, h4, h5⟩
      have inb : ∀ x y, W2 x y = true → x < 64 ∧ y < 64 := by
        intro x y q
        have := FR_A h3 (h4.1 x y (h4.2.1 x y q))
        have hh : h ≤ 64 := h3.1.2.2.2.1
        have hw : w ≤ 64 := h3.1.2.2.1
        omega
      unfold bd_X3_next_116
      simp only
      rw [e4096]
      by_cases c1 : 4096 ≤ i
      · rw [if_pos (nI_le c1 (by omega))]
        refine Or.inr ⟨_, rfl, fin (fun x y => ?_)⟩
        cases hc : W2 x y with
        | false => rfl
        | true =>
          have hb := inb x y hc
          have hall := fb_ct_all.mp (Nat.le_antisymm (fb_ct_le (pk2 (notW Q2 W2)) 4096) (by omega)) (64 * y + x) (by omega)
          rw [pk2_at _ hb.1] at hall
          simp [notW, hc] at hall
      · rw [if_neg (nI_ge (by omega) (by omega))]
        have hz : (lg_cmp (τ.2 (b + 50) 5) 0 = nI 0) = (∀ i, tb (τ.2 (b + 50) 5) i = false) := zero_is
        rw [e0]
        by_cases c2 : ∀ i, tb (τ.2 (b + 50) 5) i = false
        · rw [if_pos (by rw [hz]; exact c2)]
          refine Or.inr ⟨_, rfl, fin (fun x y => ?_)⟩
          cases hc : W2 x y with
          | false => rfl
          | true =>
            have hb := inb x y hc
            have := c2 y
            rw [h3.2.2.2.1 y, anyB_not] at this
            rw [this x hb.1] at hc; cases hc
        · rw [if_neg (by rw [hz]; exact c2), nmE]
          obtain ⟨y, hy⟩ := lowB_ex (τ.2 (b + 50) 5)
          have hy64 : y < 64 := by
            rcases Nat.lt_or_ge y 64 with z | z
            · exact z
            · exact (c2 (fun j => by
                rcases Nat.lt_or_ge j y with z2 | z2
                · exact hy.1 j z2
                · exact tb_big (by omega))).elim
          have hyw : ∃ x, W2 x y = true := by
            have := hy.2.1 hy64
            rw [h3.2.2.2.1 y, anyB_iff] at this
            obtain ⟨x, _, hx⟩ := this
            exact ⟨x, hx⟩
          obtain ⟨τ2, Q3, W3, g1, g2, g3, g4, g5⟩ := grow_eq h3 h4 hAI hyw
          rw [lowestBit_eq hy, g1, Option.bind_some, nmE, nI_1]
          refine Or.inl ⟨_, rfl, ⟨i + 1, Q3, W3, rfl, by omega, g2, g3, Fr_trans h5 g4, by omega⟩, ?_⟩
          show 4096 - (nI (i + 1)).toNatClampNeg < 4096 - (nI i).toNatClampNeg
          rw [nI_cl (by omega), nI_cl (by omega)]
          omega)
    FU ((0 : Int32), σ) ⟨0, Q, Wt, rfl, by omega, hF, hL, Fr_refl _ _, Nat.zero_le _⟩ (by show 4096 - (nI 0).toNatClampNeg < 5000; omega)
  obtain ⟨τ, k1, Q2, k2, k3, k4⟩ := key
  exact ⟨τ, Q2, k1, k2, k3, k4⟩
theorem stI_twice (σ : Sto) (a k : Nat) (v w : Int32) : stI (stI σ a k v) a k w = stI σ a k w := by
  apply Prod.ext
  · funext c j
    simp only [stI, up2]
    by_cases e : c = a
    · by_cases e2 : j = k
      · simp [e, e2]
      · simp [e, e2]
    · simp [e]
  · rfl
theorem stI_id {σ : Sto} {a k : Nat} {v : Int32} (h : σ.1 a k = v) : stI σ a k v = σ := by
  apply Prod.ext
  · funext c j
    simp only [stI, up2]
    by_cases e : c = a
    · rw [if_pos e]
      by_cases e2 : j = k
      · rw [if_pos e2, e, e2]; exact h.symm
      · rw [if_neg e2]
    · rw [if_neg e]
  · rfl
/-- between two spots -/
def FB (b w h t : Nat) (I : Nat → Nat → Bool) (σ : Sto) (C : Nat → Nat → Bool) : Prop :=
  Sh σ (b + 53) (b + 54) 64 (w, h, lef I t) ∧ Sh σ (b + 55) (b + 56) 64 (w, h, C) ∧ CW b σ ∧ (∃ tp nb, σ.1 (b + 50) 7 = nI tp ∧ σ.1 (b + 50) 8 = nI nb - 1 ∧ tp < 64 ∧ nb ≤ 64 ∧ ∀ x y, C x y = true → tp ≤ y ∧ y < nb) ∧ ∃ f, σ.1 (b + 50) 9 = nI f ∧ f ≤ h ∧ ∀ x y, lef I t x y = true → f ≤ y
theorem last_lt {nb k : Nat} (hn : nb ≤ 100) (hk : k ≤ 100) : (nI nb - 1 < nI k) = (nb < k + 1) := by
  apply propext
  rw [lt32, nI_ti (by omega)]
  rcases Nat.eq_zero_or_pos nb with q | q
  · subst q
    rw [show (nI 0 - 1 : Int32).toInt = -1 by decide]
    omega
  · rw [nI_subo q, nI_ti (by omega)]
    omega
theorem clearSpot_eq {b w h t : Nat} {I C : Nat → Nat → Bool} {σ : Sto} (hB : FB b w h t I σ C) :
    ∃ τ, F_X3_clearSpot (ΛE b) σ (b + 50) = some τ ∧ FB b w h t I τ (fun _ _ => false) ∧ τ.1 (b + 50) 6 = nI 0 ∧ Fr [b + 50, b + 54, b + 56, b + 59] σ τ := by
  obtain ⟨hl, hs, hcw, ⟨tp, nb, t1, t2, t3, t4, t5⟩, f, f1, f2, f3⟩ := hB
  have hh : h ≤ 64 := hl.2.2.2.1
  have hw : w ≤ 64 := hl.2.2.1
  unfold F_X3_clearSpot
  rw [t1, nmE]
  have lp : iter (bd_X3_clearSpot_5 (ΛE b) (b + 50)) FU (nI tp, σ) = some (setR σ (b + 56) (fun j => if tp ≤ j ∧ j < tp + (nb - tp) then 0 else σ.2 (b + 56) j)) := by
    refine run_loop (fun k => (nI (tp + k), setR σ (b + 56) (fun j => if tp ≤ j ∧ j < tp + k then 0 else σ.2 (b + 56) j))) _ (nb - tp) (by omega) ?_ ?_ ?_
    · rw [show (fun j => if tp ≤ j ∧ j < tp + 0 then 0 else σ.2 (b + 56) j) = σ.2 (b + 56) from funext fun j => if_neg (by omega), setR_id]; rfl
    · intro k hk
      unfold bd_X3_clearSpot_5
      have a8 : (setR σ (b + 56) (fun j => if tp ≤ j ∧ j < tp + k then 0 else σ.2 (b + 56) j)).1 (b + 50) 8 = nI nb - 1 := t2
      simp only [a8]
      rw [if_neg (by rw [last_lt (by omega) (by omega)]; omega)]
      simp (disch := omega) only [r50_2, r55_2, l56, e0, e1, e2, e3, e4, e7, e8, e9, e10, e12, e16, e20, e63, e64, e100, e4096, nI_add, pk_mul, nI_sb, le_t, le_f, lt_t, lt_f, nI_cl, gd_nI, ↓reduceIte, nmE, Option.bind_some, Option.bind_eq_bind]
      rw [setR_st (R2 := fun j => if tp ≤ j ∧ j < tp + (k + 1) then 0 else σ.2 (b + 56) j)]
      · rw [show tp + (k + 1) = tp + k + 1 by omega]
      · rw [if_pos (by omega)]
      · intro j hj
        by_cases e : tp ≤ j ∧ j < tp + k
        · rw [if_pos e, if_pos (by omega)]
        · rw [if_neg e, if_neg (by omega)]
    · unfold bd_X3_clearSpot_5
      have a8 : (setR σ (b + 56) (fun j => if tp ≤ j ∧ j < tp + (nb - tp) then 0 else σ.2 (b + 56) j)).1 (b + 50) 8 = nI nb - 1 := t2
      simp only [a8]
      rw [if_pos (by rw [last_lt (by omega) (by omega)]; omega)]
  rw [lp, Option.bind_some, nmE]
  refine ⟨_, rfl, ⟨?_, ?_, ⟨fun y hy => ?_, ?_⟩, ⟨tp, nb, ?_, ?_, t3, t4, fun x y q => (Bool.false_ne_true q).elim⟩, f, ?_, f2, f3⟩, ?_, Fr_trans (Fr_setR (by simp)) (Fr_stI (by simp))⟩
  · refine Sh_fr hl ?_ ?_
    · rw [stI_1, up2_ne _ _ _ (by omega)]; rfl
    · rw [stI_2, setR_ne (by omega)]
  · obtain ⟨s1, s2, s3, s4, s5, s6⟩ := hs
    refine ⟨?_, ?_, s3, s4, fun y hy x => ?_, fun x y q => (Bool.false_ne_true q).elim⟩
    · rw [stI_1, up2_ne _ _ _ (by omega)]; exact s1
    · rw [stI_1, up2_ne _ _ _ (by omega)]; exact s2
    · rw [stI_2, setR_r]
      by_cases e : tp ≤ y ∧ y < tp + (nb - tp)
      · rw [if_pos e, tb_zero]
      · rw [if_neg e, s5 y hy]
        cases hc : C x y with
        | false => exact hc
        | true => have := t5 x y hc; omega
  · rw [stI_2, setR_ne (by omega)]; exact hcw.1 y hy
  · rw [stI_2, setR_ne (by omega)]; exact hcw.2
  · rw [stI_1, up2_nk _ _ _ (by decide)]; exact t1
  · rw [stI_1, up2_nk _ _ _ (by decide)]; exact t2
  · rw [stI_1, up2_nk _ _ _ (by decide)]; exact f1
  · rw [stI_1, up2_self]; rfl
theorem next_eq {b w h t : Nat} {I C : Nat → Nat → Bool} {σ : Sto} (hB : FB b w h t I σ C) :
    (∃ j τ, j < 4096 ∧ t ≤ j ∧ ldB I j = true ∧ (∀ i, t ≤ i → i < j → ldB I i = false) ∧ F_X3_next (ΛE b) σ (b + 50) = some (1, τ) ∧ FB b w h (j + 1) I τ (spot I j) ∧ τ.1 (b + 50) 6 = nI (szS I j) ∧ Fr [b + 50, b + 54, b + 56, b + 59] σ τ) ∨
    (∃ τ, F_X3_next (ΛE b) σ (b + 50) = some (0, τ) ∧ FB b w h t I τ (fun _ _ => false) ∧ (∀ i, t ≤ i → i < 4096 → ldB I i = false) ∧ Fr [b + 50, b + 54, b + 56, b + 59] σ τ) := by
  obtain ⟨σ1, z1, z2, z3, z4⟩ := clearSpot_eq hB
  obtain ⟨hl, hs, hcw, ⟨tp, nb, t1, t2, t3, t4, t5⟩, f, f1, f2, f3⟩ := z2
  have hh : h ≤ 64 := hl.2.2.2.1
  have hw : w ≤ 64 := hl.2.2.1
  have hin := hl.2.2.2.2.2
  -- the first row with something left
  have lp := iter_mu (f := bd_X3_next_4 (ΛE b) (b + 50)) (fun s => ∃ g, g ≤ h ∧ s = stI σ1 (b + 50) 9 (nI g) ∧ ∀ x y, lef I t x y = true → g ≤ y) (fun s => 64 - (s.1 (b + 50) 9).toNatClampNeg)
    (fun e => ∃ g, g ≤ h ∧ e = stI σ1 (b + 50) 9 (nI g) ∧ (∀ x y, lef I t x y = true → g ≤ y) ∧ (g < h → ∃ x, lef I t x g = true))
    (by
      rintro s ⟨g, g1, rfl, g2⟩
      have a9 : (stI σ1 (b + 50) 9 (nI g)).1 (b + 50) 9 = nI g := by rw [stI_1, up2_self]
      have a1 : (stI σ1 (b + 50) 9 (nI g)).1 (b + 53) 1 = nI h := by rw [stI_1, up2_ne _ _ _ (by omega)]; exact hl.2.1
      unfold bd_X3_next_4
      simp only [r50_1, a9, a1]
      by_cases c1 : h ≤ g
      · rw [if_pos (nI_le c1 (by omega))]
        exact Or.inr ⟨_, rfl, g, g1, rfl, g2, fun q => by omega⟩
      · rw [if_neg (nI_ge (by omega) (by omega)), r53_2, l54, if_pos (gd_nI (by omega) (by omega)), nI_cl (by omega), e0]
        have hrow : ∀ x, tb (σ1.2 (b + 54) g) x = lef I t x g := fun x => hl.2.2.2.2.1 g (by omega) x
        have hz : (lg_cmp ((stI σ1 (b + 50) 9 (nI g)).2 (b + 54) g) 0 = nI 0) = (∀ i, tb (σ1.2 (b + 54) g) i = false) := zero_is
        by_cases c2 : ∀ i, tb (σ1.2 (b + 54) g) i = false
        · rw [if_pos (by rw [hz]; exact c2), nmE, nI_1]
          refine Or.inl ⟨_, rfl, ⟨g + 1, by omega, ?_, fun x y q => ?_⟩, ?_⟩
          · exact stI_twice σ1 _ _ _ _
          · have := g2 x y q
            rcases Nat.lt_or_ge g y with z | z
            · omega
            · have ey : y = g := by omega
              subst ey
              rw [← hrow, c2] at q; cases q
          · have b9 : (stI (stI σ1 (b + 50) 9 (nI g)) (b + 50) 9 (nI (g + 1))).1 (b + 50) 9 = nI (g + 1) := by rw [stI_1, up2_self]
            simp only [b9]
            rw [nI_cl (by omega)]
            omega
        · rw [if_neg (by rw [hz]; exact c2)]
          refine Or.inr ⟨_, rfl, g, g1, rfl, g2, fun _ => ?_⟩
          exact Classical.byContradiction fun c3 => c2 (fun i => by
            rw [hrow]
            cases hc : lef I t i g with
            | false => rfl
            | true => exact absurd ⟨i, hc⟩ c3))
    FU σ1 ⟨f, f2, (stI_id f1).symm, f3⟩ (by show _ < 5000; omega)
  obtain ⟨σ2, l1, g, g1, g2, g3, g4⟩ := lp
  have a9 : σ2.1 (b + 50) 9 = nI g := by rw [g2, stI_1, up2_self]
  have a1 : σ2.1 (b + 53) 1 = nI h := by rw [g2, stI_1, up2_ne _ _ _ (by omega)]; exact hl.2.1
  have n2 : ∀ k, k ≠ 9 → σ2.1 (b + 50) k = σ1.1 (b + 50) k := fun k hk => by rw [g2, stI_1, up2_nk _ _ _ hk]
  have o2 : ∀ c, c ≠ b + 50 → σ2.1 c = σ1.1 c := fun c hc => by rw [g2, stI_1, up2_ne _ _ _ hc]
  have p2 : σ2.2 = σ1.2 := by rw [g2]; rfl
  have hl2 : Sh σ2 (b + 53) (b + 54) 64 (w, h, lef I t) := Sh_fr hl (o2 _ (by omega)) (by rw [p2])
  have hs2 : Sh σ2 (b + 55) (b + 56) 64 (w, h, fun _ _ => false) := Sh_fr hs (o2 _ (by omega)) (by rw [p2])
  have hcw2 : CW b σ2 := by unfold CW; rw [p2]; exact hcw
  have fr2 : Fr [b + 50, b + 54, b + 56, b + 59] σ σ2 := Fr_trans z4 (by rw [g2]; exact Fr_stI (by simp))
  unfold F_X3_next
  rw [z1, Option.bind_some, l1, Option.bind_some, r50_1, a9, a1]
  by_cases c1 : g < h
  · rw [if_pos (nI_lt c1 (by omega))]
    left
    obtain ⟨xx, hxx⟩ := g4 c1
    have hrow : ∀ x, tb (σ2.2 (b + 54) g) x = lef I t x g := fun x => hl2.2.2.2.2.1 g (by omega) x
    obtain ⟨x0, hx0⟩ := lowB_ex (σ2.2 (b + 54) g)
    have hx64 : x0 < 64 := by
      rcases Nat.lt_or_ge x0 64 with z | z
      · exact z
      · have h1 := hx0.1 xx (by have := (hin xx g hxx).1; simp only at this; omega)
        rw [hrow, hxx] at h1; cases h1
    have hseed : lef I t x0 g = true := by rw [← hrow]; exact hx0.2.1 hx64
    have ej : pk2 (lef I t) (64 * g + x0) = true := by rw [pk2_at _ hx64]; exact hseed
    obtain ⟨j1, j2, j3⟩ := lef_first (t := t) (j := 64 * g + x0) ej (fun i hi => by
      cases hc : pk2 (lef I t) i with
      | false => rfl
      | true =>
        have hc : lef I t (i % 64) (i / 64) = true := hc
        have := g3 _ _ hc
        have e1 : i / 64 = g := by omega
        rw [e1, ← hrow, hx0.1 _ (by omega)] at hc; cases hc)
    simp (disch := omega) only [nmE, stI_1, stI_2, up2_self, up2_ne, up2_nk, a9, r53_2, l54, gd_nI, ↓reduceIte, nI_cl]
    have hT : ∀ x, tb (σ2.2 (b + 54) g &&& -σ2.2 (b + 54) g) x = decide (x = x0) := by
      intro x
      rw [low_and hx0, if_pos hx64, tb_bit hx64]
    generalize σ2.2 (b + 54) g &&& -σ2.2 (b + 54) g = T at hT ⊢
    have hF : FR b w h g (stI (stI σ2 (b + 50) 7 (nI g)) (b + 50) 8 (nI g)) (lef I t) (fun _ _ => false) (fun _ _ => false) := by
      refine ⟨?_, ?_, fun y hy x => ?_, fun y => ?_, ?_, ?_, g, g, ?_, ?_, by omega, by omega, fun x y q => (Bool.false_ne_true q).elim⟩
      · refine Sh_ext (Sh_fr hl2 ?_ rfl) rfl rfl (fun x y => by simp)
        simp (disch := omega) only [stI_1, stI_2, stJ_1, stJ_2, putJ_1, putI_2, up2_self, up2_ne, up2_nk]
      · refine Sh_fr hs2 ?_ rfl
        simp (disch := omega) only [stI_1, stI_2, stJ_1, stJ_2, putJ_1, putI_2, up2_self, up2_ne, up2_nk]
      · show tb (σ2.2 (b + 59) y) x = false
        rw [hcw2.1 y hy, tb_zero]
      · show tb (σ2.2 (b + 50) 5) y = _
        rw [hcw2.2, tb_zero]
        symm
        rw [anyB_not]
        intro _ _; rfl
      · simp (disch := omega) only [stI_1, stI_2, stJ_1, stJ_2, putJ_1, putI_2, up2_self, up2_ne, up2_nk]
        rw [n2 6 (by decide), z3]
        exact congrArg nI (fb_ct_zero.mpr (fun k _ => rfl)).symm
      · simp (disch := omega) only [stI_1, stI_2, stJ_1, stJ_2, putJ_1, putI_2, up2_self, up2_ne, up2_nk]; exact a9
      · simp (disch := omega) only [stI_1, stI_2, stJ_1, stJ_2, putJ_1, putI_2, up2_self, up2_ne, up2_nk]
      · simp (disch := omega) only [stI_1, stI_2, stJ_1, stJ_2, putJ_1, putI_2, up2_self, up2_ne, up2_nk]
    have fr3 : Fr [b + 50, b + 54, b + 56, b + 59] σ2 (stI (stI σ2 (b + 50) 7 (nI g)) (b + 50) 8 (nI g)) := Fr_trans (Fr_stI (by simp)) (Fr_stI (by simp))
    generalize stI (stI σ2 (b + 50) 7 (nI g)) (b + 50) 8 (nI g) = σ3 at hF fr3 ⊢
    obtain ⟨σ4, R, a1, a2, a3, a4⟩ := admit_eq hF (y := g) (by omega) T (fun _ _ q => (Bool.false_ne_true q).elim)
    rw [a1, Option.bind_some]
    have hAI : ∀ x y, lef I t x y = true → I x y = true := fun _ _ q => lef_ink q
    have hfl := FL_add (I := I) (sx := x0) (sy := g) hAI (fun _ _ q => (Bool.false_ne_true q).elim) (fun _ _ q => (Bool.false_ne_true q).elim) (fun _ _ q => (Bool.false_ne_true q).elim) (fun _ _ q => (Bool.false_ne_true q).elim) a4 (fun x q _ _ => by
      rw [hT, decide_eq_true_eq] at q
      subst q; exact cn_refl I _ _)
    have hR0 : R x0 = true := a4.2.1 x0 (by rw [hT]; simp) hseed rfl
    have hL : FL I (lef I t) (addR (fun _ _ => false) g R) (addR (fun _ _ => false) g R) x0 g := ⟨hfl.1, fun _ _ q => q, hfl.2.1, hfl.2.2.1, fun x y u v q1 q2 _ _ => (by rw [q1] at q2; cases q2), hfl.2.2.2, by rw [addR_self, hR0]; rfl⟩
    obtain ⟨σ5, Q2, b1, b2, b3, b4⟩ := flood_eq a2 hL hAI
    rw [b1, Option.bind_some]
    have eQ : Q2 = spot I (64 * g + x0) := by
      funext x y
      have es : spot I (64 * g + x0) x y = cnB I x0 g x y := by
        unfold spot
        rw [show (64 * g + x0) % 64 = x0 by omega, show (64 * g + x0) / 64 = g by omega]
      rw [es]
      obtain ⟨m1, m2, m3, m4, m5, m6, m7⟩ := b3
      cases hq : Q2 x y with
      | true => symm; exact cnB_t.mpr (m6 x y hq)
      | false =>
        symm
        cases hc : cnB I x0 g x y with
        | false => rfl
        | true =>
          have := cnB_t.mp hc (fun a c => Q2 a c = true) m7 (fun a c d e q1 q2 q3 => m5 a c d e q1 rfl q2 (lef_cn (m1 a c q1) (cn_one q2 q3)))
          rw [hq] at this; cases this
    subst eQ
    obtain ⟨r1, r2, r3, r4, r5, r6, tp', bt, r7, r8, r9, r10, r11⟩ := b2
    have fin : lef I (64 * g + x0 + 1) = fun x y => lef I t x y && !spot I (64 * g + x0) x y := funext fun x => funext fun y => lef_next j1 j2 j3 x y
    refine ⟨64 * g + x0, σ5, by omega, j2, j1, j3, rfl, ⟨by rw [fin]; exact r1, r2, ⟨fun y hy => tb_ext (fun x _ => by rw [r3 y hy, tb_zero]), tb_ext (fun y _ => by rw [r4, tb_zero, anyB_not]; intro _ _; rfl)⟩, ⟨tp', bt + 1, r7, by rw [r8, nI_pred], r9, by omega, fun x y q => by have := r11 x y q; omega⟩, g, r6, by omega, fun x y q => ?_⟩, r5, Fr_trans fr2 (Fr_trans fr3 (Fr_trans a3 b4))⟩
    rw [fin, Bool.and_eq_true] at q
    exact g3 x y q.1
  · rw [if_neg (nI_nlt (by omega) (by omega))]
    right
    have none : ∀ x y, lef I t x y = false := by
      intro x y
      cases hc : lef I t x y with
      | false => rfl
      | true =>
        have h1 := g3 x y hc
        have h2 := (hin x y hc).2
        simp only at h2
        omega
    refine ⟨σ2, rfl, ⟨hl2, hs2, hcw2, ⟨tp, nb, by rw [n2 7 (by decide)]; exact t1, by rw [n2 8 (by decide)]; exact t2, t3, t4, fun x y q => (Bool.false_ne_true q).elim⟩, g, a9, g1, g3⟩, lef_end (fun i _ => none _ _), fr2⟩
