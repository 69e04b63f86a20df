/-! THE CLASS'S CALLS, going on: cut, spans, part, back -/
def cutP (P : PG) (m : Nat) : PG := (lstC P - fstC P + 2 * m, botP P - fstR P + 2 * m, fun x y => decide (m ≤ x) && (decide (m ≤ y) && P.2.2 (x - m + fstC P) (y - m + fstR P)))
theorem cut_in {P : PG} {m : Nat} (hP : okL P) {x y : Nat} (h : (cutP P m).2.2 x y = true) : m ≤ x ∧ x < lstC P - fstC P + m ∧ m ≤ y ∧ y < botP P - fstR P + m := by
  have h : (decide (m ≤ x) && (decide (m ≤ y) && P.2.2 (x - m + fstC P) (y - m + fstR P))) = true := h
  simp only [Bool.and_eq_true, decide_eq_true_eq] at h
  have := box_in hP h.2.2
  omega
theorem cut_ok {P : PG} {m : Nat} (hP : okP P) (hi : hasP P) (hw : (cutP P m).1 ≤ 64) (hh : (cutP P m).2.1 ≤ 64) : okP (cutP P m) := by
  have hb := box_bd (okP_L hP) hi
  refine ⟨by show 1 ≤ lstC P - fstC P + 2 * m; omega, hw, by show 1 ≤ botP P - fstR P + 2 * m; omega, hh, fun x y h => ?_⟩
  have := cut_in (okP_L hP) h
  show x < lstC P - fstC P + 2 * m ∧ y < botP P - fstR P + 2 * m
  omega
theorem cp_cut_t {b p m : Nat} {σ : Sto} {D : Desk} (h : CR b σ D) (G : GD D) (hp : p < dN D) (hi : hasP (dP D p)) (hm : m ≤ 20) (hw : (cutP (dP D p) m).1 ≤ 64) (hh : (cutP (dP D p) m).2.1 ≤ 64) :
    ∃ τ, F_X4_cut (ΛE b) σ b (nI p) (nI m) = some (1, τ) ∧ CR b τ (setP (pushD D p 0) p (cutP (dP D p) m)) ∧ FrC b σ τ := by
  have g1 := G.1
  have gp := G.2.1 p hp
  have gl := okP_L gp
  have gp0 := gp
  unfold okP at gp
  have hS := h.2.1 p hp
  obtain ⟨v, v1, v2, v3⟩ := cols_eq (show p < 8 by omega) hS
  obtain ⟨u, u1, u2, u3⟩ := rows_eq (show p < 8 by omega) hS
  have bb := box_bd gl hi
  have hw : lstC (dP D p) - fstC (dP D p) + 2 * m ≤ 64 := hw
  have hh : botP (dP D p) - fstR (dP D p) + 2 * m ≤ 64 := hh
  unfold F_X4_cut
  rw [find_t h g1 hp, Option.bind_some, oc_s, nmE, e0, e20, within_t (by omega) hm (by omega), if_neg (by decide), hasInk_t (rPr (by omega) b) (lP (by omega) b) (by omega) hS hi, Option.bind_some, if_neg (by decide), v1, u1]
  simp only [Option.bind_some, v2, v3, u2, u3, nmE, nI_subo (show 0 < lstC (dP D p) by omega), nI_subo (show 0 < botP (dP D p) by omega), r0_2, r0_5]
  have ew : nI (lstC (dP D p) - 1) - nI (fstC (dP D p)) + 1 + 2 * nI m = nI (lstC (dP D p) - fstC (dP D p) + 2 * m) := by
    rw [nI_sb (by omega), nI_1, e2, pk_mul, nI_add]
    exact congrArg nI (by omega)
  have eh : nI (botP (dP D p) - 1) - nI (fstR (dP D p)) + 1 + 2 * nI m = nI (botP (dP D p) - fstR (dP D p) + 2 * m) := by
    rw [nI_sb (by omega), nI_1, e2, pk_mul, nI_add]
    exact congrArg nI (by omega)
  rw [ew, eh, e64, if_neg (nI_nlt hw (by omega)), if_pos (nI_le hh (by omega))]
  obtain ⟨τ, q1, q2, q3⟩ := remember_cr (m := 0) (made := -1) h G hp (by decide)
  have hS1 : Sh τ _ _ 64 (dP D p) := q2.2.1 p hp
  obtain ⟨τ1, w1, w2, w3⟩ := empty_sh (Λ := ΛE b) (σ := τ) (w := lstC (dP D p) - fstC (dP D p) + 2 * m) (h := botP (dP D p) - fstR (dP D p) + 2 * m) (r62_2 b) (l63 b) (by omega) hw (by omega)
  rw [q1, Option.bind_some, w1, Option.bind_some]
  have hS2 : Sh τ1 _ _ 64 (dP D p) := Sh_Fr hS1 w3 (by simp <;> omega) (by simp <;> omega)
  rw [run_loop (s0 := (nI m, τ1)) (fun k => (nI (m + k), setR τ1 (b + 63) (fun j => if m ≤ j ∧ j < m + k then shlL (ushrL (τ1.2 (b + (3 + 2 * p)) (fstR (dP D p) + j - m)) (nI (fstC (dP D p)))) (nI m) else τ1.2 (b + 63) j))) (setR τ1 (b + 63) (fun j => if m ≤ j ∧ j < m + (botP (dP D p) - fstR (dP D p)) then shlL (ushrL (τ1.2 (b + (3 + 2 * p)) (fstR (dP D p) + j - m)) (nI (fstC (dP D p)))) (nI m) else τ1.2 (b + 63) j)) (botP (dP D p) - fstR (dP D p)) (by omega)
    (by rw [show (fun j => if m ≤ j ∧ j < m + 0 then shlL (ushrL (τ1.2 (b + (3 + 2 * p)) (fstR (dP D p) + j - m)) (nI (fstC (dP D p)))) (nI m) else τ1.2 (b + 63) j) = τ1.2 (b + 63) from funext fun j => if_neg (by omega), setR_id]; rfl)]
  · rw [Option.bind_some]
    have s3 : Sh (setR τ1 (b + 63) (fun j => if m ≤ j ∧ j < m + (botP (dP D p) - fstR (dP D p)) then shlL (ushrL (τ1.2 (b + (3 + 2 * p)) (fstR (dP D p) + j - m)) (nI (fstC (dP D p)))) (nI m) else τ1.2 (b + 63) j)) (b + 62) (b + 63) 128 (cutP (dP D p) m) := by
      refine Sh_setR (P := noP (lstC (dP D p) - fstC (dP D p) + 2 * m) (botP (dP D p) - fstR (dP D p) + 2 * m)) (g := (cutP (dP D p) m).2.2) w2 ?_ (fun x y q => by
        have := cut_in gl q
        show x < lstC (dP D p) - fstC (dP D p) + 2 * m ∧ y < botP (dP D p) - fstR (dP D p) + 2 * m
        omega)
      intro y hy x
      by_cases e : m ≤ y ∧ y < m + (botP (dP D p) - fstR (dP D p))
      · rw [if_pos e, tb_shl (by omega), tb_ushr (by omega), hS2.2.2.2.2.1 _ (by omega)]
        show _ = (decide (m ≤ x) && (decide (m ≤ y) && (dP D p).2.2 (x - m + fstC (dP D p)) (y - m + fstR (dP D p))))
        rw [decide_eq_true e.1, Bool.true_and, show fstC (dP D p) + (x - m) = x - m + fstC (dP D p) by omega, show fstR (dP D p) + y - m = y - m + fstR (dP D p) by omega]
        cases hg : (dP D p).2.2 (x - m + fstC (dP D p)) (y - m + fstR (dP D p)) with
        | false => simp
        | true =>
          have := box_in gl hg
          by_cases e2 : m ≤ x
          · rw [decide_eq_true e2, decide_eq_true (show x < 64 by omega)]; rfl
          · rw [decide_eq_false e2]; simp
      · rw [if_neg e]
        have := w2.2.2.2.2.1 y hy x
        rw [this]
        show false = _
        cases hg : (cutP (dP D p) m).2.2 x y with
        | false => rfl
        | true => have := cut_in gl hg; omega
    obtain ⟨τ4, y1, y2, y3⟩ := become_sh (rPr (show p < 8 by omega) b) (lP (by omega) b) (by omega) (r62_2 b) (l63 b) (by omega) (by omega) (by omega) s3 hh
    rw [y1, Option.bind_some]
    obtain ⟨x1, x2⟩ := CR_chg q2 G hp (Fr_trans (Fr_trans (Fr_mono w3 (by unfold scr; simp)) (Fr_setR (by unfold scr; simp))) (Fr_mono y3 (by simp))) y2
    exact ⟨_, rfl, x1, FrC_trans q3 x2⟩
  · intro k hk
    unfold bd_X4_cut_123
    simp (disch := omega) only [rPr, lP, r0_5, r62_2, l63, e0, e1, e2, e3, e4, e7, e8, e9, e10, e12, e16, e20, e63, e64, e100, e4096, nI_add, pk_mul, nI_sb, le_t, le_f, lt_t, lt_f, nI_cl, gd_nI, ↓reduceIte, nmE, Option.bind_some, Option.bind_eq_bind]
    rw [setR_st (R2 := fun j => if m ≤ j ∧ j < m + (k + 1) then shlL (ushrL (τ1.2 (b + (3 + 2 * p)) (fstR (dP D p) + j - m)) (nI (fstC (dP D p)))) (nI m) else τ1.2 (b + 63) j)]
    · rw [show m + (k + 1) = m + k + 1 by omega]
    · rw [if_pos (by omega), setR_ne (by omega)]
    · intro j hj
      by_cases e : m ≤ j ∧ j < m + k
      · rw [if_pos e, if_pos (by omega)]
      · rw [if_neg e, if_neg (by omega)]
  · unfold bd_X4_cut_123
    simp (disch := omega) only [nI_add, pk_mul, nI_sb, le_t, le_f, lt_t, lt_f, nI_cl, gd_nI, ↓reduceIte, nmE, Option.bind_some, Option.bind_eq_bind]
theorem cp_cut_f {b : Nat} {q x : Int32} {σ : Sto} {D : Desk} (hc : CR b σ D) (G : GD D) (hn : ¬ ∃ p m, p < dN D ∧ hasP (dP D p) ∧ m ≤ 20 ∧ (cutP (dP D p) m).1 ≤ 64 ∧ (cutP (dP D p) m).2.1 ≤ 64 ∧ q = nI p ∧ x = nI m) : F_X4_cut (ΛE b) σ b q x = some (0, σ) := by
  unfold F_X4_cut
  by_cases c1 : ∃ p, p < dN D ∧ q = nI p
  · obtain ⟨p, hp, rfl⟩ := c1
    have g1 := G.1
    have gp := G.2.1 p hp
    have gl := okP_L gp
    unfold okP at gp
    have hS := hc.2.1 p hp
    rw [find_t hc g1 hp, Option.bind_some, oc_s, nmE, e0, e20]
    by_cases c2 : ∃ k, 0 ≤ k ∧ k ≤ 20 ∧ x = nI k
    · obtain ⟨m, m1, m2, rfl⟩ := c2
      rw [within_t m1 m2 (by omega), if_neg (by decide)]
      by_cases c3 : hasP (dP D p)
      · obtain ⟨v, v1, v2, v3⟩ := cols_eq (show p < 8 by omega) hS
        obtain ⟨u, u1, u2, u3⟩ := rows_eq (show p < 8 by omega) hS
        have bb := box_bd gl c3
        rw [hasInk_t (rPr (by omega) b) (lP (by omega) b) (by omega) hS c3, Option.bind_some, if_neg (by decide), v1, u1]
        simp only [Option.bind_some, v2, v3, u2, u3, nmE, nI_subo (show 0 < lstC (dP D p) by omega), nI_subo (show 0 < botP (dP D p) by omega)]
        have ew : nI (lstC (dP D p) - 1) - nI (fstC (dP D p)) + 1 + 2 * nI m = nI (lstC (dP D p) - fstC (dP D p) + 2 * m) := by
          rw [nI_sb (by omega), nI_1, e2, pk_mul, nI_add]
          exact congrArg nI (by omega)
        have eh : nI (botP (dP D p) - 1) - nI (fstR (dP D p)) + 1 + 2 * nI m = nI (botP (dP D p) - fstR (dP D p) + 2 * m) := by
          rw [nI_sb (by omega), nI_1, e2, pk_mul, nI_add]
          exact congrArg nI (by omega)
        rw [ew, eh, e64]
        by_cases c4 : lstC (dP D p) - fstC (dP D p) + 2 * m ≤ 64
        · have c5 : ¬ botP (dP D p) - fstR (dP D p) + 2 * m ≤ 64 := fun c5 => hn ⟨p, m, hp, c3, m2, c4, c5, rfl, rfl⟩
          rw [if_neg (nI_nlt c4 (by omega)), if_neg (nI_ge (by omega) (by omega))]
        · rw [if_pos (nI_lt (by omega) (by omega))]
      · rw [hasInk_f (rPr (by omega) b) (lP (by omega) b) (by omega) hS c3, Option.bind_some, if_pos rfl]
    · rw [within_f (by omega) c2 (by omega), if_pos rfl]
  · rw [find_f hc G.1 c1, Option.bind_some, oc_n]
-- spans
def spS (g i : Nat) (s : Nat × (Nat → Nat)) : Nat × (Nat → Nat) := if s.1 = 0 ∨ g < i - s.2 (s.1 - 1) then (s.1 + 2, up1 (up1 s.2 s.1 i) (s.1 + 1) i) else (s.1, up1 s.2 (s.1 - 1) i)
def spn (p : Nat → Bool) (g : Nat) : Nat → Nat × (Nat → Nat)
  | 0 => (0, fun _ => 0)
  | i + 1 => if p i then spS g i (spn p g i) else spn p g i
def spOk (i : Nat) (s : Nat × (Nat → Nat)) : Prop := s.1 % 2 = 0 ∧ (0 < s.1 → s.2 (s.1 - 1) < i ∧ s.1 ≤ s.2 (s.1 - 1) + 2) ∧ ∀ j, j < s.1 → s.2 j < i
theorem spOk_up {i : Nat} {s : Nat × (Nat → Nat)} (h : spOk i s) : spOk (i + 1) s := ⟨h.1, fun q => ⟨by have := (h.2.1 q).1; omega, (h.2.1 q).2⟩, fun j hj => by have := h.2.2 j hj; omega⟩
theorem spS_ok {g i : Nat} {s : Nat × (Nat → Nat)} (hg : 1 ≤ g) (h : spOk i s) : spOk (i + 1) (spS g i s) := by
  obtain ⟨h1, h2, h3⟩ := h
  unfold spS
  by_cases c : s.1 = 0 ∨ g < i - s.2 (s.1 - 1)
  · rw [if_pos c]
    refine ⟨by show (s.1 + 2) % 2 = 0; omega, fun _ => ?_, fun j hj => ?_⟩
    · show up1 (up1 s.2 s.1 i) (s.1 + 1) i (s.1 + 2 - 1) < i + 1 ∧ s.1 + 2 ≤ up1 (up1 s.2 s.1 i) (s.1 + 1) i (s.1 + 2 - 1) + 2
      rw [show s.1 + 2 - 1 = s.1 + 1 by omega, up1_self]
      rcases c with c | c
      · omega
      · by_cases c0 : s.1 = 0
        · omega
        · have := h2 (by omega)
          omega
    · have hj : j < s.1 + 2 := hj
      show up1 (up1 s.2 s.1 i) (s.1 + 1) i j < i + 1
      by_cases e1 : j = s.1 + 1
      · rw [e1, up1_self]; omega
      · rw [up1_ne _ _ e1]
        by_cases e2 : j = s.1
        · rw [e2, up1_self]; omega
        · rw [up1_ne _ _ e2]
          have := h3 j (by omega)
          omega
  · rw [if_neg c]
    have c0 : 0 < s.1 := by omega
    have h4 := h2 c0
    refine ⟨h1, fun _ => ?_, fun j hj => ?_⟩
    · show up1 s.2 (s.1 - 1) i (s.1 - 1) < i + 1 ∧ s.1 ≤ up1 s.2 (s.1 - 1) i (s.1 - 1) + 2
      rw [up1_self]
      omega
    · have hj : j < s.1 := hj
      show up1 s.2 (s.1 - 1) i j < i + 1
      by_cases e1 : j = s.1 - 1
      · rw [e1, up1_self]; omega
      · rw [up1_ne _ _ e1]
        have := h3 j hj
        omega
theorem spn_ok {p : Nat → Bool} {g : Nat} (hg : 1 ≤ g) : ∀ i, spOk i (spn p g i)
  | 0 => ⟨rfl, fun h => absurd h (Nat.lt_irrefl 0), fun j hj => absurd hj (Nat.not_lt_zero j)⟩
  | i + 1 => by
    simp only [spn]
    split
    · exact spS_ok hg (spn_ok hg i)
    · exact spOk_up (spn_ok hg i)
theorem spn_m {p : Nat → Bool} {g : Nat} (hg : 1 ≤ g) {i : Nat} (hi : i ≤ 64) : (spn p g i).1 ≤ 64 := by
  have h := spn_ok (p := p) hg i
  unfold spOk at h
  rcases Nat.eq_zero_or_pos (spn p g i).1 with q | q
  · omega
  · have := h.2.1 q
    omega
theorem spn_cong {p q : Nat → Bool} {g : Nat} : ∀ {n : Nat}, (∀ k, k < n → p k = q k) → spn p g n = spn q g n
  | 0, _ => rfl
  | n + 1, h => by
    simp only [spn]
    rw [h n (by omega), spn_cong (fun k hk => h k (by omega))]
theorem spn_ext {p : Nat → Bool} {g n : Nat} : ∀ {d : Nat}, (∀ k, n ≤ k → k < n + d → p k = false) → spn p g (n + d) = spn p g n
  | 0, _ => rfl
  | d + 1, h => by
    show spn p g (n + d + 1) = _
    simp only [spn]
    rw [h (n + d) (by omega) (by omega), if_neg (by simp)]
    exact spn_ext (fun k h1 h2 => h k h1 (by omega))
theorem CR_vals {b m : Nat} {V : Nat → Nat} {σ τ : Sto} {D : Desk} (h : CR b σ D) (hN : dN D ≤ 8) (hf : Fr [b, b + 64] σ τ) (h1 : ∀ j, j ≠ 7 → τ.1 b j = σ.1 b j) (h7 : τ.1 b 7 = nI m) (h8 : ∀ i, i < m → τ.1 (b + 64) i = nI (V i)) : CR b τ (setV D m V) := by
  have hf2 : ∀ c, c ≠ b → c ≠ b + 64 → τ.1 c = σ.1 c ∧ τ.2 c = σ.2 c := fun c n1 n2 => hf c (by simp <;> omega)
  obtain ⟨a1, a2, a3, a4, a5, a6, a7, a8⟩ := h
  refine ⟨?_, ?_, ?_, ?_, ?_, ?_, h7, h8⟩
  · rw [h1 1 (by decide)]; exact a1
  · intro p hp
    have hp : p < dN D := hp
    exact Sh_fr (a2 p hp) (hf2 _ (by omega) (by omega)).1 (hf2 _ (by omega) (by omega)).2
  · rw [(hf2 (b + 18) (by omega) (by omega)).1]; exact a3
  · rw [(hf2 (b + 18) (by omega) (by omega)).1]; exact a4
  · intro i hi
    obtain ⟨g1, g2, g3⟩ := a5 i hi
    have hk : (dX D + 9 - i) % 10 < 10 := Nat.mod_lt _ (by omega)
    show HC b τ ((dX D + 9 - i) % 10) (dH D i)
    refine ⟨?_, ?_, ?_⟩
    · rw [(hf2 _ (by omega) (by omega)).1]; exact g1
    · rw [(hf2 _ (by omega) (by omega)).1]; exact g2
    · exact Sh_fr g3 (hf2 _ (by omega) (by omega)).1 (hf2 _ (by omega) (by omega)).2
  · exact Sh_fr a6 (hf2 _ (by omega) (by omega)).1 (hf2 _ (by omega) (by omega)).2
/-- numbers so far -/
def VR (n A k : Nat) (τ : Sto) (s : Nat × (Nat → Nat)) : Prop := τ.1 n k = nI s.1 ∧ ∀ j, j < s.1 → τ.1 A j = nI (s.2 j)
theorem VR_new {n A k i : Nat} {τ : Sto} {s : Nat × (Nat → Nat)} (hne : n ≠ A) (h : VR n A k τ s) : VR n A k (stI (stI (stI τ A s.1 (nI i)) n k (nI (s.1 + 2))) A (s.1 + 1) (nI i)) (s.1 + 2, up1 (up1 s.2 s.1 i) (s.1 + 1) i) := by
  refine ⟨?_, fun j hj => ?_⟩
  · rw [stI_1, up2_ne _ _ _ hne, stI_1, up2_self]
  · have hj : j < s.1 + 2 := hj
    show _ = nI (up1 (up1 s.2 s.1 i) (s.1 + 1) i j)
    by_cases e1 : j = s.1 + 1
    · rw [e1, up1_self, stI_1, up2_self]
    · rw [up1_ne _ _ e1, stI_1, up2_nk _ _ _ e1, stI_1, up2_ne _ _ _ (Ne.symm hne)]
      by_cases e2 : j = s.1
      · rw [e2, up1_self, stI_1, up2_self]
      · rw [up1_ne _ _ e2, stI_1, up2_nk _ _ _ e2]
        exact h.2 j (by omega)
theorem VR_ext {n A k i : Nat} {τ : Sto} {s : Nat × (Nat → Nat)} (hne : n ≠ A) (h : VR n A k τ s) : VR n A k (stI τ A (s.1 - 1) (nI i)) (s.1, up1 s.2 (s.1 - 1) i) := by
  refine ⟨?_, fun j hj => ?_⟩
  · rw [stI_1, up2_ne _ _ _ hne]; exact h.1
  · show _ = nI (up1 s.2 (s.1 - 1) i j)
    by_cases e1 : j = s.1 - 1
    · rw [e1, up1_self, stI_1, up2_self]
    · rw [up1_ne _ _ e1, stI_1, up2_nk _ _ _ e1]
      exact h.2 j hj
theorem tellSpans_eq {b g : Nat} {v : Int64} {σ : Sto} (hg : 1 ≤ g) (hg2 : g ≤ 64) :
    ∃ τ, F_X4_tellSpans (ΛE b) σ b v (nI g) = some τ ∧ VR b (b + 64) 7 τ (spn (tb v) g 64) ∧ Fr [b, b + 64] σ τ ∧ ∀ j, j ≠ 7 → τ.1 b j = σ.1 b j := by
  unfold F_X4_tellSpans
  rw [nmE]
  obtain ⟨τ, h1, h2, h3, h4⟩ := iter_for (f := bd_X4_tellSpans_8 (ΛE b) b v (nI g)) 64 (fun i s => s.1 = nI i ∧ VR b (b + 64) 7 s.2 (spn (tb v) g i) ∧ Fr [b, b + 64] σ s.2 ∧ ∀ j, j ≠ 7 → s.2.1 b j = σ.1 b j)
    (fun τ => VR b (b + 64) 7 τ (spn (tb v) g 64) ∧ Fr [b, b + 64] σ τ ∧ ∀ j, j ≠ 7 → τ.1 b j = σ.1 b j) (s := ((0 : Int32), stI σ b 7 0)) (n := FU)
    (by
      rintro i ⟨k, τ⟩ hi ⟨c1, c2, c3, c4⟩
      simp only at c1 c2 c3 c4
      subst c1
      have ok := spn_ok (p := tb v) hg i
      have hm := spn_m (p := tb v) hg (i := i) (by omega)
      simp only [spn]
      generalize spn (tb v) g i = s at *
      unfold spOk at ok
      have fin75 : ∀ (υ : Sto) (n : Nat), 0 < n → n ≤ 64 → υ.1 b 7 = nI n → Fr [b, b + 64] σ υ → (∀ j, j ≠ 7 → υ.1 b j = σ.1 b j) → ∃ t, jp_X4_tellSpans_75 (ΛE b) υ b v (nI g) (nI i) = some (.inl t) ∧ t.1 = nI (i + 1) ∧ t.2 = stI υ (b + 64) (n - 1) (nI i) ∧ Fr [b, b + 64] σ t.2 ∧ (∀ j, j ≠ 7 → t.2.1 b j = σ.1 b j) := by
        intro υ n z1 z2 z3 z4 z5
        unfold jp_X4_tellSpans_75 jp_X4_tellSpans_88
        rw [z3]
        simp (disch := omega) only [r0_6, l64, e0, e1, e2, e3, e4, e7, e8, e9, e10, e12, e16, e20, e63, e64, e100, e4096, nI_add, pk_mul, nI_sb, le_t, le_f, lt_t, lt_f, nI_cl, gd_nI, ↓reduceIte, nmE, Option.bind_some, Option.bind_eq_bind]
        refine ⟨_, rfl, rfl, rfl, Fr_trans z4 (Fr_stI (by simp)), fun j hj => ?_⟩
        rw [stI_1, up2_ne _ _ _ (by omega)]; exact z5 j hj
      have fin54 : s.1 + 1 < 64 → (s.1 = 0 ∨ g < i - s.2 (s.1 - 1)) → ∃ t, jp_X4_tellSpans_54 (ΛE b) τ b v (nI g) (nI i) = some (.inl t) ∧ t.1 = nI (i + 1) ∧ VR b (b + 64) 7 t.2 (spS g i s) ∧ Fr [b, b + 64] σ t.2 ∧ (∀ j, j ≠ 7 → t.2.1 b j = σ.1 b j) := by
        intro y1 y2
        have e7 : (stI τ (b + 64) s.1 (nI i)).1 b 7 = nI s.1 := by rw [stI_1, up2_ne _ _ _ (by omega)]; exact c2.1
        have vn := VR_new (i := i) (show b ≠ b + 64 by omega) c2
        obtain ⟨t, t1, t2, t3, t4, t5⟩ := fin75 (stI (stI τ (b + 64) s.1 (nI i)) b 7 (nI (s.1 + 2))) (s.1 + 2) (by omega) (by omega) (by rw [stI_1, up2_self]) (Fr_trans (Fr_trans c3 (Fr_stI (by simp))) (Fr_stI (by simp))) (fun j hj => by rw [stI_1, up2_nk _ _ _ hj, stI_1, up2_ne _ _ _ (by omega)]; exact c4 j hj)
        unfold jp_X4_tellSpans_54
        rw [c2.1]
        simp (disch := omega) only [r0_6, l64, gd_nI, nI_cl, ↓reduceIte, nmE, e7, e2, nI_add]
        refine ⟨t, t1, t2, ?_, t4, t5⟩
        rw [t3]
        unfold spS
        rw [if_pos y2]
        exact vn
      unfold bd_X4_tellSpans_8
      simp (disch := omega) only [e64, le_f, ↓reduceIte]
      rw [e0]
      simp only [bit_is0 hi]
      cases hv : tb v i with
      | false =>
        unfold jp_X4_tellSpans_88
        simp only [↓reduceIte, nmE, nI_1, Bool.false_eq_true]
        exact ⟨_, rfl, rfl, c2, c3, c4⟩
      | true =>
        simp only [↓reduceIte, Bool.true_eq_false]
        rw [c2.1]
        by_cases m0 : s.1 = 0
        · rw [m0, if_pos rfl]
          exact fin54 (by omega) (Or.inl m0)
        · have o2 := ok.2.1 (by omega)
          have ea : τ.1 (b + 64) (s.1 - 1) = nI (s.2 (s.1 - 1)) := c2.2 _ (by omega)
          simp (disch := omega) only [eq_f, e1, nI_sb, r0_6, l64, gd_nI, nI_cl, ↓reduceIte, ea]
          by_cases cg : i - s.2 (s.1 - 1) ≤ g
          · rw [if_pos (nI_le cg (by omega))]
            obtain ⟨t, t1, t2, t3, t4, t5⟩ := fin75 τ s.1 (by omega) hm c2.1 c3 c4
            refine ⟨t, t1, t2, ?_, t4, t5⟩
            rw [t3]
            unfold spS
            rw [if_neg (by omega)]
            exact VR_ext (show b ≠ b + 64 by omega) c2
          · rw [if_neg (nI_ge (by omega) (by omega))]
            exact fin54 (by omega) (Or.inr (by omega)))
    (by
      rintro ⟨k, τ⟩ ⟨c1, c2, c3, c4⟩
      simp only at c1 c2 c3 c4
      subst c1
      unfold bd_X4_tellSpans_8
      simp (disch := omega) only [e0, e1, e2, e3, e4, e7, e8, e9, e10, e12, e16, e20, e63, e64, e100, e4096, nI_add, pk_mul, nI_sb, le_t, le_f, lt_t, lt_f, nI_cl, gd_nI, ↓reduceIte, nmE, Option.bind_some, Option.bind_eq_bind]
      exact ⟨_, rfl, c2, c3, c4⟩)
    ⟨rfl, ⟨by rw [stI_1, up2_self]; rfl, fun j hj => absurd hj (Nat.not_lt_zero j)⟩, Fr_stI (by simp), fun j hj => by rw [stI_1, up2_nk _ _ _ hj]⟩ (by show _ < 5000; omega)
  rw [h1, Option.bind_some]
  exact ⟨_, rfl, h2, h3, h4⟩
def spB (P : PG) (w : Nat) : Nat → Bool := if w = 0 then colB P else rowB P
theorem cp_spans_t {b p w g : Nat} {σ : Sto} {D : Desk} (h : CR b σ D) (G : GD D) (hp : p < dN D) (hw : w ≤ 1) (hg : 1 ≤ g) (hg2 : g ≤ 64) :
    ∃ τ, F_X4_spans (ΛE b) σ b (nI p) (nI w) (nI g) = some (nI ((spn (spB (dP D p) w) g 64).1 / 2), τ) ∧ CR b τ (setV D (spn (spB (dP D p) w) g 64).1 (spn (spB (dP D p) w) g 64).2) ∧ FrC b σ τ := by
  have g1 := G.1
  have hS := h.2.1 p hp
  have fin : ∀ v, (∀ i, tb v i = spB (dP D p) w i) → ∃ τ, jp_X4_spans_51 (ΛE b) σ b (nI g) v b = some (nI ((spn (spB (dP D p) w) g 64).1 / 2), τ) ∧ CR b τ (setV D (spn (spB (dP D p) w) g 64).1 (spn (spB (dP D p) w) g 64).2) ∧ FrC b σ τ := by
    intro v hv
    obtain ⟨τ, t1, t2, t3, t4⟩ := tellSpans_eq (b := b) (v := v) (σ := σ) hg hg2
    rw [spn_cong (fun k _ => hv k)] at t2
    have hm := spn_m (p := spB (dP D p) w) hg (Nat.le_refl 64)
    unfold jp_X4_spans_51
    rw [t1, Option.bind_some, t2.1, e2, pk_div (by omega) (by omega) (by omega)]
    exact ⟨_, rfl, CR_vals h g1 t3 t4 t2.1 t2.2, FrC_of t3 (by simp)⟩
  unfold F_X4_spans
  rw [find_t h g1 hp, Option.bind_some, oc_s, nmE, e0, e1, within_t (by omega) hw (by omega), if_neg (by decide), nmE, e64, within_t hg hg2 (by omega), if_neg (by decide)]
  rcases (show w = 0 ∨ w = 1 by omega) with q | q
  · subst q
    obtain ⟨v, v1, v2⟩ := inkedColumns_eq (rPr (show p < 8 by omega) b) (lP (by omega) b) (by omega) hS
    rw [if_pos rfl, v1, Option.bind_some]
    exact fin v v2
  · subst q
    obtain ⟨v, v1, v2⟩ := inkedRows_eq (rPr (show p < 8 by omega) b) (lP (by omega) b) (by omega) hS
    rw [if_neg (by decide), v1, Option.bind_some]
    exact fin v v2
theorem cp_spans_f {b : Nat} {q x z : Int32} {σ : Sto} {D : Desk} (hc : CR b σ D) (G : GD D) (hn : ¬ ((∃ p, p < dN D ∧ q = nI p) ∧ (∃ w, w ≤ 1 ∧ x = nI w) ∧ ∃ g, 1 ≤ g ∧ g ≤ 64 ∧ z = nI g)) : F_X4_spans (ΛE b) σ b q x z = some (-1, σ) := by
  unfold F_X4_spans
  by_cases c1 : ∃ p, p < dN D ∧ q = nI p
  · have c0 := c1
    obtain ⟨p, hp, rfl⟩ := c1
    rw [find_t hc G.1 hp, Option.bind_some, oc_s, nmE, e0, e1]
    by_cases c2 : ∃ w, 0 ≤ w ∧ w ≤ 1 ∧ x = nI w
    · obtain ⟨w, w1, w2, rfl⟩ := c2
      rw [within_t w1 w2 (by omega), if_neg (by decide), nmE, e64, within_f (by omega) (fun c3 => hn ⟨c0, ⟨w, w2, rfl⟩, c3⟩) (by omega), if_pos rfl]
    · rw [within_f (by omega) c2 (by omega), if_pos rfl]
  · rw [find_f hc G.1 c1, Option.bind_some, oc_n]
-- part
theorem CR_page2 {b : Nat} {σ τ : Sto} {D : Desk} {p n : Nat} {P : PG} (h : CR b σ D) (hN : dN D ≤ 8) (hp : p < 8) (hn : dN D ≤ n) (hn8 : n < 8) (hf : Fr [b + (2 + 2 * p), b + (3 + 2 * p), b + (2 + 2 * n), b + (3 + 2 * n)] σ τ) (hS : Sh τ (b + (2 + 2 * p)) (b + (3 + 2 * p)) 64 P) : CR b τ (setP D p P) := by
  have hf2 : ∀ c, c ≠ b + (2 + 2 * p) → c ≠ b + (3 + 2 * p) → c ≠ b + (2 + 2 * n) → c ≠ b + (3 + 2 * n) → τ.1 c = σ.1 c ∧ τ.2 c = σ.2 c := fun c n1 n2 n3 n4 => hf c (by simp <;> omega)
  obtain ⟨h1, h2, h3, h4, h5, h6, h7, h8⟩ := h
  refine ⟨?_, ?_, ?_, ?_, ?_, ?_, ?_, ?_⟩
  · rw [(hf2 b (by omega) (by omega) (by omega) (by omega)).1]; exact h1
  · intro q hq
    by_cases e : q = p
    · subst e
      show Sh τ _ _ 64 (up1 (dP D) q P q)
      rw [up1_self]; exact hS
    · show Sh τ _ _ 64 (up1 (dP D) p P q)
      rw [up1_ne _ _ e]
      have hq : q < dN D := hq
      exact Sh_fr (h2 q hq) (hf2 _ (by omega) (by omega) (by omega) (by omega)).1 (hf2 _ (by omega) (by omega) (by omega) (by omega)).2
  · rw [(hf2 (b + 18) (by omega) (by omega) (by omega) (by omega)).1]; exact h3
  · rw [(hf2 (b + 18) (by omega) (by omega) (by omega) (by omega)).1]; exact h4
  · intro i hi
    obtain ⟨g1, g2, g3⟩ := h5 i hi
    have hk : (dX D + 9 - i) % 10 < 10 := Nat.mod_lt _ (by omega)
    show HC b τ ((dX D + 9 - i) % 10) (dH D i)
    refine ⟨?_, ?_, ?_⟩
    · rw [(hf2 _ (by omega) (by omega) (by omega) (by omega)).1]; exact g1
    · rw [(hf2 _ (by omega) (by omega) (by omega) (by omega)).1]; exact g2
    · exact Sh_fr g3 (hf2 _ (by omega) (by omega) (by omega) (by omega)).1 (hf2 _ (by omega) (by omega) (by omega) (by omega)).2
  · exact Sh_fr h6 (hf2 _ (by omega) (by omega) (by omega) (by omega)).1 (hf2 _ (by omega) (by omega) (by omega) (by omega)).2
  · rw [(hf2 b (by omega) (by omega) (by omega) (by omega)).1]; exact h7
  · intro i hi
    rw [(hf2 (b + 64) (by omega) (by omega) (by omega) (by omega)).1]; exact h8 i hi
noncomputable def seamP (P : PG) (la lb : Nat) : Nat := fnt (fun x => fb_ct (fun y => P.2.2 x y) P.2.1) la lb (lb - la)
def lefP (P : PG) (m : Nat) : PG := (m, P.2.1, fun x y => decide (x < m) && P.2.2 x y)
def rigP (P : PG) (m : Nat) : PG := (P.1 - m, P.2.1, fun x y => P.2.2 (x + m) y)
theorem lef_ok {P : PG} {m : Nat} (h : okP P) (h1 : 1 ≤ m) (h2 : m < P.1) : okP (lefP P m) := by
  refine ⟨h1, by show m ≤ 64; have := h.2.1; omega, h.2.2.1, h.2.2.2.1, fun x y q => ?_⟩
  have q : (decide (x < m) && P.2.2 x y) = true := q
  simp only [Bool.and_eq_true, decide_eq_true_eq] at q
  exact ⟨q.1, (h.2.2.2.2 x y q.2).2⟩
theorem rig_ok {P : PG} {m : Nat} (h : okP P) (h2 : m < P.1) : okP (rigP P m) := by
  refine ⟨by show 1 ≤ P.1 - m; omega, by show P.1 - m ≤ 64; have := h.2.1; omega, h.2.2.1, h.2.2.2.1, fun x y q => ?_⟩
  have := h.2.2.2.2 (x + m) y q
  exact ⟨by show x < P.1 - m; omega, this.2⟩
noncomputable def partD (D : Desk) (p m : Nat) : Desk := setN (setP (setP (pushD D p (dN D + 1)) p (lefP (dP D p) m)) (dN D) (rigP (dP D p) m)) (dN D + 1)
theorem GD_part {D : Desk} {p m : Nat} (G : GD D) (hp : p < dN D) (hN : dN D < 8) (h1 : 1 ≤ m) (h2 : m < (dP D p).1) : GD (partD D p m) :=
  GD_more (D := setP (pushD D p (dN D + 1)) p (lefP (dP D p) m)) (GD_page (GD_push G hp (Or.inr rfl) (by omega)) (lef_ok (G.2.1 p hp) h1 h2)) hN (rig_ok (G.2.1 p hp) h2)
theorem cp_part_t {b p la lb : Nat} {e : Int32} {σ : Sto} {D : Desk} (h : CR b σ D) (G : GD D) (hp : p < dN D) (ha : 1 ≤ la) (hab : la ≤ lb) (hb : lb < (dP D p).1) (he : 0 ≤ e) (hN : dN D < 8) (hs : nI (fb_ct (fun y => (dP D p).2.2 (seamP (dP D p) la lb) y) (dP D p).2.1) ≤ e) :
    ∃ τ, F_X4_part (ΛE b) σ b (nI p) (nI la) (nI lb) e = some (nI (dN D), τ) ∧ CR b τ (partD D p (seamP (dP D p) la lb)) ∧ FrC b σ τ := by
  have g1 := G.1
  have gp := G.2.1 p hp
  have gp0 := gp
  unfold okP at gp
  have hS := h.2.1 p hp
  have bd := fnt_bd (fun x => fb_ct (fun y => (dP D p).2.2 x y) (dP D p).2.1) la lb (lb - la)
  unfold F_X4_part
  rw [find_t h g1 hp, Option.bind_some, oc_s, e1, if_neg (nI_nlt ha (by omega)), if_neg (nI_nlt hab (by omega)), hS.1, if_neg (nI_ge hb (by omega)), if_neg (by rw [lt32]; rw [le32] at he; omega), h.1, e8, if_pos (nI_lt hN (by omega)), faintest_eq (rPr (show p < 8 by omega) b) (lP (by omega) b) (by omega) hS (by omega) hab, Option.bind_some]
  change 1 ≤ la at ha
  rw [show fnt (fun x => fb_ct (fun y => (dP D p).2.2 x y) (dP D p).2.1) la lb (lb - la) = seamP (dP D p) la lb from rfl] at bd ⊢
  rw [columnInk_eq (rPr (show p < 8 by omega) b) (lP (by omega) b) (by omega) hS (by omega), Option.bind_some, if_pos hs, r0_2]
  obtain ⟨τ, q1, q2, q3⟩ := remember_cr (m := dN D + 1) (made := nI (dN D)) h G hp (by unfold mdI; rw [if_neg (by omega)]; rfl)
  have hS1 : Sh τ _ _ 64 (dP D p) := q2.2.1 p hp
  have hn1 : τ.1 b 1 = nI (dN D) := q2.1
  rw [q1, Option.bind_some, hn1, r0_0, l1, if_pos (gd_nI hN (by omega)), nI_cl (by omega), rP hN]
  obtain ⟨υ, w1, w2, w3, w4⟩ := moveRight_sh (rPr (show p < 8 by omega) b) (lP (by omega) b) (rPr hN b) (lP hN b) (by omega) (by omega) (by omega) (by omega) (by omega) (by omega) hS1 (show seamP (dP D p) la lb < (dP D p).1 by omega)
  rw [w1, Option.bind_some, nmE]
  have c1 := CR_page2 (D := pushD D p (dN D + 1)) q2 g1 (by omega) (Nat.le_refl _) hN w4 w2
  have hn2 : υ.1 b 1 = nI (dN D) := c1.1
  rw [hn2, nI_add]
  have c2 : CR b υ (setP (setP (pushD D p (dN D + 1)) p (lefP (dP D p) (seamP (dP D p) la lb))) (dN D) (rigP (dP D p) (seamP (dP D p) la lb))) := by
    obtain ⟨a1, a2, a3⟩ := c1
    refine ⟨a1, fun q hq => ?_, a3⟩
    have hq : q < dN D := hq
    show Sh υ _ _ 64 (up1 _ (dN D) _ q)
    rw [up1_ne _ _ (by omega)]
    exact a2 q hq
  refine ⟨_, rfl, CR_n c2 (fun q hq => ?_), FrC_trans q3 (FrC_trans (FrC_of w4 (by simp <;> omega)) (FrC_of (Fr_stI (S := [b]) (by simp)) (by simp)))⟩
  by_cases e : q = dN D
  · subst e
    show Sh υ _ _ 64 (up1 _ (dN D) _ (dN D))
    rw [up1_self]; exact w3
  · exact c2.2.1 q (by show q < dN D; omega)
theorem cp_part_f {b : Nat} {q x z e : Int32} {σ : Sto} {D : Desk} (hc : CR b σ D) (G : GD D) (hn : ¬ ∃ p la lb, p < dN D ∧ 1 ≤ la ∧ la ≤ lb ∧ lb < (dP D p).1 ∧ 0 ≤ e ∧ dN D < 8 ∧ nI (fb_ct (fun y => (dP D p).2.2 (seamP (dP D p) la lb) y) (dP D p).2.1) ≤ e ∧ q = nI p ∧ x = nI la ∧ z = nI lb) : F_X4_part (ΛE b) σ b q x z e = some (-1, σ) := by
  unfold F_X4_part
  by_cases c1 : ∃ p, p < dN D ∧ q = nI p
  · obtain ⟨p, hp, rfl⟩ := c1
    have g1 := G.1
    have gp := G.2.1 p hp
    unfold okP at gp
    have hS := hc.2.1 p hp
    rw [find_t hc g1 hp, Option.bind_some, oc_s, hS.1]
    by_cases c2 : x < 1
    · rw [if_pos c2]
    · rw [if_neg c2]
      by_cases c3 : z < x
      · rw [if_pos c3]
      · rw [if_neg c3]
        by_cases c4 : nI (dP D p).1 ≤ z
        · rw [if_pos c4]
        · rw [if_neg c4]
          rw [lt32, show (1 : Int32).toInt = 1 by decide] at c2
          rw [lt32] at c3
          rw [le32, nI_ti (by omega)] at c4
          obtain ⟨la, a1, a2⟩ : ∃ la : Nat, (la : Int) = x.toInt ∧ x = nI la := ⟨x.toInt.toNat, by omega, by rw [eq32, nI_ti (by omega)]; omega⟩
          obtain ⟨lb, b1, b2⟩ : ∃ lb : Nat, (lb : Int) = z.toInt ∧ z = nI lb := ⟨z.toInt.toNat, by omega, by rw [eq32, nI_ti (by omega)]; omega⟩
          by_cases c5 : e < 0
          · rw [if_pos c5]
          · rw [if_neg c5, hc.1, e8]
            by_cases c6 : dN D < 8
            · have bd := fnt_bd (fun x => fb_ct (fun y => (dP D p).2.2 x y) (dP D p).2.1) la lb (lb - la)
              rw [if_pos (nI_lt c6 (by omega)), a2, b2, faintest_eq (rPr (show p < 8 by omega) b) (lP (by omega) b) (by omega) hS (by omega) (by omega), Option.bind_some]
              rw [show fnt (fun x => fb_ct (fun y => (dP D p).2.2 x y) (dP D p).2.1) la lb (lb - la) = seamP (dP D p) la lb from rfl] at bd ⊢
              rw [columnInk_eq (rPr (show p < 8 by omega) b) (lP (by omega) b) (by omega) hS (by omega), Option.bind_some, if_neg (fun c7 => hn ⟨p, la, lb, hp, by omega, by omega, by omega, by rw [lt32] at c5; rw [le32]; omega, c6, c7, rfl, a2, b2⟩)]
            · rw [if_neg (nI_nlt (by omega) (by omega))]
  · rw [find_f hc G.1 c1, Option.bind_some, oc_n]
-- back
def backD (D : Desk) : Desk := if (dH D 0).2.1 = dN D then setN (setP (popD D) (dH D 0).1 (dH D 0).2.2) (dN D - 1) else setP (popD D) (dH D 0).1 (dH D 0).2.2
theorem GD_back {D : Desk} (G : GD D) (hk : 0 < dK D) : GD (backD D) := by
  obtain ⟨g1, g2, g3, g4, g5, g6, g7, g8, g9⟩ := G
  have h0 := g5 0 hk
  have hpop : GD (setP (popD D) (dH D 0).1 (dH D 0).2.2) := by
    refine GD_page ⟨g1, g2, by show dK D - 1 ≤ 10; omega, by show (dX D + 9) % 10 < 10; omega, ?_, ?_, g7, g8, g9⟩ h0.2.1
    · intro i hi
      have hi : i < dK D - 1 := hi
      exact g5 (i + 1) (by omega)
    · intro i j hij hj h1
      have hj : j < dK D - 1 := hj
      exact g6 (i + 1) (j + 1) (by omega) (by omega) h1
  unfold backD
  by_cases c : (dH D 0).2.1 = dN D
  · rw [if_pos c]
    obtain ⟨f1, f2, f3, f4, f5, f6, f7, f8, f9⟩ := hpop
    refine ⟨by show dN D - 1 ≤ 8; omega, fun q hq => f2 q (by have hq : q < dN D - 1 := hq; show q < dN D; omega), f3, f4, ?_, f6, f7, f8, f9⟩
    intro i hi
    have hi : i < dK D - 1 := hi
    have a1 := g5 (i + 1) (by omega)
    have a2 := g6 0 (i + 1) (by omega) (by omega) (by omega)
    refine ⟨?_, a1.2⟩
    show (dH D (i + 1)).1 < dN D - 1
    omega
  · rw [if_neg c]; exact hpop
theorem cp_back_n {b : Nat} {σ : Sto} {D : Desk} (h : CR b σ D) (hk : dK D = 0) : F_X4_back (ΛE b) σ b = some (-1, σ) := by
  unfold F_X4_back F_X1_takeLatest
  rw [r0_2, h.2.2.2.1, hk, if_pos nI_0, Option.bind_some, oc_n]
theorem cp_back_t {b : Nat} {σ : Sto} {D : Desk} (h : CR b σ D) (G : GD D) (hk : 0 < dK D) : ∃ τ, F_X4_back (ΛE b) σ b = some (nI (dH D 0).1, τ) ∧ CR b τ (backD D) ∧ FrC b σ τ := by
  obtain ⟨g1, g2, g3, g4, g5, g6, g7, g8, g9⟩ := G
  obtain ⟨h1, h2, h3, h4, h5, h6, h7, h8⟩ := h
  have h0 := g5 0 hk
  have hX : (dX D + 9) % 10 < 10 := Nat.mod_lt _ (by omega)
  have take : F_X1_takeLatest (ΛE b) σ (b + 18) = some (some (b + (20 + 3 * ((dX D + 9) % 10))), stI (stI σ (b + 18) 2 (nI (dK D - 1))) (b + 18) 1 (nI ((dX D + 9) % 10))) := by
    unfold F_X1_takeLatest
    have a1 : (stI σ (b + 18) 2 (nI (dK D - 1))).1 (b + 18) 1 = nI (dX D) := by rw [stI_1, up2_nk _ _ _ (by decide)]; exact h3
    rw [h4]
    simp (disch := omega) only [e0, eq_f, ↓reduceIte, nmE, e1, nI_sb, a1]
    have fin : ∀ nx, nx = (dX D + 9) % 10 → jp_X1_takeLatest_38 (ΛE b) (stI σ (b + 18) 2 (nI (dK D - 1))) (b + 18) (nI nx) (b + 18) = some (some (b + (20 + 3 * ((dX D + 9) % 10))), stI (stI σ (b + 18) 2 (nI (dK D - 1))) (b + 18) 1 (nI ((dX D + 9) % 10))) := by
      intro nx hnx
      subst hnx
      unfold jp_X1_takeLatest_38
      simp (disch := omega) only [nmE, stI_1, up2_self, r18_0, l19, gd_nI, nI_cl, rH, ↓reduceIte]
    by_cases c : dX D = 0
    · rw [if_pos (nI_le (by omega) (by omega))]
      exact fin 9 (by omega)
    · rw [if_neg (nI_ge (by omega) (by omega)), nI_sb (by omega)]
      exact fin (dX D - 1) (by omega)
  have hu : ∀ c, c ≠ b + 18 → (stI (stI σ (b + 18) 2 (nI (dK D - 1))) (b + 18) 1 (nI ((dX D + 9) % 10))).1 c = σ.1 c ∧ (stI (stI σ (b + 18) 2 (nI (dK D - 1))) (b + 18) 1 (nI ((dX D + 9) % 10))).2 c = σ.2 c := by
    intro c hc
    refine ⟨?_, rfl⟩
    rw [stI_1, up2_ne _ _ _ hc, stI_1, up2_ne _ _ _ hc]
  have hc : CR b (stI (stI σ (b + 18) 2 (nI (dK D - 1))) (b + 18) 1 (nI ((dX D + 9) % 10))) (popD D) := by
    refine ⟨?_, ?_, ?_, ?_, ?_, ?_, ?_, ?_⟩
    · rw [(hu b (by omega)).1]; exact h1
    · intro q hq
      have hq : q < dN D := hq
      exact Sh_fr (h2 q hq) (hu _ (by omega)).1 (hu _ (by omega)).2
    · rw [stI_1, up2_self]; rfl
    · rw [stI_1, up2_nk _ _ _ (by decide), stI_1, up2_self]; rfl
    · intro i hi
      have hi : i < dK D - 1 := hi
      show HC b _ (((dX D + 9) % 10 + 9 - i) % 10) (dH D (i + 1))
      rw [show ((dX D + 9) % 10 + 9 - i) % 10 = (dX D + 9 - (i + 1)) % 10 by omega]
      obtain ⟨c1, c2, c3⟩ := h5 (i + 1) (by omega)
      refine ⟨?_, ?_, ?_⟩
      · rw [(hu _ (by omega)).1]; exact c1
      · rw [(hu _ (by omega)).1]; exact c2
      · exact Sh_fr c3 (hu _ (by omega)).1 (hu _ (by omega)).2
    · exact Sh_fr h6 (hu _ (by omega)).1 (hu _ (by omega)).2
    · rw [(hu b (by omega)).1]; exact h7
    · intro i hi
      rw [(hu (b + 64) (by omega)).1]; exact h8 i hi
  obtain ⟨k1, k2, k3⟩ := h5 0 hk
  rw [show dX D + 9 - 0 = dX D + 9 by omega] at k1 k2 k3
  have frc : FrC b σ (stI (stI σ (b + 18) 2 (nI (dK D - 1))) (b + 18) 1 (nI ((dX D + 9) % 10))) := fun c hc _ => hu c (by omega)
  unfold F_X4_back
  rw [r0_2, take, Option.bind_some, oc_s]
  simp only
  generalize stI (stI σ (b + 18) 2 (nI (dK D - 1))) (b + 18) 1 (nI ((dX D + 9) % 10)) = τ at *
  have j1 : τ.1 (b + (20 + 3 * ((dX D + 9) % 10))) 0 = nI (dH D 0).1 := by rw [(hu _ (by omega)).1]; exact k1
  have j2 : τ.1 (b + (20 + 3 * ((dX D + 9) % 10))) 1 = mdI (dH D 0).2.1 := by rw [(hu _ (by omega)).1]; exact k2
  have j3 : Sh τ (b + (21 + 3 * ((dX D + 9) % 10))) (b + (22 + 3 * ((dX D + 9) % 10))) 64 (dH D 0).2.2 := Sh_fr k3 (hu _ (by omega)).1 (hu _ (by omega)).2
  rw [j1, find_t hc g1 h0.1, Option.bind_some, oc_s, rHs hX]
  obtain ⟨υ, w1, w2, w3⟩ := become_sh (Λ := ΛE b) (rPr (show (dH D 0).1 < 8 by omega) b) (lP (by omega) b) (by omega) (rHr hX b) (lH hX b) (by omega) (by omega) (by omega) j3 h0.2.1.2.2.2.1
  rw [w1, Option.bind_some]
  have c2 := CR_page hc g1 (show (dH D 0).1 < 8 by omega) (Fr_mono w3 (by simp)) w2
  have wf : ∀ c, c ≠ b + (2 + 2 * (dH D 0).1) → c ≠ b + (3 + 2 * (dH D 0).1) → υ.1 c = τ.1 c := fun c n1 n2 => (w3 c (by simp <;> omega)).1
  have i1 : υ.1 (b + (20 + 3 * ((dX D + 9) % 10))) 0 = nI (dH D 0).1 := by rw [wf _ (by omega) (by omega)]; exact j1
  have i2 : υ.1 (b + (20 + 3 * ((dX D + 9) % 10))) 1 = mdI (dH D 0).2.1 := by rw [wf _ (by omega) (by omega)]; exact j2
  have i3 : υ.1 b 1 = nI (dN D) := c2.1
  have f2 : FrC b σ υ := FrC_trans frc (FrC_of w3 (by simp <;> omega))
  rw [i1, i2, i3]
  unfold backD mdI
  have hm := h0.2.2
  by_cases m0 : (dH D 0).2.1 = 0
  · rw [if_pos m0, if_pos rfl, if_neg (by omega)]
    exact ⟨_, rfl, c2, f2⟩
  · rw [if_neg m0, if_neg (by
      intro q
      rw [eq32, nI_ti (by omega), show (-1 : Int32).toInt = -1 by decide] at q
      omega), e1, nI_sb (by omega)]
    by_cases m1 : (dH D 0).2.1 = dN D
    · rw [if_pos m1, if_pos (by rw [m1]), nmE]
      have i4 : (stI υ b 1 (nI (dN D - 1))).1 (b + (20 + 3 * ((dX D + 9) % 10))) 0 = nI (dH D 0).1 := by rw [stI_1, up2_ne _ _ _ (by omega)]; exact i1
      rw [i4]
      exact ⟨_, rfl, CR_n c2 (fun q hq => c2.2.1 q (by show q < dN D; omega)), FrC_trans f2 (FrC_of (Fr_stI (S := [b]) (by simp)) (by simp))⟩
    · rw [if_neg m1, if_neg (fun q => by
        have := (nI_eq (by omega) (by omega)).mp q
        omega)]
      exact ⟨_, rfl, c2, f2⟩
