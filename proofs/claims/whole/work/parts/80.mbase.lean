/-! THE REFERENCE'S CELLS show the desk too -/
theorem in_w (a l h : Int32) : F_X5_in a.toInt64 l.toInt64 h.toInt64 = F_X4_within a l h := by
  unfold F_X5_in F_X4_within
  simp only [lg_cmp_lt, lg_cmp_gt, fa_wide_lt]
theorem w0 : (0 : Int64) = (0 : Int32).toInt64 := by decide
theorem w1 : (1 : Int64) = (1 : Int32).toInt64 := by decide
theorem w3 : (3 : Int64) = (3 : Int32).toInt64 := by decide
theorem w4 : (4 : Int64) = (4 : Int32).toInt64 := by decide
theorem w6 : (6 : Int64) = (6 : Int32).toInt64 := by decide
theorem w12 : (12 : Int64) = (12 : Int32).toInt64 := by decide
theorem w16 : (16 : Int64) = (16 : Int32).toInt64 := by decide
theorem w20 : (20 : Int64) = (20 : Int32).toInt64 := by decide
theorem w64 : (64 : Int64) = (64 : Int32).toInt64 := by decide
theorem w100 : (100 : Int64) = (100 : Int32).toInt64 := by decide
theorem wm12 : (-12 : Int64) = (-12 : Int32).toInt64 := by decide
theorem wm16 : (-16 : Int64) = (-16 : Int32).toInt64 := by decide
/-- the reference leaves the class's cells alone -/
def KF (b : Nat) (σ τ : Sto) : Prop := τ.2 = σ.2 ∧ ∀ c, (c < b + 65 ∨ c = b + 83) → τ.1 c = σ.1 c
theorem KF_refl (b : Nat) (σ : Sto) : KF b σ σ := ⟨rfl, fun _ _ => rfl⟩
theorem KF_trans {b : Nat} {σ τ υ : Sto} (h : KF b σ τ) (h2 : KF b τ υ) : KF b σ υ := ⟨h2.1.trans h.1, fun c hc => (h2.2 c hc).trans (h.2 c hc)⟩
theorem KF_stI {b a k : Nat} {v : Int32} {σ : Sto} (h : b + 65 ≤ a) (h2 : a ≠ b + 83) : KF b σ (stI σ a k v) := ⟨rfl, fun c hc => up2_ne _ _ _ (by omega)⟩
theorem KF_putI {b a k n : Nat} {v : Nat → Int32} {σ : Sto} (h : b + 65 ≤ a) (h2 : a ≠ b + 83) : KF b σ (putI σ a k n v) := ⟨rfl, fun c hc => putI_ne (by omega)⟩
/-- 64 x 64 points from a place of a row on -/
def AR (σ : Sto) (A base : Nat) (S : Nat → Nat → Bool) : Prop := ∀ k, k < 4096 → σ.1 A (base + k) = bI (pk2 S k)
def MP (b : Nat) (σ : Sto) (p : Nat) (P : PG) : Prop := σ.1 (b + 66) p = nI P.1 ∧ σ.1 (b + 67) p = nI P.2.1 ∧ AR σ (b + 68) (p * 4096) P.2.2
def MC (b : Nat) (σ : Sto) (s : Nat) (c : Chg) : Prop := σ.1 (b + 70) s = nI c.1 ∧ σ.1 (b + 71) s = nI c.2.2.1 ∧ σ.1 (b + 72) s = nI c.2.2.2.1 ∧ σ.1 (b + 73) s = mdI c.2.1 ∧ AR σ (b + 74) (s * 4096) c.2.2.2.2
def MLs (b : Nat) (σ : Sto) (L : PG) : Prop := σ.1 (b + 65) 19 = nI (inkP L) ∧ ∀ x y, L.2.2 x y = true → σ.1 (b + 80) (rkP L x y) = nI x ∧ σ.1 (b + 81) (rkP L x y) = nI y
def MR (b : Nat) (σ : Sto) (D : Desk) : Prop := σ.1 (b + 65) 1 = nI (dN D) ∧ (∀ p, p < dN D → MP b σ p (dP D p)) ∧ σ.1 (b + 65) 6 = nI (dK D) ∧ (∃ nw, nw < 10 ∧ σ.1 (b + 65) 7 = nI nw ∧ ∀ i, i < dK D → MC b σ ((nw + 10 - i) % 10) (dH D i)) ∧ MLs b σ (dL D) ∧ VR (b + 65) (b + 82) 22 σ (dM D, dV D)
/-- pages but those of X, changes, the list and the numbers are kept -/
def MF (b : Nat) (X : Nat → Prop) (σ τ : Sto) : Prop := τ.2 = σ.2 ∧ (∀ c, (c < b + 65 ∨ (b + 70 ≤ c ∧ c ≤ b + 74) ∨ b + 80 ≤ c) → τ.1 c = σ.1 c) ∧ (∀ k, k ≠ 0 → k ≠ 16 → τ.1 (b + 65) k = σ.1 (b + 65) k) ∧ (∀ q, ¬ X q → τ.1 (b + 66) q = σ.1 (b + 66) q ∧ τ.1 (b + 67) q = σ.1 (b + 67) q ∧ ∀ k, k < 4096 → τ.1 (b + 68) (q * 4096 + k) = σ.1 (b + 68) (q * 4096 + k))
def X0 : Nat → Prop := fun _ => False
theorem MF_refl (b : Nat) (X : Nat → Prop) (σ : Sto) : MF b X σ σ := ⟨rfl, fun _ _ => rfl, fun _ _ _ => rfl, fun _ _ => ⟨rfl, rfl, fun _ _ => rfl⟩⟩
theorem MF_trans {b : Nat} {X : Nat → Prop} {σ τ υ : Sto} (h : MF b X σ τ) (h2 : MF b X τ υ) : MF b X σ υ :=
  ⟨h2.1.trans h.1, fun c hc => (h2.2.1 c hc).trans (h.2.1 c hc), fun k k1 k2 => (h2.2.2.1 k k1 k2).trans (h.2.2.1 k k1 k2), fun q hq => ⟨(h2.2.2.2 q hq).1.trans (h.2.2.2 q hq).1, (h2.2.2.2 q hq).2.1.trans (h.2.2.2 q hq).2.1, fun k hk => ((h2.2.2.2 q hq).2.2 k hk).trans ((h.2.2.2 q hq).2.2 k hk)⟩⟩
theorem MF_mono {b : Nat} {X Y : Nat → Prop} {σ τ : Sto} (h : MF b X σ τ) (hx : ∀ q, X q → Y q) : MF b Y σ τ := ⟨h.1, h.2.1, h.2.2.1, fun q hq => h.2.2.2 q (fun z => hq (hx q z))⟩
theorem MF_KF {b : Nat} {X : Nat → Prop} {σ τ : Sto} (h : MF b X σ τ) : KF b σ τ := ⟨h.1, fun c hc => h.2.1 c (by omega)⟩
theorem AR_cong {σ τ : Sto} {A base : Nat} {S : Nat → Nat → Bool} (h : AR σ A base S) (hf : ∀ k, k < 4096 → τ.1 A (base + k) = σ.1 A (base + k)) : AR τ A base S := fun k hk => (hf k hk).trans (h k hk)
theorem MP_MF {b p : Nat} {X : Nat → Prop} {σ τ : Sto} {P : PG} (h : MP b σ p P) (hf : MF b X σ τ) (hp : ¬ X p) : MP b τ p P := by
  obtain ⟨f1, f2, f3⟩ := hf.2.2.2 p hp
  exact ⟨f1.trans h.1, f2.trans h.2.1, AR_cong h.2.2 f3⟩
theorem MC_fr {b s : Nat} {σ τ : Sto} {c : Chg} (h : MC b σ s c) (hf : ∀ e, b + 70 ≤ e → e ≤ b + 74 → τ.1 e = σ.1 e) : MC b τ s c := by
  obtain ⟨h1, h2, h3, h4, h5⟩ := h
  refine ⟨?_, ?_, ?_, ?_, AR_cong h5 (fun k _ => ?_)⟩
  · rw [hf _ (by omega) (by omega)]; exact h1
  · rw [hf _ (by omega) (by omega)]; exact h2
  · rw [hf _ (by omega) (by omega)]; exact h3
  · rw [hf _ (by omega) (by omega)]; exact h4
  · rw [hf _ (by omega) (by omega)]
/-- pages told anew, all else kept -/
theorem MR_pages {b : Nat} {X : Nat → Prop} {σ τ : Sto} {D : Desk} {f : Nat → PG} (h : MR b σ D) (hf : MF b X σ τ) (hp : ∀ p, p < dN D → MP b τ p (f p)) : MR b τ (dN D, f, dK D, dX D, dH D, dL D, dM D, dV D) := by
  obtain ⟨h1, h2, h3, ⟨nw, n1, n2, n3⟩, h5, h6⟩ := h
  refine ⟨?_, hp, ?_, ⟨nw, n1, ?_, fun i hi => MC_fr (n3 i hi) (fun e e1 e2 => hf.2.1 e (by omega))⟩, ⟨?_, fun x y q => ?_⟩, ⟨?_, fun j hj => ?_⟩⟩
  · rw [hf.2.2.1 1 (by decide) (by decide)]; exact h1
  · rw [hf.2.2.1 6 (by decide) (by decide)]; exact h3
  · rw [hf.2.2.1 7 (by decide) (by decide)]; exact n2
  · rw [hf.2.2.1 19 (by decide) (by decide)]; exact h5.1
  · rw [hf.2.1 (b + 80) (by omega), hf.2.1 (b + 81) (by omega)]; exact h5.2 x y q
  · rw [hf.2.2.1 22 (by decide) (by decide)]; exact h6.1
  · rw [hf.2.1 (b + 82) (by omega)]; exact h6.2 j hj
theorem MR_MF {b : Nat} {σ τ : Sto} {D : Desk} (h : MR b σ D) (hf : MF b X0 σ τ) : MR b τ D := MR_pages h hf (fun p hp => MP_MF (h.2.1 p hp) hf (fun q => q))
theorem MR_page {b p : Nat} {σ τ : Sto} {D : Desk} {P : PG} (h : MR b σ D) (hf : MF b (fun q => q = p) σ τ) (hP : MP b τ p P) : MR b τ (setP D p P) := by
  refine MR_pages h hf (fun q hq => ?_)
  by_cases e : q = p
  · rw [e, up1_self]; exact hP
  · rw [up1_ne _ _ e]; exact MP_MF (h.2.1 q hq) hf e
/-- slots of the object that tell nothing of the desk -/
theorem MF_s {b k : Nat} {X : Nat → Prop} {v : Int32} {σ : Sto} (hk : k = 0 ∨ k = 16) : MF b X σ (stI σ (b + 65) k v) :=
  ⟨rfl, fun c hc => up2_ne _ _ _ (by omega), fun j j1 j2 => up2_nk _ _ _ (by omega), fun q _ => ⟨by rw [stI_1, up2_ne _ _ _ (by omega)], by rw [stI_1, up2_ne _ _ _ (by omega)], fun k _ => by rw [stI_1, up2_ne _ _ _ (by omega)]⟩⟩
/-- a row that tells nothing of the desk -/
theorem MF_a {b a k : Nat} {X : Nat → Prop} {v : Int32} {σ : Sto} (ha : a = b + 69 ∨ (b + 75 ≤ a ∧ a ≤ b + 79)) : MF b X σ (stI σ a k v) :=
  ⟨rfl, fun c hc => up2_ne _ _ _ (by omega), fun j j1 j2 => by rw [stI_1, up2_ne _ _ _ (by omega)], fun q _ => ⟨by rw [stI_1, up2_ne _ _ _ (by omega)], by rw [stI_1, up2_ne _ _ _ (by omega)], fun k _ => by rw [stI_1, up2_ne _ _ _ (by omega)]⟩⟩
theorem MF_ap {b a k n : Nat} {X : Nat → Prop} {v : Nat → Int32} {σ : Sto} (ha : a = b + 69 ∨ (b + 75 ≤ a ∧ a ≤ b + 79)) : MF b X σ (putI σ a k n v) :=
  ⟨rfl, fun c hc => putI_ne (by omega), fun j j1 j2 => by rw [putI_ne (by omega)], fun q _ => ⟨by rw [putI_ne (by omega)], by rw [putI_ne (by omega)], fun k _ => by rw [putI_ne (by omega)]⟩⟩
theorem MF_wide {b p : Nat} {v : Int32} {σ : Sto} : MF b (fun q => q = p) σ (stI σ (b + 66) p v) :=
  ⟨rfl, fun c hc => up2_ne _ _ _ (by omega), fun j j1 j2 => by rw [stI_1, up2_ne _ _ _ (by omega)], fun q hq => ⟨by rw [stI_1, up2_nk _ _ _ hq], by rw [stI_1, up2_ne _ _ _ (by omega)], fun k _ => by rw [stI_1, up2_ne _ _ _ (by omega)]⟩⟩
theorem MF_high {b p : Nat} {v : Int32} {σ : Sto} : MF b (fun q => q = p) σ (stI σ (b + 67) p v) :=
  ⟨rfl, fun c hc => up2_ne _ _ _ (by omega), fun j j1 j2 => by rw [stI_1, up2_ne _ _ _ (by omega)], fun q hq => ⟨by rw [stI_1, up2_ne _ _ _ (by omega)], by rw [stI_1, up2_nk _ _ _ hq], fun k _ => by rw [stI_1, up2_ne _ _ _ (by omega)]⟩⟩
theorem MF_ink {b p k : Nat} {v : Int32} {σ : Sto} (hk : k < 4096) : MF b (fun q => q = p) σ (stI σ (b + 68) (p * 4096 + k) v) :=
  ⟨rfl, fun c hc => up2_ne _ _ _ (by omega), fun j j1 j2 => by rw [stI_1, up2_ne _ _ _ (by omega)], fun q hq => ⟨by rw [stI_1, up2_ne _ _ _ (by omega)], by rw [stI_1, up2_ne _ _ _ (by omega)], fun j hj => by rw [stI_1, up2_nk _ _ _ (by omega)]⟩⟩
theorem MF_inkp {b p n : Nat} {v : Nat → Int32} {σ : Sto} (hn : n ≤ 4096) : MF b (fun q => q = p) σ (putI σ (b + 68) (p * 4096) n v) :=
  ⟨rfl, fun c hc => putI_ne (by omega), fun j j1 j2 => by rw [putI_ne (by omega)], fun q hq => ⟨by rw [putI_ne (by omega)], by rw [putI_ne (by omega)], fun j hj => putI_out (by omega)⟩⟩
/-- a call begins: nothing thrown -/
theorem mr0 {b : Nat} {v : Int32} {σ : Sto} {D : Desk} (h : MR b σ D) : MR b (stI σ (b + 65) 0 v) D ∧ KF b σ (stI σ (b + 65) 0 v) ∧ (stI σ (b + 65) 0 v).1 (b + 65) 0 = v := ⟨MR_MF h (MF_s (Or.inl rfl)), MF_KF (X := X0) (MF_s (Or.inl rfl)), by rw [stI_1, up2_self]⟩
theorem isPage_t {b p : Nat} {σ : Sto} {D : Desk} (h : MR b σ D) (hN : dN D ≤ 8) (hp : p < dN D) : F_X5_isPage (ΛE b) σ (b + 65) (nI p) = nI 1 := by
  unfold F_X5_isPage
  rw [nmE, w0, in_w, h.1, e0, e1, within0_t hp (by omega)]
theorem isPage_f {b : Nat} {x : Int32} {σ : Sto} {D : Desk} (h : MR b σ D) (hN : dN D ≤ 8) (hp : ¬ ∃ p, p < dN D ∧ x = nI p) : F_X5_isPage (ΛE b) σ (b + 65) x = nI 0 := by
  unfold F_X5_isPage
  rw [nmE, w0, in_w, h.1, e0, e1, within0_f (by omega) hp]
theorem isPoint_t {b p x y : Nat} {σ : Sto} {D : Desk} (h : MR b σ D) (G : GD D) (hp : p < dN D) (hx : x < (dP D p).1) (hy : y < (dP D p).2.1) : F_X5_isPoint (ΛE b) σ (b + 65) (nI p) (nI x) (nI y) = some (nI 1) := by
  have g1 := G.1
  have gp := G.2.1 p hp
  unfold okP at gp
  obtain ⟨m1, m2, m3⟩ := h.2.1 p hp
  unfold F_X5_isPoint
  simp only [nmE]
  rw [isPage_t h g1 hp, if_neg (by decide), r65_2, l66, if_pos (gd_nI (by omega) (by omega)), nI_cl (by omega), m1, w0, in_w, e0, e1, within0_t hx (by omega), if_neg (by decide), r65_3, l67, if_pos (gd_nI (by omega) (by omega)), m2, in_w, within0_t hy (by omega), if_neg (by decide)]
theorem isPoint_f {b : Nat} {q x y : Int32} {σ : Sto} {D : Desk} (h : MR b σ D) (G : GD D) (hn : ¬ ∃ p i j, p < dN D ∧ i < (dP D p).1 ∧ j < (dP D p).2.1 ∧ q = nI p ∧ x = nI i ∧ y = nI j) : F_X5_isPoint (ΛE b) σ (b + 65) q x y = some (nI 0) := by
  have g1 := G.1
  unfold F_X5_isPoint
  simp only [nmE]
  by_cases c1 : ∃ p, p < dN D ∧ q = nI p
  · obtain ⟨p, hp, rfl⟩ := c1
    have gp := G.2.1 p hp
    unfold okP at gp
    obtain ⟨m1, m2, m3⟩ := h.2.1 p hp
    rw [isPage_t h g1 hp, if_neg (by decide), r65_2, l66, if_pos (gd_nI (by omega) (by omega)), nI_cl (by omega), m1, w0, in_w, e0, e1]
    by_cases c2 : ∃ i, i < (dP D p).1 ∧ x = nI i
    · obtain ⟨i, hi, rfl⟩ := c2
      rw [within0_t hi (by omega), if_neg (by decide), r65_3, l67, if_pos (gd_nI (by omega) (by omega)), m2, in_w, within0_f (by omega) (fun ⟨j, j1, j2⟩ => hn ⟨p, i, j, hp, hi, j1, rfl, rfl, j2⟩), if_pos rfl]
    · rw [within0_f (by omega) c2, if_pos rfl]
  · rw [isPage_f h g1 c1, if_pos nI_0]; rfl
theorem has_eq {b p x y : Nat} {σ : Sto} {P : PG} (hp : p < 8) (h : MP b σ p P) (hx : x < 64) (hy : y < 64) : F_X5_has (ΛE b) σ (b + 65) (nI p) (nI x) (nI y) = some (bI (P.2.2 x y)) := by
  unfold F_X5_has
  have e : σ.1 (b + 68) (p * 4096 + y * 64 + x) = bI (P.2.2 x y) := by
    rw [show p * 4096 + y * 64 + x = p * 4096 + (64 * y + x) by omega, h.2.2 _ (by omega), pk2_at _ hx]
  simp (disch := omega) only [e4096, e64, pk_mul, nI_add, r65_4, l68, gd_nI, nI_cl, ↓reduceIte, e, bz_bI]
theorem inks_eq {b p x y : Nat} {v : Bool} {σ : Sto} (hp : p < 8) (hx : x < 64) (hy : y < 64) : F_X5_inks (ΛE b) σ (b + 65) (nI p) (nI x) (nI y) (bI v) = some (stI σ (b + 68) (p * 4096 + (64 * y + x)) (bI v)) := by
  unfold F_X5_inks
  simp (disch := omega) only [e4096, e64, pk_mul, nI_add, r65_4, l68, gd_nI, nI_cl, ↓reduceIte, nmE, nar_bI]
  rw [show p * 4096 + y * 64 + x = p * 4096 + (64 * y + x) by omega]
theorem AR_set {σ : Sto} {A base x y : Nat} {S : Nat → Nat → Bool} {v : Bool} (h : AR σ A base S) (hx : x < 64) (hy : y < 64) : AR (stI σ A (base + (64 * y + x)) (bI v)) A base (fun a c => if a = x ∧ c = y then v else S a c) := by
  intro k hk
  by_cases e : k = 64 * y + x
  · rw [e, stI_1, up2_self, pk2_at _ hx]; simp
  · rw [stI_1, up2_nk _ _ _ (by omega), h k hk]
    show bI (S (k % 64) (k / 64)) = bI (if k % 64 = x ∧ k / 64 = y then v else S (k % 64) (k / 64))
    rw [if_neg (by omega)]
theorem AR_ext {σ : Sto} {A base : Nat} {S T : Nat → Nat → Bool} (h : AR σ A base S) (he : ∀ x y, x < 64 → y < 64 → T x y = S x y) : AR σ A base T := fun k hk => by
  rw [h k hk]
  unfold pk2
  rw [he _ _ (by omega) (by omega)]
theorem AR_put {σ : Sto} {A base : Nat} {S : Nat → Nat → Bool} : AR (putI σ A base 4096 (fun k => bI (pk2 S k))) A base S := fun k hk => by
  rw [putI_in (by omega) (by omega), show base + k - base = k by omega]
theorem MP_ext {b p : Nat} {σ : Sto} {P Q : PG} (h : MP b σ p P) (h1 : Q.1 = P.1) (h2 : Q.2.1 = P.2.1) (h3 : ∀ x y, x < 64 → y < 64 → Q.2.2 x y = P.2.2 x y) : MP b σ p Q := ⟨by rw [h1]; exact h.1, by rw [h2]; exact h.2.1, AR_ext h.2.2 h3⟩
theorem bIf : (0 : Int32) = bI false := by decide
theorem bIt : (1 : Int32) = bI true := by decide
theorem clears_eq {b p w h : Nat} {σ : Sto} (hp : p < 8) : ∃ τ, F_X5_clears (ΛE b) σ (b + 65) (nI p) (nI w) (nI h) = some τ ∧ MP b τ p (noP w h) ∧ MF b (fun q => q = p) σ τ := by
  unfold F_X5_clears
  simp (disch := omega) only [r65_2, l66, r65_3, l67, gd_nI, nI_cl, ↓reduceIte, nmE]
  rw [run_loop (s0 := ((0 : Int32), stI (stI σ (b + 66) p (nI w)) (b + 67) p (nI h))) (fun k => (nI k, putI (stI (stI σ (b + 66) p (nI w)) (b + 67) p (nI h)) (b + 68) (p * 4096) k (fun k => bI (pk2 (fun _ _ => false) k)))) (putI (stI (stI σ (b + 66) p (nI w)) (b + 67) p (nI h)) (b + 68) (p * 4096) 4096 (fun k => bI (pk2 (fun _ _ => false) k))) 4096 (by omega) (by rw [putI_0]; rfl)]
  · rw [Option.bind_some]
    refine ⟨_, rfl, ⟨?_, ?_, AR_put⟩, MF_trans (MF_trans MF_wide MF_high) (MF_inkp (by omega))⟩
    · rw [putI_ne (by omega), stI_1, up2_ne _ _ _ (by omega), stI_1, up2_self]; rfl
    · rw [putI_ne (by omega), stI_1, up2_self]; rfl
  · intro k hk
    unfold bd_X5_clears_17
    simp (disch := omega) only [e1, e4096, nI_add, pk_mul, le_f, r65_4, l68, gd_nI, nI_cl, ↓reduceIte, nmE]
    rw [bIf, nar_bI, putI_se (z := bI false) (v := fun k => bI (pk2 (fun _ _ => false) k)) rfl rfl]
  · unfold bd_X5_clears_17
    simp (disch := omega) only [e4096, le_t, ↓reduceIte]
theorem blank_eq {b : Nat} {σ : Sto} : ∃ τ, F_X5_blank (ΛE b) σ (b + 65) = some τ ∧ AR τ (b + 69) 0 (fun _ _ => false) ∧ MF b X0 σ τ := by
  unfold F_X5_blank
  rw [run_loop (s0 := ((0 : Int32), σ)) (fun k => (nI k, putI σ (b + 69) 0 k (fun k => bI (pk2 (fun _ _ => false) k)))) (putI σ (b + 69) 0 4096 (fun k => bI (pk2 (fun _ _ => false) k))) 4096 (by omega) (by rw [putI_0]; rfl)]
  · exact ⟨_, rfl, AR_put, MF_ap (Or.inl rfl)⟩
  · intro k hk
    unfold bd_X5_blank_2
    simp (disch := omega) only [e1, e4096, nI_add, le_f, r65_5, l69, gd_nI, nI_cl, ↓reduceIte, nmE]
    rw [bIf, nar_bI, putI_se (base := 0) (n := k) (k := k) (z := bI false) (v := fun k => bI (pk2 (fun _ _ => false) k)) (by omega) rfl]
  · unfold bd_X5_blank_2
    simp (disch := omega) only [e4096, le_t, ↓reduceIte]
theorem becomes_eq {b p w h : Nat} {σ : Sto} {S : Nat → Nat → Bool} (hp : p < 8) (hA : AR σ (b + 69) 0 S) : ∃ τ, F_X5_becomes (ΛE b) σ (b + 65) (nI p) (nI w) (nI h) = some τ ∧ MP b τ p (w, h, S) ∧ MF b (fun q => q = p) σ τ := by
  unfold F_X5_becomes
  simp (disch := omega) only [r65_2, l66, r65_3, l67, gd_nI, nI_cl, ↓reduceIte, nmE]
  rw [run_loop (s0 := ((0 : Int32), stI (stI σ (b + 66) p (nI w)) (b + 67) p (nI h))) (fun k => (nI k, putI (stI (stI σ (b + 66) p (nI w)) (b + 67) p (nI h)) (b + 68) (p * 4096) k (fun k => bI (pk2 S k)))) (putI (stI (stI σ (b + 66) p (nI w)) (b + 67) p (nI h)) (b + 68) (p * 4096) 4096 (fun k => bI (pk2 S k))) 4096 (by omega) (by rw [putI_0]; rfl)]
  · rw [Option.bind_some]
    refine ⟨_, rfl, ⟨?_, ?_, AR_put⟩, MF_trans (MF_trans MF_wide MF_high) (MF_inkp (by omega))⟩
    · rw [putI_ne (by omega), stI_1, up2_ne _ _ _ (by omega), stI_1, up2_self]
    · rw [putI_ne (by omega), stI_1, up2_self]
  · intro k hk
    unfold bd_X5_becomes_17
    have a1 : (putI (stI (stI σ (b + 66) p (nI w)) (b + 67) p (nI h)) (b + 68) (p * 4096) k (fun k => bI (pk2 S k))).1 (b + 69) k = bI (pk2 S k) := by
      rw [putI_ne (by omega), stI_1, up2_ne _ _ _ (by omega), stI_1, up2_ne _ _ _ (by omega)]
      have := hA k hk
      rwa [Nat.zero_add] at this
    simp (disch := omega) only [e1, e4096, nI_add, pk_mul, le_f, r65_4, l68, r65_5, l69, gd_nI, nI_cl, ↓reduceIte, nmE, a1, nar_bI]
    rw [putI_se rfl rfl]
  · unfold bd_X5_becomes_17
    simp (disch := omega) only [e4096, le_t, ↓reduceIte]
/-- a change is kept -/
theorem changing_eq {b p : Nat} {σ : Sto} {D : Desk} (h : MR b σ D) (G : GD D) (hp : p < dN D) : ∃ τ, F_X5_changing (ΛE b) σ (b + 65) (nI p) = some τ ∧ MR b τ (pushD D p 0) ∧ KF b σ τ ∧ τ.1 (b + 65) 0 = σ.1 (b + 65) 0 := by
  obtain ⟨g1, g2, g3, g4, g5, g6, g7, g8, g9⟩ := G
  obtain ⟨h1, h2, h3, ⟨nw, n1, n2, n3⟩, h5, h6⟩ := h
  obtain ⟨m1, m2, m3⟩ := h2 p hp
  unfold F_X5_changing
  rw [n2, nI_1, e10, pk_rem (by omega) (by omega) (by omega)]
  have hx : (nw + 1) % 10 < 10 := Nat.mod_lt _ (by omega)
  generalize hnx : (nw + 1) % 10 = nx at *
  simp (disch := omega) only [nmE, stI_1, up2_self, up2_nk, up2_ne, h3, e1, nI_add, mn_nI, r65_8, l70, r65_9, l71, r65_10, l72, r65_11, l73, r65_2, l66, r65_3, l67, gd_nI, nI_cl, ↓reduceIte, m1, m2]
  generalize hσ : stI (stI (stI (stI (stI (stI σ (b + 65) 7 (nI nx)) (b + 65) 6 (nI (min 10 (dK D + 1)))) (b + 70) nx (nI p)) (b + 71) nx (nI (dP D p).1)) (b + 72) nx (nI (dP D p).2.1)) (b + 73) nx (-nI 1) = σ1
  have o1 : ∀ c, c ≠ b + 65 → c ≠ b + 70 → c ≠ b + 71 → c ≠ b + 72 → c ≠ b + 73 → σ1.1 c = σ.1 c := by
    intro c n0 n1 n2 n3 n4
    rw [← hσ]
    simp (disch := omega) only [stI_1, up2_ne]
  have oj : ∀ k, k ≠ 6 → k ≠ 7 → σ1.1 (b + 65) k = σ.1 (b + 65) k := by
    intro k k1 k2
    rw [← hσ]
    simp (disch := omega) only [stI_1, up2_ne, up2_nk]
  have o2 : ∀ a j, b + 70 ≤ a → a ≤ b + 73 → j ≠ nx → σ1.1 a j = σ.1 a j := by
    intro a j a1 a2 hj
    rw [← hσ]
    rcases (show a = b + 70 ∨ a = b + 71 ∨ a = b + 72 ∨ a = b + 73 by omega) with e | e | e | e <;> subst e <;> simp (disch := omega) only [stI_1, up2_ne, up2_nk]
  have v7 : σ1.1 (b + 65) 7 = nI nx := by rw [← hσ]; simp (disch := omega) only [stI_1, up2_ne, up2_nk, up2_self]
  have v6 : σ1.1 (b + 65) 6 = nI (min 10 (dK D + 1)) := by rw [← hσ]; simp (disch := omega) only [stI_1, up2_ne, up2_nk, up2_self]
  have v70 : σ1.1 (b + 70) nx = nI p := by rw [← hσ]; simp (disch := omega) only [stI_1, up2_ne, up2_nk, up2_self]
  have v71 : σ1.1 (b + 71) nx = nI (dP D p).1 := by rw [← hσ]; simp (disch := omega) only [stI_1, up2_ne, up2_nk, up2_self]
  have v72 : σ1.1 (b + 72) nx = nI (dP D p).2.1 := by rw [← hσ]; simp (disch := omega) only [stI_1, up2_ne, up2_nk, up2_self]
  have v73 : σ1.1 (b + 73) nx = -nI 1 := by rw [← hσ]; simp (disch := omega) only [stI_1, up2_ne, up2_nk, up2_self]
  have v2 : σ1.2 = σ.2 := by rw [← hσ]; rfl
  clear hσ
  rw [run_loop (s0 := ((0 : Int32), σ1)) (fun k => (nI k, putI σ1 (b + 74) (nx * 4096) k (fun k => bI (pk2 (dP D p).2.2 k)))) (putI σ1 (b + 74) (nx * 4096) 4096 (fun k => bI (pk2 (dP D p).2.2 k))) 4096 (by omega) (by rw [putI_0]; rfl)]
  · rw [Option.bind_some]
    refine ⟨_, rfl, ⟨?_, fun q hq => ⟨?_, ?_, AR_cong (h2 q hq).2.2 (fun k _ => ?_)⟩, ?_, ⟨nx, hx, ?_, fun i hi => ?_⟩, ⟨?_, fun x y q => ?_⟩, ⟨?_, fun j hj => ?_⟩⟩, ⟨v2, fun c hc => ?_⟩, ?_⟩
    · rw [putI_ne (by omega), oj 1 (by decide) (by decide)]; exact h1
    · rw [putI_ne (by omega), o1 _ (by omega) (by omega) (by omega) (by omega) (by omega)]; exact (h2 q hq).1
    · rw [putI_ne (by omega), o1 _ (by omega) (by omega) (by omega) (by omega) (by omega)]; exact (h2 q hq).2.1
    · rw [putI_ne (by omega), o1 _ (by omega) (by omega) (by omega) (by omega) (by omega)]
    · rw [putI_ne (by omega), v6, Nat.min_comm]; rfl
    · rw [putI_ne (by omega), v7]
    · have hi : i < min (dK D + 1) 10 := hi
      show MC b _ ((nx + 10 - i) % 10) (if i = 0 then (p, 0, dP D p) else dH D (i - 1))
      by_cases e : i = 0
      · subst e
        rw [if_pos rfl, show (nx + 10 - 0) % 10 = nx by omega]
        refine ⟨?_, ?_, ?_, ?_, AR_put⟩
        · rw [putI_ne (by omega)]; exact v70
        · rw [putI_ne (by omega)]; exact v71
        · rw [putI_ne (by omega)]; exact v72
        · rw [putI_ne (by omega), v73]; rfl
      · rw [if_neg e]
        have es : (nx + 10 - i) % 10 = (nw + 10 - (i - 1)) % 10 := by omega
        have hne : (nx + 10 - i) % 10 ≠ nx := by omega
        obtain ⟨c1, c2, c3, c4, c5⟩ := n3 (i - 1) (by omega)
        rw [← es] at c1 c2 c3 c4 c5
        refine ⟨?_, ?_, ?_, ?_, AR_cong c5 (fun k hk => ?_)⟩
        · rw [putI_ne (by omega), o2 _ _ (by omega) (by omega) hne]; exact c1
        · rw [putI_ne (by omega), o2 _ _ (by omega) (by omega) hne]; exact c2
        · rw [putI_ne (by omega), o2 _ _ (by omega) (by omega) hne]; exact c3
        · rw [putI_ne (by omega), o2 _ _ (by omega) (by omega) hne]; exact c4
        · rw [putI_out (by omega), o1 _ (by omega) (by omega) (by omega) (by omega) (by omega)]
    · rw [putI_ne (by omega), oj 19 (by decide) (by decide)]; exact h5.1
    · rw [putI_ne (by omega), putI_ne (by omega), o1 _ (by omega) (by omega) (by omega) (by omega) (by omega), o1 _ (by omega) (by omega) (by omega) (by omega) (by omega)]; exact h5.2 x y q
    · rw [putI_ne (by omega), oj 22 (by decide) (by decide)]; exact h6.1
    · rw [putI_ne (by omega), o1 _ (by omega) (by omega) (by omega) (by omega) (by omega)]; exact h6.2 j hj
    · rw [putI_ne (by omega), o1 _ (by omega) (by omega) (by omega) (by omega) (by omega)]
    · rw [putI_ne (by omega), oj 0 (by decide) (by decide)]
  · intro k hk
    unfold bd_X5_changing_80
    have a1 : (putI σ1 (b + 74) (nx * 4096) k (fun k => bI (pk2 (dP D p).2.2 k))).1 (b + 68) (p * 4096 + k) = bI (pk2 (dP D p).2.2 k) := by
      rw [putI_ne (by omega), o1 _ (by omega) (by omega) (by omega) (by omega) (by omega)]; exact m3 k hk
    have a2 : (putI σ1 (b + 74) (nx * 4096) k (fun k => bI (pk2 (dP D p).2.2 k))).1 (b + 65) 7 = nI nx := by
      rw [putI_ne (by omega)]; exact v7
    simp (disch := omega) only [a2, e1, e4096, nI_add, pk_mul, le_f, r65_4, l68, r65_12, l74, gd_nI, nI_cl, ↓reduceIte, nmE, a1, nar_bI]
    rw [putI_se rfl rfl]
  · unfold bd_X5_changing_80
    simp (disch := omega) only [e4096, le_t, ↓reduceIte]
