section
theorem es_mx_b {c : Nat → Nat} {B : Nat} : ∀ h, (∀ i, i < h → c i ≤ B) → es_mx c h ≤ B := by
  intro h
  induction h with
  | zero => intro _; exact Nat.zero_le _
  | succ h ih =>
    intro H
    show (if es_mx c h < c h then c h else es_mx c h) ≤ B
    have h1 := ih (fun i hi => H i (by omega))
    have h2 := H h (by omega)
    split <;> omega
theorem es_ix (l i : Nat) : nI l * 60 + nI i = nI (60 * l + i) := by
  show nI l * nI 60 + nI i = _
  rw [pk_mul, nI_add, Nat.mul_comm]
theorem es_iy (l i : Nat) : 60 * nI l + nI i = nI (60 * l + i) := by
  show nI 60 * nI l + nI i = _
  rw [pk_mul, nI_add]
theorem es_i8 (l i : Nat) : 8 * nI l + nI i = nI (8 * l + i) := by
  show nI 8 * nI l + nI i = _
  rw [pk_mul, nI_add]
theorem es_i5 (l j : Nat) : nI l * 5 + nI (j + 1) - 1 = nI (5 * l + j) := by
  show nI l * nI 5 + nI (j + 1) - 1 = _
  rw [pk_mul, nI_add, show l * 5 + (j + 1) = (5 * l + j) + 1 by omega, nI_pred]
theorem es_60 (l : Nat) : nI l * 60 = nI (60 * l) := by
  show nI l * nI 60 = _
  rw [pk_mul, Nat.mul_comm]

/-- a line that isn't 0 .. 3, as both sides ask it -/
def es_bad (p : Int32) : Prop := p < 0 ∨ (¬ p < 0 ∧ 4 ≤ p ∧ ¬ p ≤ 3)
theorem es_lines (p : Int32) : es_bad p ∨ ∃ l, l < 4 ∧ p = nI l := by
  by_cases h : p < 0
  · exact Or.inl (Or.inl h)
  · obtain ⟨j, hj, rfl⟩ := nI_of h
    by_cases q : j < 4
    · exact Or.inr ⟨j, q, rfl⟩
    · exact Or.inl (Or.inr ⟨h, nI_le (a := 4) (by omega) hj, nI_ge (a := 3) (by omega) hj⟩)
/-- a low that isn't 0 .. 255 -/
def es_lob (p : Int32) : Prop := p < 0 ∨ (¬ p < 0 ∧ 255 < p ∧ ¬ p ≤ 255)
theorem es_lows (p : Int32) : es_lob p ∨ ∃ l, l < 256 ∧ p = nI l := by
  by_cases h : p < 0
  · exact Or.inl (Or.inl h)
  · obtain ⟨j, hj, rfl⟩ := nI_of h
    by_cases q : j < 256
    · exact Or.inr ⟨j, q, rfl⟩
    · exact Or.inl (Or.inr ⟨h, nI_lt (a := 255) (by omega) hj, nI_ge (a := 255) (by omega) hj⟩)
theorem es_xl {A B : Prop} {l : Nat} (hl : l < 4) (k : B) : wpX_isLine (fun r => (r = 0 → A) ∧ (¬ r = 0 → B)) (nI l) :=
  br_f (nI_pos (by omega)) (br_f (nI_ge (b := 4) hl (by decide)) (br_f (by decide) k))
theorem es_xb {A B : Prop} {p : Int32} (hp : es_bad p) (k : A) : wpX_isLine (fun r => (r = 0 → A) ∧ (¬ r = 0 → B)) p := by
  rcases hp with h | ⟨h1, h2, _⟩
  · exact br_t h (br_t rfl k)
  · exact br_f h1 (br_t h2 (br_t rfl k))
theorem es_xlo {A B : Prop} {l : Nat} (hl : l < 256) (k : B) : wpX_isLow (fun r => (r = 0 → A) ∧ (¬ r = 0 → B)) (nI l) :=
  br_f (nI_pos (by omega)) (br_f (nI_nlt (a := 255) (b := l) (by omega) (by omega)) (br_f (by decide) k))
theorem es_xlb {A B : Prop} {p : Int32} (hp : es_lob p) (k : A) : wpX_isLow (fun r => (r = 0 → A) ∧ (¬ r = 0 → B)) p := by
  rcases hp with h | ⟨h1, h2, _⟩
  · exact br_t h (br_t rfl k)
  · exact br_f h1 (br_t h2 (br_t rfl k))
theorem es_yl {A B : Prop} {u1 : Int32} {u2 u3 u4 u5 u6 : Nat → Int32} {l : Nat} (hl : l < 4) (k : A) : wpY_bad (fun r => (r = 0 → A) ∧ (¬ r = 0 → B)) (u1, u2, u3, u4, u5, u6) (nI l) :=
  br_f (nI_pos (by omega)) (br_t (nI_le (b := 3) (by omega) (by decide)) (br_t rfl k))
theorem es_yb {A B : Prop} {u1 : Int32} {u2 u3 u4 u5 u6 : Nat → Int32} {p : Int32} (hp : es_bad p) (k : B) : wpY_bad (fun r => (r = 0 → A) ∧ (¬ r = 0 → B)) (u1, u2, u3, u4, u5, u6) p := by
  rcases hp with h | ⟨h1, _, h2⟩
  · exact br_t h (br_f (by decide) k)
  · exact br_f h1 (br_f h2 (br_f (by decide) k))
theorem es_ylo {A B C : Prop} {l : Nat} (hl : l < 256) (k : B) : (nI l < 0 → A) ∧ (¬ nI l < 0 → ((nI l ≤ 255 → B) ∧ (¬ nI l ≤ 255 → C))) :=
  br_f (nI_pos (by omega)) (br_t (nI_le (b := 255) (by omega) (by decide)) k)
theorem es_ylb {A B : Prop} {p : Int32} (hp : es_lob p) (k : A) : (p < 0 → A) ∧ (¬ p < 0 → ((p ≤ 255 → B) ∧ (¬ p ≤ 255 → A))) := by
  rcases hp with h | ⟨h1, _, h2⟩
  · exact br_t h k
  · exact br_f h1 (br_f h2 k)
end
section
variable {w l h hd : Nat} {c : Nat → Nat} {nu he gr so ha vc vd : Nat → Int32}

/-- where the window starts -/
def es_st (g w : Nat) : Int := (g : Int) - w + 1
/-- the number that a packet with these low bits is taken to have -/
def es_nb (g w lw : Nat) : Int := es_st g w + ((lw : Int) - es_st g w) % 256

theorem es_xStart (A : es_At nu he gr ha l h hd c) (hl : l < 4) {post : Int32 → Prop} (k : post (es_z (es_st (es_mx c h) w))) :
    wpX_windowStart post (nI w, nu, he, gr, so, ha, vc) (nI l) := by
  unfold wpX_windowStart
  dsimp only
  have e : gr (nI l).toNatClampNeg - nI w + 1 = es_z (es_st (es_mx c h) w) := by
    rw [nI_clamp (by omega), A.2.1, es_nI, es_nI, es_1, es_sub, es_add]
    rfl
  rw [e]
  exact ⟨vp_in_nI hl (by omega), k⟩
theorem es_xTaken (A : es_At nu he gr ha l h hd c) (hl : l < 4) {lw : Nat} {post : Int32 → Prop} (k : post (es_z (es_nb (es_mx c h) w lw))) :
    wpX_numberTaken post (nI w, nu, he, gr, so, ha, vc) (nI l) (nI lw) := by
  unfold wpX_numberTaken
  dsimp only
  refine es_xStart A hl ?_
  have e : es_z (es_st (es_mx c h) w) + ((nI lw - es_z (es_st (es_mx c h) w)) &&& 255) = es_z (es_nb (es_mx c h) w lw) := by
    rw [es_nI lw, es_sub, es_and, es_add]
    rfl
  rw [e]
  exact k
theorem es_xDead (A : es_At nu he gr ha l h hd c) (hl : l < 4) {post : Int32 → Prop} (k1 : hd ≤ h → post 1) (k0 : h < hd → post 0) :
    wpX_isDead post (nI w, nu, he, gr, so, ha, vc) (nI l) := by
  unfold wpX_isDead
  dsimp only
  obtain ⟨a1, a2, a3, a4, a5, _⟩ := A
  refine ⟨vp_in_nI hl (by omega), vp_in_nI hl (by omega), ?_⟩
  rw [nI_clamp (by omega), a1, a3]
  by_cases q : h < hd
  · exact br_t (nI_lt q (by omega)) (k0 q)
  · exact br_f (nI_nlt (by omega) (by omega)) (k1 (by omega))
theorem es_xAccL {post : Int32 → Prop} {x : Int32} (hl : l < 4) (e : he l = nI h) (hh : h ≤ 60)
    (k1 : (∃ i, i < h ∧ nu (60 * l + i) = x) → post 1) (k0 : (¬ ∃ i, i < h ∧ nu (60 * l + i) = x) → post 0) :
    ∀ d i, i + d = h → (∀ j, j < i → nu (60 * l + j) ≠ x) → wX_isAccepted_8 post (nI l) x (nI (60 * l)) (nI w) nu he gr so ha vc (d + 1) (nI i) := by
  intro d
  induction d with
  | zero =>
    intro i hi H
    refine ⟨vp_in_nI hl (by omega), ?_⟩
    rw [nI_clamp (n := l) (by omega), e]
    exact br_t (nI_le (by omega) (by omega)) (k0 (fun ⟨j, hj, q⟩ => H j (by omega) q))
  | succ d ih =>
    intro i hi H
    refine ⟨vp_in_nI hl (by omega), ?_⟩
    rw [nI_clamp (n := l) (by omega), e]
    refine br_f (nI_ge (by omega) (by omega)) ?_
    rw [nI_add (60 * l) i, nI_clamp (n := 60 * l + i) (by omega)]
    refine ⟨vp_in_nI (by omega) (by omega), ?_⟩
    by_cases q : nu (60 * l + i) = x
    · exact br_t q (k1 ⟨i, by omega, q⟩)
    · refine br_f q (nm_r (nI_1 i) ?_)
      refine ih (i + 1) (by omega) (fun j hj => ?_)
      by_cases r : j = i
      · subst r; exact q
      · exact H j (by omega)
theorem es_xAcc {post : Int32 → Prop} {x : Int32} (hl : l < 4) (e : he l = nI h) (hh : h ≤ 60)
    (k1 : (∃ i, i < h ∧ nu (60 * l + i) = x) → post 1) (k0 : (¬ ∃ i, i < h ∧ nu (60 * l + i) = x) → post 0) :
    wpX_isAccepted post (nI w, nu, he, gr, so, ha, vc) (nI l) x := by
  unfold wpX_isAccepted
  dsimp only
  exact nm_r (es_60 l) ⟨h + 1, es_xAccL hl e hh k1 k0 h 0 (by omega) (fun j hj => absurd hj (by omega))⟩
theorem es_yHoldL {post : Int32 → Prop} {x : Int32} (hl : l < 4) (e : he l = nI h) (hh : h ≤ 60)
    (k1 : (∃ i, i < h ∧ nu (60 * l + i) = x) → post 1) (k0 : (¬ ∃ i, i < h ∧ nu (60 * l + i) = x) → post 0) :
    ∀ d i, i + d = h → (∀ j, j < i → nu (60 * l + j) ≠ x) → wY_holds_2 post (nI l) x (nI w) nu he so ha vd (d + 1) (nI i) := by
  intro d
  induction d with
  | zero =>
    intro i hi H
    refine ⟨vp_in_nI hl (by omega), ?_⟩
    rw [nI_clamp (n := l) (by omega), e]
    exact br_t (nI_le (by omega) (by omega)) (k0 (fun ⟨j, hj, q⟩ => H j (by omega) q))
  | succ d ih =>
    intro i hi H
    refine ⟨vp_in_nI hl (by omega), ?_⟩
    rw [nI_clamp (n := l) (by omega), e]
    refine br_f (nI_ge (by omega) (by omega)) (br_f (nI_ge (b := 60) (by omega) (by omega)) ?_)
    rw [es_iy l i, nI_clamp (n := 60 * l + i) (by omega)]
    refine ⟨vp_in_nI (by omega) (by omega), ?_⟩
    by_cases q : nu (60 * l + i) = x
    · exact br_t q (k1 ⟨i, by omega, q⟩)
    · refine br_f q (nm_r (nI_1 i) ?_)
      refine ih (i + 1) (by omega) (fun j hj => ?_)
      by_cases r : j = i
      · subst r; exact q
      · exact H j (by omega)
theorem es_yHold {post : Int32 → Prop} {x : Int32} (hl : l < 4) (e : he l = nI h) (hh : h ≤ 60)
    (k1 : (∃ i, i < h ∧ nu (60 * l + i) = x) → post 1) (k0 : (¬ ∃ i, i < h ∧ nu (60 * l + i) = x) → post 0) :
    wpY_holds post (nI w, nu, he, so, ha, vd) (nI l) x := by
  unfold wpY_holds
  dsimp only
  exact ⟨h + 1, es_yHoldL hl e hh k1 k0 h 0 (by omega) (fun j hj => absurd hj (by omega))⟩
theorem es_yGreatL {post : Int32 → Prop} (A : es_At nu he gr ha l h hd c) (hl : l < 4) (k : post (nI (es_mx c h))) :
    ∀ d i, i + d = h → wY_greatest_4 post (nI l) (nI w) nu he so ha vd (d + 1) (nI (es_mx c i)) (nI i) := by
  obtain ⟨a1, a2, a3, a4, L⟩ := A
  have hh : h ≤ 60 := L.1
  intro d
  induction d with
  | zero =>
    intro i hi
    refine ⟨vp_in_nI hl (by omega), ?_⟩
    rw [nI_clamp (n := l) (by omega), a1]
    have e : i = h := by omega
    subst e
    exact br_t (nI_le (by omega) (by omega)) k
  | succ d ih =>
    intro i hi
    refine ⟨vp_in_nI hl (by omega), ?_⟩
    rw [nI_clamp (n := l) (by omega), a1]
    refine br_f (nI_ge (by omega) (by omega)) (br_f (nI_ge (b := 60) (by omega) (by omega)) ?_)
    rw [es_iy l i, nI_clamp (n := 60 * l + i) (by omega), (L.2.1 i (by omega)).1]
    refine ⟨vp_in_nI (by omega) (by omega), ?_⟩
    have b1 : c i ≤ 15360 := es_Ln_c L (by omega)
    have b2 : es_mx c i ≤ 15360 := es_mx_b i (fun j hj => es_Ln_c L (by omega))
    have H := ih (i + 1) (by omega)
    have es : es_mx c (i + 1) = if es_mx c i < c i then c i else es_mx c i := rfl
    by_cases q : es_mx c i < c i
    · rw [es, if_pos q] at H
      exact br_f (nI_ge q (by omega)) ⟨vp_in_nI (by omega) (by omega), nm_e (nm_r (nI_1 i) H)⟩
    · rw [es, if_neg q] at H
      exact br_t (nI_le (by omega) (by omega)) (nm_r (nI_1 i) H)
theorem es_yGreat {post : Int32 → Prop} (A : es_At nu he gr ha l h hd c) (hl : l < 4) (k : post (nI (es_mx c h))) :
    wpY_greatest post (nI w, nu, he, so, ha, vd) (nI l) := by
  unfold wpY_greatest
  dsimp only
  exact ⟨h + 1, es_yGreatL A hl k h 0 (by omega)⟩
theorem es_yTakenL {post : Int32 → Prop} {st : Int} {lw m : Nat} (hs : es_sm st) (hlw : lw < 256) (hm : (m : Int) = ((lw : Int) - st) % 256)
    (k : post (es_z (st + ((lw : Int) - st) % 256))) :
    ∀ d i, i + d = m → wY_taken_16 post (nI lw) (es_z st) (nI w) nu he so ha vd (d + 1) (nI i) := by
  intro d
  induction d with
  | zero =>
    intro i hi
    have e1 : es_z st + nI i = es_z (st + ((lw : Int) - st) % 256) := by
      rw [es_nI, es_add, ← hm, show i = m by omega]
    have e2 : es_z (st + ((lw : Int) - st) % 256) &&& 255 = nI lw := by
      rw [es_and, es_nI, show (st + ((lw : Int) - st) % 256) % 256 = lw by omega]
    refine br_f (nI_ge (b := 256) (by omega) (by omega)) ?_
    rw [e1]
    exact br_t e2 k
  | succ d ih =>
    intro i hi
    have e1 : es_z st + nI i = es_z (st + i) := by rw [es_nI, es_add]
    have e2 : ¬ es_z (st + i) &&& 255 = nI lw := by
      rw [es_and, es_nI, es_eq ⟨by omega, by omega⟩ ⟨by omega, by omega⟩]
      omega
    refine br_f (nI_ge (b := 256) (by omega) (by omega)) ?_
    rw [e1]
    exact br_f e2 (nm_r (nI_1 i) (ih (i + 1) (by omega)))
theorem es_st_sm (A : es_At nu he gr ha l h hd c) (hw : 4 ≤ w ∧ w ≤ 64) : -63 ≤ es_st (es_mx c h) w ∧ es_st (es_mx c h) w ≤ 15360 := by
  have := es_Ln_m A.2.2.2.2
  unfold es_st
  omega
theorem es_yTaken (A : es_At nu he gr ha l h hd c) (hl : l < 4) (hw : 4 ≤ w ∧ w ≤ 64) {lw : Nat} (hlw : lw < 256) {post : Int32 → Prop} (k : post (es_z (es_nb (es_mx c h) w lw))) :
    wpY_taken post (nI w, nu, he, so, ha, vd) (nI l) (nI lw) := by
  unfold wpY_taken
  dsimp only
  refine es_yGreat A hl ?_
  have e : nI (es_mx c h) - nI w + 1 = es_z (es_st (es_mx c h) w) := by
    rw [es_nI, es_nI, es_1, es_sub, es_add]
    rfl
  have b := es_st_sm A hw
  refine nm_r e ⟨((((lw : Int) - es_st (es_mx c h) w) % 256).toNat) + 1, ?_⟩
  exact es_yTakenL (m := (((lw : Int) - es_st (es_mx c h) w) % 256).toNat) ⟨by omega, by omega⟩ hlw (by omega) k _ 0 (by omega)
end
