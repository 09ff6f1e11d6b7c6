section
section
theorem pk_us {f : Nat → Int32} {k : Nat} {x : Int32} : upd f k x k = x := if_pos rfl
theorem pk_un {f : Nat → Int32} {k j : Nat} {x : Int32} (h : j ≠ k) : upd f k x j = f j := if_neg h
theorem pk_mul (a b : Nat) : nI a * nI b = nI (a * b) := (Int32.ofNat_mul a b).symm
theorem pk_tn {n : Nat} (h : n < 2 ^ 32) : (nI n).toBitVec.toNat = n := Nat.mod_eq_of_lt h
theorem pk_and (x : Int32) {m : Int32} (k : Nat) (hm : m.toBitVec.toNat = 2 ^ k - 1) : x &&& m = nI (x.toBitVec.toNat % 2 ^ k) := by
  apply Int32.toBitVec_inj.mp
  apply BitVec.eq_of_toNat_eq
  rw [Int32.toBitVec_and, BitVec.toNat_and, hm, Nat.and_two_pow_sub_one_eq_mod]
  show _ = (BitVec.ofNat 32 _).toNat
  rw [BitVec.toNat_ofNat]
  exact (Nat.mod_eq_of_lt (Nat.lt_of_le_of_lt (Nat.mod_le _ _) x.toBitVec.isLt)).symm

/-- an int of a whole number -/
def es_z (z : Int) : Int32 := Int32.ofInt z
/-- small: far from the ends of the ints -/
def es_sm (z : Int) : Prop := -1000000 ≤ z ∧ z ≤ 1000000
theorem es_nI (n : Nat) : nI n = es_z n := Int32.ofInt_eq_ofNat.symm
theorem es_int {z : Int} (h : es_sm z) : (es_z z).toInt = z := by
  obtain ⟨h1, h2⟩ := h
  exact Int32.toInt_ofInt_of_le (by omega) (by omega)
theorem es_le {a b : Int} (ha : es_sm a) (hb : es_sm b) : es_z a ≤ es_z b ↔ a ≤ b := by
  rw [Int32.le_iff_toInt_le, es_int ha, es_int hb]
theorem es_lt {a b : Int} (ha : es_sm a) (hb : es_sm b) : es_z a < es_z b ↔ a < b := by
  rw [Int32.lt_iff_toInt_lt, es_int ha, es_int hb]
theorem es_eq {a b : Int} (ha : es_sm a) (hb : es_sm b) : es_z a = es_z b ↔ a = b := by
  rw [← Int32.toInt_inj, es_int ha, es_int hb]
theorem es_add (a b : Int) : es_z a + es_z b = es_z (a + b) := (Int32.ofInt_add a b).symm
theorem es_sub (a b : Int) : es_z a - es_z b = es_z (a - b) := (Int32.ofInt_sub a b).symm
theorem es_1 : (1 : Int32) = es_z 1 := by decide
theorem es_0 : (0 : Int32) = es_z 0 := by decide
theorem es_m1 : (-1 : Int32) = es_z (-1) := by decide
theorem es_and (z : Int) : es_z z &&& 255 = es_z (z % 256) := by
  rw [pk_and (es_z z) (m := 255) 8 (by decide)]
  have e : (es_z z).toBitVec.toNat = (z % 4294967296).toNat := by
    show (BitVec.ofInt 32 z).toNat = _
    rw [BitVec.toNat_ofInt]
    rfl
  have e2 : (((z % 4294967296).toNat % 2 ^ 8 : Nat) : Int) = z % 256 := by omega
  rw [e, es_nI, e2]
theorem es_andE (x : Int32) : ∃ j : Nat, j < 256 ∧ x &&& 255 = nI j :=
  ⟨_, Nat.mod_lt _ (by decide), pk_and x (m := 255) 8 (by decide)⟩

/-- the greatest of the first h numbers, 0 if there is none -/
def es_mx (c : Nat → Nat) : Nat → Nat
  | 0 => 0
  | h + 1 => if es_mx c h < c h then c h else es_mx c h
theorem es_mx_le (c : Nat → Nat) : ∀ h i, i < h → c i ≤ es_mx c h := by
  intro h
  induction h with
  | zero => intro i hi; omega
  | succ h ih =>
    intro i hi
    show c i ≤ if es_mx c h < c h then c h else es_mx c h
    by_cases e : i = h
    · subst e
      split <;> omega
    · have := ih i (by omega)
      split <;> omega
theorem es_mx_cg {c d : Nat → Nat} : ∀ h, (∀ i, i < h → c i = d i) → es_mx c h = es_mx d h := by
  intro h
  induction h with
  | zero => intro _; rfl
  | succ h ih =>
    intro e
    show (if es_mx c h < c h then c h else es_mx c h) = if es_mx d h < d h then d h else es_mx d h
    rw [ih (fun i hi => e i (by omega)), e h (by omega)]

/-- how many of the first h numbers are below a -/
def es_lo (c : Nat → Nat) (a : Int) : Nat → Nat
  | 0 => 0
  | h + 1 => es_lo c a h + if (c h : Int) < a then 1 else 0
/-- how many of the first h numbers are s -/
def es_ct (c : Nat → Nat) (s : Int) : Nat → Nat
  | 0 => 0
  | h + 1 => es_ct c s h + if (c h : Int) = s then 1 else 0
theorem es_lo_le (c : Nat → Nat) (a : Int) : ∀ h, es_lo c a h ≤ h := by
  intro h
  induction h with
  | zero => exact Nat.le_refl _
  | succ h ih =>
    show es_lo c a h + (if (c h : Int) < a then 1 else 0) ≤ h + 1
    split <;> omega
theorem es_lo_s (c : Nat → Nat) (a : Int) : ∀ h, es_lo c (a + 1) h = es_lo c a h + es_ct c a h := by
  intro h
  induction h with
  | zero => rfl
  | succ h ih =>
    show es_lo c (a + 1) h + (if (c h : Int) < a + 1 then 1 else 0) = es_lo c a h + (if (c h : Int) < a then 1 else 0) + (es_ct c a h + if (c h : Int) = a then 1 else 0)
    rw [ih]
    by_cases h1 : (c h : Int) < a
    · rw [if_pos h1, if_pos (by omega), if_neg (by omega)]; omega
    · by_cases h2 : (c h : Int) = a
      · rw [if_neg h1, if_pos (by omega), if_pos h2]; omega
      · rw [if_neg h1, if_neg (by omega), if_neg h2]; omega
theorem es_lo_all (c : Nat → Nat) (a : Int) : ∀ h, (∀ i, i < h → (c i : Int) < a) → es_lo c a h = h := by
  intro h
  induction h with
  | zero => intro _; rfl
  | succ h ih =>
    intro H
    show es_lo c a h + (if (c h : Int) < a then 1 else 0) = h + 1
    rw [ih (fun i hi => H i (by omega)), if_pos (H h (by omega))]
theorem es_lo_no (c : Nat → Nat) (a : Int) : ∀ h, (∀ i, i < h → ¬ (c i : Int) < a) → es_lo c a h = 0 := by
  intro h
  induction h with
  | zero => intro _; rfl
  | succ h ih =>
    intro H
    show es_lo c a h + (if (c h : Int) < a then 1 else 0) = 0
    rw [ih (fun i hi => H i (by omega)), if_neg (H h (by omega))]
/-- s is one of the first h numbers -/
def es_in (c : Nat → Nat) (h : Nat) (s : Int) : Prop := ∃ i, i < h ∧ (c i : Int) = s
theorem es_ct_no (c : Nat → Nat) (s : Int) : ∀ h, ¬ es_in c h s → es_ct c s h = 0 := by
  intro h
  induction h with
  | zero => intro _; rfl
  | succ h ih =>
    intro H
    show es_ct c s h + (if (c h : Int) = s then 1 else 0) = 0
    have hn : ¬ (c h : Int) = s := fun e => H ⟨h, by omega, e⟩
    rw [ih (fun ⟨i, hi, e⟩ => H ⟨i, by omega, e⟩), if_neg hn]
theorem es_ct_in (c : Nat → Nat) (s : Int) : ∀ h, (∀ i j, i < j → j < h → c i ≠ c j) → es_in c h s → es_ct c s h = 1 := by
  intro h
  induction h with
  | zero => intro _ ⟨i, hi, _⟩; omega
  | succ h ih =>
    intro D H
    show es_ct c s h + (if (c h : Int) = s then 1 else 0) = 1
    by_cases e : (c h : Int) = s
    · rw [if_pos e, es_ct_no c s h (fun ⟨i, hi, ei⟩ => D i h hi (by omega) (by omega))]
    · rw [if_neg e]
      obtain ⟨i, hi, ei⟩ := H
      have hih : i < h := by
        by_cases q : i = h
        · subst q; exact absurd ei e
        · omega
      rw [ih (fun i j hij hj => D i j hij (by omega)) ⟨i, hih, ei⟩]
end
end
section
section
/-- what holds of a line's h numbers c, kept in nu -/
def es_Ln (nu : Nat → Int32) (l h : Nat) (c : Nat → Nat) : Prop :=
  h ≤ 60 ∧ (∀ i, i < h → nu (60 * l + i) = nI (c i) ∧ 1 ≤ c i) ∧ (∀ i j, i < j → j < h → c i ≠ c j) ∧ es_mx c h ≤ 256 * h
/-- line l, as the arrays have it -/
def es_At (nu he gr ha : Nat → Int32) (l h hd : Nat) (c : Nat → Nat) : Prop :=
  he l = nI h ∧ gr l = nI (es_mx c h) ∧ ha l = nI hd ∧ hd ≤ 60 ∧ es_Ln nu l h c
def es_L (nu he gr ha : Nat → Int32) : Prop := ∀ l, l < 4 → ∃ h hd c, es_At nu he gr ha l h hd c
/-- the counts of verdicts, five a line here and eight a line there -/
def es_V (vc vd : Nat → Int32) : Prop := ∀ l, l < 4 → ∀ j, j < 5 → vc (5 * l + j) = vd (8 * l + (j + 1))

theorem es_Ln_c {nu : Nat → Int32} {l h : Nat} {c : Nat → Nat} (H : es_Ln nu l h c) {i : Nat} (hi : i < h) : c i ≤ 15360 := by
  obtain ⟨h1, _, _, h4⟩ := H
  have := es_mx_le c h i hi
  omega
theorem es_Ln_m {nu : Nat → Int32} {l h : Nat} {c : Nat → Nat} (H : es_Ln nu l h c) : es_mx c h ≤ 15360 := by
  obtain ⟨h1, _, _, h4⟩ := H
  omega
/-- the array holds the int of z just if z is one of the numbers -/
theorem es_hold {nu : Nat → Int32} {l h : Nat} {c : Nat → Nat} (H : es_Ln nu l h c) {z : Int} (hz : es_sm z) : (∃ i, i < h ∧ nu (60 * l + i) = es_z z) ↔ es_in c h z := by
  constructor
  · intro ⟨i, hi, e⟩
    have hc := es_Ln_c H hi
    rw [(H.2.1 i hi).1, es_nI, es_eq ⟨by omega, by omega⟩ hz] at e
    exact ⟨i, hi, e⟩
  · intro ⟨i, hi, e⟩
    refine ⟨i, hi, ?_⟩
    rw [(H.2.1 i hi).1, es_nI, e]

theorem es_L_acc {nu he gr ha gr' : Nat → Int32} (H : es_L nu he gr ha) {l h hd n : Nat} {c : Nat → Nat} (hl : l < 4)
    (A : es_At nu he gr ha l h hd c) (hh : h < 60) (h1 : 1 ≤ n) (hn : ¬ es_in c h n) (hb : n ≤ 256 * (h + 1))
    (g1 : gr' l = nI (if es_mx c h < n then n else es_mx c h)) (g2 : ∀ m, m ≠ l → gr' m = gr m) :
    es_L (upd nu (60 * l + h) (nI n)) (upd he l (nI (h + 1))) gr' ha := by
  intro m hm
  by_cases e : m = l
  · subst e
    obtain ⟨a1, a2, a3, a4, a5, a6, a7, a8⟩ := A
    refine ⟨h + 1, hd, fun i => if i = h then n else c i, ?_⟩
    have cg : es_mx (fun i => if i = h then n else c i) h = es_mx c h :=
      es_mx_cg h (fun i hi => if_neg (by omega))
    have cs : es_mx (fun i => if i = h then n else c i) (h + 1) = if es_mx c h < n then n else es_mx c h := by
      show (if es_mx (fun i => if i = h then n else c i) h < (if h = h then n else c h) then (if h = h then n else c h) else es_mx (fun i => if i = h then n else c i) h) = _
      rw [cg, if_pos (rfl : h = h)]
    refine ⟨pk_us, by rw [g1, cs], a3, a4, by omega, ?_, ?_, ?_⟩
    · intro i hi
      by_cases q : i = h
      · subst q
        refine ⟨?_, ?_⟩
        · show upd nu (60 * m + i) (nI n) (60 * m + i) = nI (if i = i then n else c i)
          rw [pk_us, if_pos rfl]
        · show 1 ≤ if i = i then n else c i
          rw [if_pos rfl]; exact h1
      · refine ⟨?_, ?_⟩
        · show upd nu (60 * m + h) (nI n) (60 * m + i) = nI (if i = h then n else c i)
          rw [pk_un (by omega), if_neg q]; exact (a6 i (by omega)).1
        · show 1 ≤ if i = h then n else c i
          rw [if_neg q]; exact (a6 i (by omega)).2
    · intro i j hij hj
      show (if i = h then n else c i) ≠ (if j = h then n else c j)
      by_cases q : j = h
      · rw [if_pos q, if_neg (by omega)]
        intro e
        exact hn ⟨i, by omega, by omega⟩
      · rw [if_neg q, if_neg (by omega)]
        exact a7 i j hij (by omega)
    · rw [cs]
      split <;> omega
  · obtain ⟨k, kd, d, b1, b2, b3, b4, b5, b6, b7, b8⟩ := H m hm
    refine ⟨k, kd, d, ?_, ?_, b3, b4, b5, ?_, b7, b8⟩
    · rw [pk_un e]; exact b1
    · rw [g2 m e]; exact b2
    · intro i hi
      rw [pk_un (by omega)]; exact b6 i hi
theorem es_L_key {nu he gr ha : Nat → Int32} (H : es_L nu he gr ha) {l : Nat} (hl : l < 4) :
    es_L nu (upd he l 0) (upd gr l 0) ha := by
  intro m hm
  obtain ⟨k, kd, d, b1, b2, b3, b4, b5, b6, b7, b8⟩ := H m hm
  by_cases e : m = l
  · subst e
    exact ⟨0, kd, d, pk_us, pk_us, b3, b4, by omega, fun i hi => absurd hi (by omega), fun i j _ hj => absurd hj (by omega), Nat.le_refl _⟩
  · exact ⟨k, kd, d, by rw [pk_un e]; exact b1, by rw [pk_un e]; exact b2, b3, b4, b5, b6, b7, b8⟩
theorem es_L_lim {nu he gr ha : Nat → Int32} (H : es_L nu he gr ha) {l hd : Nat} (hl : l < 4) (hb : hd ≤ 60) :
    es_L nu he gr (upd ha l (nI hd)) := by
  intro m hm
  obtain ⟨k, kd, d, b1, b2, b3, b4, b5⟩ := H m hm
  by_cases e : m = l
  · subst e
    exact ⟨k, hd, d, b1, b2, pk_us, hb, b5⟩
  · exact ⟨k, kd, d, b1, b2, by rw [pk_un e]; exact b3, b4, b5⟩
theorem es_V_up {vc vd : Nat → Int32} (H : es_V vc vd) {l j : Nat} (hl : l < 4) (hj : j < 5) :
    es_V (upd vc (5 * l + j) (vc (5 * l + j) + 1)) (upd vd (8 * l + (j + 1)) (vd (8 * l + (j + 1)) + 1)) := by
  intro m hm i hi
  by_cases e : 5 * m + i = 5 * l + j
  · have e1 : m = l := by omega
    subst e1
    have e2 : i = j := by omega
    subst e2
    rw [pk_us, pk_us, H m hm i hi]
  · rw [pk_un e, pk_un (by omega)]
    exact H m hm i hi
end
end
section
section
theorem es_mx_b {c : Nat → Nat} {B : Nat} : ∀ h, (∀ i, i < h → c i ≤ B) → es_mx c h ≤ B := by
  intro h
  induction h with
  | zero => intro _; exact Nat.zero_le _
  | succ h ih =>
    intro H
    show (if es_mx c h < c h then c h else es_mx c h) ≤ B
    have h1 := ih (fun i hi => H i (by omega))
    have h2 := H h (by omega)
    split <;> omega
theorem es_ix (l i : Nat) : nI l * 60 + nI i = nI (60 * l + i) := by
  show nI l * nI 60 + nI i = _
  rw [pk_mul, nI_add, Nat.mul_comm]
theorem es_iy (l i : Nat) : 60 * nI l + nI i = nI (60 * l + i) := by
  show nI 60 * nI l + nI i = _
  rw [pk_mul, nI_add]
theorem es_i8 (l i : Nat) : 8 * nI l + nI i = nI (8 * l + i) := by
  show nI 8 * nI l + nI i = _
  rw [pk_mul, nI_add]
theorem es_i5 (l j : Nat) : nI l * 5 + nI (j + 1) - 1 = nI (5 * l + j) := by
  show nI l * nI 5 + nI (j + 1) - 1 = _
  rw [pk_mul, nI_add, show l * 5 + (j + 1) = (5 * l + j) + 1 by omega, nI_pred]
theorem es_60 (l : Nat) : nI l * 60 = nI (60 * l) := by
  show nI l * nI 60 = _
  rw [pk_mul, Nat.mul_comm]

/-- a line that isn't 0 .. 3, as both sides ask it -/
def es_bad (p : Int32) : Prop := p < 0 ∨ (¬ p < 0 ∧ 4 ≤ p ∧ ¬ p ≤ 3)
theorem es_lines (p : Int32) : es_bad p ∨ ∃ l, l < 4 ∧ p = nI l := by
  by_cases h : p < 0
  · exact Or.inl (Or.inl h)
  · obtain ⟨j, hj, rfl⟩ := nI_of h
    by_cases q : j < 4
    · exact Or.inr ⟨j, q, rfl⟩
    · exact Or.inl (Or.inr ⟨h, nI_le (a := 4) (by omega) hj, nI_ge (a := 3) (by omega) hj⟩)
/-- a low that isn't 0 .. 255 -/
def es_lob (p : Int32) : Prop := p < 0 ∨ (¬ p < 0 ∧ 255 < p ∧ ¬ p ≤ 255)
theorem es_lows (p : Int32) : es_lob p ∨ ∃ l, l < 256 ∧ p = nI l := by
  by_cases h : p < 0
  · exact Or.inl (Or.inl h)
  · obtain ⟨j, hj, rfl⟩ := nI_of h
    by_cases q : j < 256
    · exact Or.inr ⟨j, q, rfl⟩
    · exact Or.inl (Or.inr ⟨h, nI_lt (a := 255) (by omega) hj, nI_ge (a := 255) (by omega) hj⟩)
theorem es_xl {A B : Prop} {l : Nat} (hl : l < 4) (k : B) : wpX_isLine (fun r => (r = 0 → A) ∧ (¬ r = 0 → B)) (nI l) :=
  br_f (nI_pos (by omega)) (br_f (nI_ge (b := 4) hl (by decide)) (br_f (by decide) k))
theorem es_xb {A B : Prop} {p : Int32} (hp : es_bad p) (k : A) : wpX_isLine (fun r => (r = 0 → A) ∧ (¬ r = 0 → B)) p := by
  rcases hp with h | ⟨h1, h2, _⟩
  · exact br_t h (br_t rfl k)
  · exact br_f h1 (br_t h2 (br_t rfl k))
theorem es_xlo {A B : Prop} {l : Nat} (hl : l < 256) (k : B) : wpX_isLow (fun r => (r = 0 → A) ∧ (¬ r = 0 → B)) (nI l) :=
  br_f (nI_pos (by omega)) (br_f (nI_nlt (a := 255) (b := l) (by omega) (by omega)) (br_f (by decide) k))
theorem es_xlb {A B : Prop} {p : Int32} (hp : es_lob p) (k : A) : wpX_isLow (fun r => (r = 0 → A) ∧ (¬ r = 0 → B)) p := by
  rcases hp with h | ⟨h1, h2, _⟩
  · exact br_t h (br_t rfl k)
  · exact br_f h1 (br_t h2 (br_t rfl k))
theorem es_yl {A B : Prop} {u1 : Int32} {u2 u3 u4 u5 u6 : Nat → Int32} {l : Nat} (hl : l < 4) (k : A) : wpY_bad (fun r => (r = 0 → A) ∧ (¬ r = 0 → B)) (u1, u2, u3, u4, u5, u6) (nI l) :=
  br_f (nI_pos (by omega)) (br_t (nI_le (b := 3) (by omega) (by decide)) (br_t rfl k))
theorem es_yb {A B : Prop} {u1 : Int32} {u2 u3 u4 u5 u6 : Nat → Int32} {p : Int32} (hp : es_bad p) (k : B) : wpY_bad (fun r => (r = 0 → A) ∧ (¬ r = 0 → B)) (u1, u2, u3, u4, u5, u6) p := by
  rcases hp with h | ⟨h1, _, h2⟩
  · exact br_t h (br_f (by decide) k)
  · exact br_f h1 (br_f h2 (br_f (by decide) k))
theorem es_ylo {A B C : Prop} {l : Nat} (hl : l < 256) (k : B) : (nI l < 0 → A) ∧ (¬ nI l < 0 → ((nI l ≤ 255 → B) ∧ (¬ nI l ≤ 255 → C))) :=
  br_f (nI_pos (by omega)) (br_t (nI_le (b := 255) (by omega) (by decide)) k)
theorem es_ylb {A B : Prop} {p : Int32} (hp : es_lob p) (k : A) : (p < 0 → A) ∧ (¬ p < 0 → ((p ≤ 255 → B) ∧ (¬ p ≤ 255 → A))) := by
  rcases hp with h | ⟨h1, _, h2⟩
  · exact br_t h k
  · exact br_f h1 (br_f h2 k)
end
section
variable {w l h hd : Nat} {c : Nat → Nat} {nu he gr so ha vc vd : Nat → Int32}

/-- where the window starts -/
def es_st (g w : Nat) : Int := (g : Int) - w + 1
/-- the number that a packet with these low bits is taken to have -/
def es_nb (g w lw : Nat) : Int := es_st g w + ((lw : Int) - es_st g w) % 256

theorem es_xStart (A : es_At nu he gr ha l h hd c) (hl : l < 4) {post : Int32 → Prop} (k : post (es_z (es_st (es_mx c h) w))) :
    wpX_windowStart post (nI w, nu, he, gr, so, ha, vc) (nI l) := by
  unfold wpX_windowStart
  dsimp only
  have e : gr (nI l).toNatClampNeg - nI w + 1 = es_z (es_st (es_mx c h) w) := by
    rw [nI_clamp (by omega), A.2.1, es_nI, es_nI, es_1, es_sub, es_add]
    rfl
  rw [e]
  exact ⟨vp_in_nI hl (by omega), k⟩
theorem es_xTaken (A : es_At nu he gr ha l h hd c) (hl : l < 4) {lw : Nat} {post : Int32 → Prop} (k : post (es_z (es_nb (es_mx c h) w lw))) :
    wpX_numberTaken post (nI w, nu, he, gr, so, ha, vc) (nI l) (nI lw) := by
  unfold wpX_numberTaken
  dsimp only
  refine es_xStart A hl ?_
  have e : es_z (es_st (es_mx c h) w) + ((nI lw - es_z (es_st (es_mx c h) w)) &&& 255) = es_z (es_nb (es_mx c h) w lw) := by
    rw [es_nI lw, es_sub, es_and, es_add]
    rfl
  rw [e]
  exact k
theorem es_xDead (A : es_At nu he gr ha l h hd c) (hl : l < 4) {post : Int32 → Prop} (k1 : hd ≤ h → post 1) (k0 : h < hd → post 0) :
    wpX_isDead post (nI w, nu, he, gr, so, ha, vc) (nI l) := by
  unfold wpX_isDead
  dsimp only
  obtain ⟨a1, a2, a3, a4, a5, _⟩ := A
  refine ⟨vp_in_nI hl (by omega), vp_in_nI hl (by omega), ?_⟩
  rw [nI_clamp (by omega), a1, a3]
  by_cases q : h < hd
  · exact br_t (nI_lt q (by omega)) (k0 q)
  · exact br_f (nI_nlt (by omega) (by omega)) (k1 (by omega))
theorem es_xAccL {post : Int32 → Prop} {x : Int32} (hl : l < 4) (e : he l = nI h) (hh : h ≤ 60)
    (k1 : (∃ i, i < h ∧ nu (60 * l + i) = x) → post 1) (k0 : (¬ ∃ i, i < h ∧ nu (60 * l + i) = x) → post 0) :
    ∀ d i, i + d = h → (∀ j, j < i → nu (60 * l + j) ≠ x) → wX_isAccepted_8 post (nI l) x (nI (60 * l)) (nI w) nu he gr so ha vc (d + 1) (nI i) := by
  intro d
  induction d with
  | zero =>
    intro i hi H
    refine ⟨vp_in_nI hl (by omega), ?_⟩
    rw [nI_clamp (n := l) (by omega), e]
    exact br_t (nI_le (by omega) (by omega)) (k0 (fun ⟨j, hj, q⟩ => H j (by omega) q))
  | succ d ih =>
    intro i hi H
    refine ⟨vp_in_nI hl (by omega), ?_⟩
    rw [nI_clamp (n := l) (by omega), e]
    refine br_f (nI_ge (by omega) (by omega)) ?_
    rw [nI_add (60 * l) i, nI_clamp (n := 60 * l + i) (by omega)]
    refine ⟨vp_in_nI (by omega) (by omega), ?_⟩
    by_cases q : nu (60 * l + i) = x
    · exact br_t q (k1 ⟨i, by omega, q⟩)
    · refine br_f q (nm_r (nI_1 i) ?_)
      refine ih (i + 1) (by omega) (fun j hj => ?_)
      by_cases r : j = i
      · subst r; exact q
      · exact H j (by omega)
theorem es_xAcc {post : Int32 → Prop} {x : Int32} (hl : l < 4) (e : he l = nI h) (hh : h ≤ 60)
    (k1 : (∃ i, i < h ∧ nu (60 * l + i) = x) → post 1) (k0 : (¬ ∃ i, i < h ∧ nu (60 * l + i) = x) → post 0) :
    wpX_isAccepted post (nI w, nu, he, gr, so, ha, vc) (nI l) x := by
  unfold wpX_isAccepted
  dsimp only
  exact nm_r (es_60 l) ⟨h + 1, es_xAccL hl e hh k1 k0 h 0 (by omega) (fun j hj => absurd hj (by omega))⟩
theorem es_yHoldL {post : Int32 → Prop} {x : Int32} (hl : l < 4) (e : he l = nI h) (hh : h ≤ 60)
    (k1 : (∃ i, i < h ∧ nu (60 * l + i) = x) → post 1) (k0 : (¬ ∃ i, i < h ∧ nu (60 * l + i) = x) → post 0) :
    ∀ d i, i + d = h → (∀ j, j < i → nu (60 * l + j) ≠ x) → wY_holds_2 post (nI l) x (nI w) nu he so ha vd (d + 1) (nI i) := by
  intro d
  induction d with
  | zero =>
    intro i hi H
    refine ⟨vp_in_nI hl (by omega), ?_⟩
    rw [nI_clamp (n := l) (by omega), e]
    exact br_t (nI_le (by omega) (by omega)) (k0 (fun ⟨j, hj, q⟩ => H j (by omega) q))
  | succ d ih =>
    intro i hi H
    refine ⟨vp_in_nI hl (by omega), ?_⟩
    rw [nI_clamp (n := l) (by omega), e]
    refine br_f (nI_ge (by omega) (by omega)) (br_f (nI_ge (b := 60) (by omega) (by omega)) ?_)
    rw [es_iy l i, nI_clamp (n := 60 * l + i) (by omega)]
    refine ⟨vp_in_nI (by omega) (by omega), ?_⟩
    by_cases q : nu (60 * l + i) = x
    · exact br_t q (k1 ⟨i, by omega, q⟩)
    · refine br_f q (nm_r (nI_1 i) ?_)
      refine ih (i + 1) (by omega) (fun j hj => ?_)
      by_cases r : j = i
      · subst r; exact q
      · exact H j (by omega)
theorem es_yHold {post : Int32 → Prop} {x : Int32} (hl : l < 4) (e : he l = nI h) (hh : h ≤ 60)
    (k1 : (∃ i, i < h ∧ nu (60 * l + i) = x) → post 1) (k0 : (¬ ∃ i, i < h ∧ nu (60 * l + i) = x) → post 0) :
    wpY_holds post (nI w, nu, he, so, ha, vd) (nI l) x := by
  unfold wpY_holds
  dsimp only
  exact ⟨h + 1, es_yHoldL hl e hh k1 k0 h 0 (by omega) (fun j hj => absurd hj (by omega))⟩
theorem es_yGreatL {post : Int32 → Prop} (A : es_At nu he gr ha l h hd c) (hl : l < 4) (k : post (nI (es_mx c h))) :
    ∀ d i, i + d = h → wY_greatest_4 post (nI l) (nI w) nu he so ha vd (d + 1) (nI (es_mx c i)) (nI i) := by
  obtain ⟨a1, a2, a3, a4, L⟩ := A
  have hh : h ≤ 60 := L.1
  intro d
  induction d with
  | zero =>
    intro i hi
    refine ⟨vp_in_nI hl (by omega), ?_⟩
    rw [nI_clamp (n := l) (by omega), a1]
    have e : i = h := by omega
    subst e
    exact br_t (nI_le (by omega) (by omega)) k
  | succ d ih =>
    intro i hi
    refine ⟨vp_in_nI hl (by omega), ?_⟩
    rw [nI_clamp (n := l) (by omega), a1]
    refine br_f (nI_ge (by omega) (by omega)) (br_f (nI_ge (b := 60) (by omega) (by omega)) ?_)
    rw [es_iy l i, nI_clamp (n := 60 * l + i) (by omega), (L.2.1 i (by omega)).1]
    refine ⟨vp_in_nI (by omega) (by omega), ?_⟩
    have b1 : c i ≤ 15360 := es_Ln_c L (by omega)
    have b2 : es_mx c i ≤ 15360 := es_mx_b i (fun j hj => es_Ln_c L (by omega))
    have H := ih (i + 1) (by omega)
    have es : es_mx c (i + 1) = if es_mx c i < c i then c i else es_mx c i := rfl
    by_cases q : es_mx c i < c i
    · rw [es, if_pos q] at H
      exact br_f (nI_ge q (by omega)) ⟨vp_in_nI (by omega) (by omega), nm_e (nm_r (nI_1 i) H)⟩
    · rw [es, if_neg q] at H
      exact br_t (nI_le (by omega) (by omega)) (nm_r (nI_1 i) H)
theorem es_yGreat {post : Int32 → Prop} (A : es_At nu he gr ha l h hd c) (hl : l < 4) (k : post (nI (es_mx c h))) :
    wpY_greatest post (nI w, nu, he, so, ha, vd) (nI l) := by
  unfold wpY_greatest
  dsimp only
  exact ⟨h + 1, es_yGreatL A hl k h 0 (by omega)⟩
theorem es_yTakenL {post : Int32 → Prop} {st : Int} {lw m : Nat} (hs : es_sm st) (hlw : lw < 256) (hm : (m : Int) = ((lw : Int) - st) % 256)
    (k : post (es_z (st + ((lw : Int) - st) % 256))) :
    ∀ d i, i + d = m → wY_taken_16 post (nI lw) (es_z st) (nI w) nu he so ha vd (d + 1) (nI i) := by
  intro d
  induction d with
  | zero =>
    intro i hi
    have e1 : es_z st + nI i = es_z (st + ((lw : Int) - st) % 256) := by
      rw [es_nI, es_add, ← hm, show i = m by omega]
    have e2 : es_z (st + ((lw : Int) - st) % 256) &&& 255 = nI lw := by
      rw [es_and, es_nI, show (st + ((lw : Int) - st) % 256) % 256 = lw by omega]
    refine br_f (nI_ge (b := 256) (by omega) (by omega)) ?_
    rw [e1]
    exact br_t e2 k
  | succ d ih =>
    intro i hi
    have e1 : es_z st + nI i = es_z (st + i) := by rw [es_nI, es_add]
    have e2 : ¬ es_z (st + i) &&& 255 = nI lw := by
      rw [es_and, es_nI, es_eq ⟨by omega, by omega⟩ ⟨by omega, by omega⟩]
      omega
    refine br_f (nI_ge (b := 256) (by omega) (by omega)) ?_
    rw [e1]
    exact br_f e2 (nm_r (nI_1 i) (ih (i + 1) (by omega)))
theorem es_st_sm (A : es_At nu he gr ha l h hd c) (hw : 4 ≤ w ∧ w ≤ 64) : -63 ≤ es_st (es_mx c h) w ∧ es_st (es_mx c h) w ≤ 15360 := by
  have := es_Ln_m A.2.2.2.2
  unfold es_st
  omega
theorem es_yTaken (A : es_At nu he gr ha l h hd c) (hl : l < 4) (hw : 4 ≤ w ∧ w ≤ 64) {lw : Nat} (hlw : lw < 256) {post : Int32 → Prop} (k : post (es_z (es_nb (es_mx c h) w lw))) :
    wpY_taken post (nI w, nu, he, so, ha, vd) (nI l) (nI lw) := by
  unfold wpY_taken
  dsimp only
  refine es_yGreat A hl ?_
  have e : nI (es_mx c h) - nI w + 1 = es_z (es_st (es_mx c h) w) := by
    rw [es_nI, es_nI, es_1, es_sub, es_add]
    rfl
  have b := es_st_sm A hw
  refine nm_r e ⟨((((lw : Int) - es_st (es_mx c h) w) % 256).toNat) + 1, ?_⟩
  exact es_yTakenL (m := (((lw : Int) - es_st (es_mx c h) w) % 256).toNat) ⟨by omega, by omega⟩ hlw (by omega) k _ 0 (by omega)
end
end
section
section
variable {w l h hd : Nat} {c : Nat → Nat} {nu he gr so ha vc vd : Nat → Int32}

theorem es_nb_b (A : es_At nu he gr ha l h hd c) (hw : 4 ≤ w ∧ w ≤ 64) (lw : Nat) : -63 ≤ es_nb (es_mx c h) w lw ∧ es_nb (es_mx c h) w lw ≤ 256 * (h + 1) := by
  have b := A.2.2.2.2.2.2.2
  unfold es_nb es_st
  omega
theorem es_nb_sm (A : es_At nu he gr ha l h hd c) (hw : 4 ≤ w ∧ w ≤ 64) (lw : Nat) : es_sm (es_nb (es_mx c h) w lw) := by
  have b := es_nb_b A hw lw
  have b2 := A.2.2.2.2.1
  exact ⟨by omega, by omega⟩

theorem es_xJudge (A : es_At nu he gr ha l h hd c) (hl : l < 4) {z : Int} (hz : es_sm z) {b : Int32} {post : Int32 → Prop}
    (k5 : hd ≤ h → post 5) (k3 : h < hd → z < 1 → post 3) (k2 : h < hd → 1 ≤ z → es_in c h z → post 2)
    (k4 : h < hd → 1 ≤ z → ¬ es_in c h z → b = 0 → post 4) (k1 : h < hd → 1 ≤ z → ¬ es_in c h z → ¬ b = 0 → post 1) :
    wpX_judge post (nI w, nu, he, gr, so, ha, vc) (nI l) (es_z z) b := by
  unfold wpX_judge
  dsimp only
  refine es_xDead A hl (fun q => br_f (by decide) (k5 q)) (fun q => br_t rfl ?_)
  have o1 : (1 : Int32) ≤ es_z z ↔ 1 ≤ z := by rw [es_1, es_le ⟨by omega, by omega⟩ hz]
  have L := A.2.2.2.2
  by_cases p : 1 ≤ z
  · refine br_t (o1.mpr p) ?_
    refine es_xAcc hl A.1 L.1 (fun t => br_f (by decide) (k2 q p ((es_hold L hz).mp t))) (fun t => br_t rfl ?_)
    have t' : ¬ es_in c h z := fun s => t ((es_hold L hz).mpr s)
    exact br_c (fun b0 => k4 q p t' b0) (fun b0 => k1 q p t' b0)
  · exact br_f (fun s => p (o1.mp s)) (k3 q (by omega))

/-- the greatest number a line, when n has been accepted on line l -/
def es_gr (gr : Nat → Int32) (l g n : Nat) : Nat → Int32 := if g < n then upd gr l (nI n) else gr
theorem es_gr1 {g n : Nat} (e : gr l = nI g) : es_gr gr l g n l = nI (if g < n then n else g) := by
  unfold es_gr
  by_cases q : g < n
  · rw [if_pos q, if_pos q, pk_us]
  · rw [if_neg q, if_neg q, e]
theorem es_gr2 {g n m : Nat} (e : m ≠ l) : es_gr gr l g n m = gr m := by
  unfold es_gr
  by_cases q : g < n
  · rw [if_pos q, pk_un e]
  · rw [if_neg q]

theorem es_xAccept (A : es_At nu he gr ha l h hd c) (hl : l < 4) (hh : h < 60) {n : Nat} (hn : n < 20000) {post : SX → Prop}
    (k : post (nI w, upd nu (60 * l + h) (nI n), upd he l (nI (h + 1)), es_gr gr l (es_mx c h) n, so, ha, vc)) :
    wpX_accept post (nI w, nu, he, gr, so, ha, vc) (nI l) (nI n) := by
  unfold wpX_accept
  dsimp only
  have m := es_Ln_m A.2.2.2.2
  have i4 : vp_in (nI l) 4 := vp_in_nI hl (by omega)
  rw [nI_clamp (n := l) (by omega), A.1, es_ix, nI_clamp (n := 60 * l + h) (by omega), A.2.1]
  refine ⟨i4, vp_in_nI (by omega) (by omega), nm_e ⟨i4, i4, nm_r (by rw [nI_1]) ⟨i4, ?_⟩⟩⟩
  by_cases q : es_mx c h < n
  · refine br_f (nI_ge q (by omega)) ⟨i4, nm_e ?_⟩
    have e : es_gr gr l (es_mx c h) n = upd gr l (nI n) := if_pos q
    rw [e] at k
    exact k
  · refine br_t (nI_le (by omega) (by omega)) ?_
    have e : es_gr gr l (es_mx c h) n = gr := if_neg q
    rw [e] at k
    exact k

theorem es_xTk (hl : l < 4) {j : Nat} (hj : j < 5) {post : Int32 → SX → Prop}
    (k : post (nI (j + 1)) (nI w, nu, he, gr, so, ha, upd vc (5 * l + j) (vc (5 * l + j) + 1))) :
    wX_takePacket_31 post (nI l) (nI (j + 1)) (nI w) nu he gr so ha vc := by
  unfold wX_takePacket_31 wpX_verdictPlace
  dsimp only
  rw [es_i5, nI_clamp (n := 5 * l + j) (by omega)]
  exact ⟨vp_in_nI (by omega) (by omega), vp_in_nI (by omega) (by omega), nm_e k⟩

theorem es_xTake (A : es_At nu he gr ha l h hd c) (hl : l < 4) (hw : 4 ≤ w ∧ w ≤ 64) {lw : Nat} {b : Int32} {post : Int32 → SX → Prop}
    {z : Int} (ez : es_nb (es_mx c h) w lw = z)
    (k5 : hd ≤ h → post 5 (nI w, nu, he, gr, so, ha, upd vc (5 * l + 4) (vc (5 * l + 4) + 1)))
    (k3 : h < hd → z < 1 → post 3 (nI w, nu, he, gr, so, ha, upd vc (5 * l + 2) (vc (5 * l + 2) + 1)))
    (k2 : h < hd → 1 ≤ z → es_in c h z → post 2 (nI w, nu, he, gr, so, ha, upd vc (5 * l + 1) (vc (5 * l + 1) + 1)))
    (k4 : h < hd → 1 ≤ z → ¬ es_in c h z → b = 0 → post 4 (nI w, nu, he, gr, so, ha, upd vc (5 * l + 3) (vc (5 * l + 3) + 1)))
    (k1 : h < hd → 1 ≤ z → ¬ es_in c h z → ¬ b = 0 → post 1 (nI w, upd nu (60 * l + h) (nI z.toNat), upd he l (nI (h + 1)), es_gr gr l (es_mx c h) z.toNat, so, ha, upd vc (5 * l + 0) (vc (5 * l + 0) + 1))) :
    wpX_takePacket post (nI w, nu, he, gr, so, ha, vc) (nI l) (nI lw) b := by
  have bz := es_nb_b A hw lw
  have hz := es_nb_sm A hw lw
  have h60 := A.2.2.2.1
  rw [ez] at bz hz
  unfold wpX_takePacket
  dsimp only
  refine es_xTaken A hl ?_
  rw [ez]
  refine es_xJudge A hl hz (fun q => br_f (by decide) ?_) (fun q r => br_f (by decide) ?_) (fun q r s => br_f (by decide) ?_) (fun q r s t => br_f (by decide) ?_) (fun q r s t => br_t rfl ?_)
  · exact es_xTk hl (j := 4) (by omega) (k5 q)
  · exact es_xTk hl (j := 2) (by omega) (k3 q r)
  · exact es_xTk hl (j := 1) (by omega) (k2 q r s)
  · exact es_xTk hl (j := 3) (by omega) (k4 q r s t)
  · have e : es_z z = nI z.toNat := by rw [es_nI, show ((z.toNat : Nat) : Int) = z by omega]
    rw [e]
    refine es_xAccept A hl (by omega) (by omega) ?_
    exact es_xTk hl (j := 0) (by omega) (k1 q r s t)

theorem es_yVerd (A : es_At nu he gr ha l h hd c) (hl : l < 4) (hw : 4 ≤ w ∧ w ≤ 64) {lw : Nat} (hlw : lw < 256) {b : Int32} {post : Int32 → SY → Prop}
    {z : Int} (ez : es_nb (es_mx c h) w lw = z)
    (k5 : hd ≤ h → post 5 (nI w, nu, he, so, ha, vd))
    (k3 : h < hd → z < 1 → post 3 (nI w, nu, he, so, ha, vd))
    (k2 : h < hd → 1 ≤ z → es_in c h z → post 2 (nI w, nu, he, so, ha, vd))
    (k4 : h < hd → 1 ≤ z → ¬ es_in c h z → b = 0 → post 4 (nI w, nu, he, so, ha, vd))
    (k1 : h < hd → 1 ≤ z → ¬ es_in c h z → ¬ b = 0 → post 1 (nI w, upd nu (60 * l + h) (nI z.toNat), upd he l (nI (h + 1)), so, ha, vd)) :
    wpY_verdict post (nI w, nu, he, so, ha, vd) (nI l) (nI lw) b := by
  have bz := es_nb_b A hw lw
  have hz := es_nb_sm A hw lw
  have h60 := A.2.2.2.1
  have L := A.2.2.2.2
  have hh := L.1
  rw [ez] at bz hz
  have i4 : vp_in (nI l) 4 := vp_in_nI hl (by omega)
  unfold wpY_verdict
  dsimp only
  refine ⟨i4, i4, ?_⟩
  rw [nI_clamp (n := l) (by omega), A.1, A.2.2.1]
  by_cases q : h < hd
  · refine br_t (nI_lt q (by omega)) ?_
    refine es_yTaken A hl hw hlw ?_
    rw [ez]
    have o1 : (1 : Int32) ≤ es_z z ↔ 1 ≤ z := by rw [es_1, es_le ⟨by omega, by omega⟩ hz]
    by_cases p : 1 ≤ z
    · refine br_t (o1.mpr p) ?_
      refine es_yHold hl A.1 L.1 (fun t => br_f (by decide) (k2 q p ((es_hold L hz).mp t))) (fun t => br_t rfl ?_)
      have t' : ¬ es_in c h z := fun s => t ((es_hold L hz).mpr s)
      refine br_c (fun b0 => k4 q p t' b0) (fun b0 => ⟨i4, nm_e (br_f (nI_ge (b := 60) (by omega) (by omega)) ?_)⟩)
      have e : es_z z = nI z.toNat := by rw [es_nI, show ((z.toNat : Nat) : Int) = z by omega]
      rw [e, es_iy, nI_clamp (n := 60 * l + h) (by omega)]
      exact ⟨vp_in_nI (by omega) (by omega), nm_e ⟨i4, nm_r (by rw [nI_1]) (k1 q p t' b0)⟩⟩
    · exact br_f (fun s => p (o1.mp s)) (k3 q (by omega))
  · exact br_f (nI_nlt (by omega) (by omega)) (k5 (by omega))

theorem es_yUp (hl : l < 4) {j : Nat} (hj : j < 5) {post : Int32 → SY → Prop}
    (k : post (nI (j + 1)) (nI w, nu, he, so, ha, upd vd (8 * l + (j + 1)) (vd (8 * l + (j + 1)) + 1))) :
    vp_in (8 * nI l + nI (j + 1)) 32 ∧ (vp_in (8 * nI l + nI (j + 1)) 32 ∧ ∀ a : Nat → Int32, a = upd vd (8 * nI l + nI (j + 1)).toNatClampNeg (vd (8 * nI l + nI (j + 1)).toNatClampNeg + 1) → post (nI (j + 1)) (nI w, nu, he, so, ha, a)) := by
  rw [es_i8, nI_clamp (n := 8 * l + (j + 1)) (by omega)]
  exact ⟨vp_in_nI (by omega) (by omega), vp_in_nI (by omega) (by omega), nm_e k⟩

theorem es_yRecv (A : es_At nu he gr ha l h hd c) (hl : l < 4) (hw : 4 ≤ w ∧ w ≤ 64) {lw : Nat} (hlw : lw < 256) {b : Int32} {post : Int32 → SY → Prop}
    {z : Int} (ez : es_nb (es_mx c h) w lw = z)
    (k5 : hd ≤ h → post 5 (nI w, nu, he, so, ha, upd vd (8 * l + (4 + 1)) (vd (8 * l + (4 + 1)) + 1)))
    (k3 : h < hd → z < 1 → post 3 (nI w, nu, he, so, ha, upd vd (8 * l + (2 + 1)) (vd (8 * l + (2 + 1)) + 1)))
    (k2 : h < hd → 1 ≤ z → es_in c h z → post 2 (nI w, nu, he, so, ha, upd vd (8 * l + (1 + 1)) (vd (8 * l + (1 + 1)) + 1)))
    (k4 : h < hd → 1 ≤ z → ¬ es_in c h z → b = 0 → post 4 (nI w, nu, he, so, ha, upd vd (8 * l + (3 + 1)) (vd (8 * l + (3 + 1)) + 1)))
    (k1 : h < hd → 1 ≤ z → ¬ es_in c h z → ¬ b = 0 → post 1 (nI w, upd nu (60 * l + h) (nI z.toNat), upd he l (nI (h + 1)), so, ha, upd vd (8 * l + (0 + 1)) (vd (8 * l + (0 + 1)) + 1))) :
    wpY_receive post (nI w, nu, he, so, ha, vd) (nI l) (nI lw) b := by
  unfold wpY_receive
  dsimp only
  refine es_yl hl (es_ylo hlw ?_)
  refine es_yVerd A hl hw hlw ez (fun q => ?_) (fun q r => ?_) (fun q r s => ?_) (fun q r s t => ?_) (fun q r s t => ?_)
  · exact es_yUp hl (j := 4) (by omega) (k5 q)
  · exact es_yUp hl (j := 2) (by omega) (k3 q r)
  · exact es_yUp hl (j := 1) (by omega) (k2 q r s)
  · exact es_yUp hl (j := 3) (by omega) (k4 q r s t)
  · exact es_yUp hl (j := 0) (by omega) (k1 q r s t)

/-- one packet, on both sides -/
theorem es_pkt (hw : 4 ≤ w ∧ w ≤ 64) (HL : es_L nu he gr ha) (HV : es_V vc vd) (hl : l < 4) {lw : Nat} (hlw : lw < 256) (b p : Int32) (hb : b = 0 ↔ p = 0) :
    ∃ (r : Int32) (nu' he' gr' vc' vd' : Nat → Int32), es_L nu' he' gr' ha ∧ es_V vc' vd' ∧
      (∀ post : Int32 → SX → Prop, post r (nI w, nu', he', gr', so, ha, vc') → wpX_takePacket post (nI w, nu, he, gr, so, ha, vc) (nI l) (nI lw) b) ∧
      (∀ post : Int32 → SY → Prop, post r (nI w, nu', he', so, ha, vd') → wpY_receive post (nI w, nu, he, so, ha, vd) (nI l) (nI lw) p) := by
  obtain ⟨h, hd, c, A⟩ := HL l hl
  have bz := es_nb_b A hw lw
  obtain ⟨z, ez⟩ : ∃ z, es_nb (es_mx c h) w lw = z := ⟨_, rfl⟩
  rw [ez] at bz
  have h60 := A.2.2.2.1
  by_cases q : h < hd
  · by_cases q3 : z < 1
    · refine ⟨3, nu, he, gr, _, _, HL, es_V_up HV hl (j := 2) (by omega), fun post k => ?_, fun post k => ?_⟩
      · exact es_xTake A hl hw ez (fun t => absurd t (by omega)) (fun _ _ => k) (fun _ t => absurd t (by omega)) (fun _ t => absurd t (by omega)) (fun _ t => absurd t (by omega))
      · exact es_yRecv A hl hw hlw ez (fun t => absurd t (by omega)) (fun _ _ => k) (fun _ t => absurd t (by omega)) (fun _ t => absurd t (by omega)) (fun _ t => absurd t (by omega))
    · by_cases q2 : es_in c h z
      · refine ⟨2, nu, he, gr, _, _, HL, es_V_up HV hl (j := 1) (by omega), fun post k => ?_, fun post k => ?_⟩
        · exact es_xTake A hl hw ez (fun t => absurd t (by omega)) (fun _ t => absurd t q3) (fun _ _ _ => k) (fun _ _ t => absurd q2 t) (fun _ _ t => absurd q2 t)
        · exact es_yRecv A hl hw hlw ez (fun t => absurd t (by omega)) (fun _ t => absurd t q3) (fun _ _ _ => k) (fun _ _ t => absurd q2 t) (fun _ _ t => absurd q2 t)
      · by_cases q4 : b = 0
        · have q4' := hb.mp q4
          refine ⟨4, nu, he, gr, _, _, HL, es_V_up HV hl (j := 3) (by omega), fun post k => ?_, fun post k => ?_⟩
          · exact es_xTake A hl hw ez (fun t => absurd t (by omega)) (fun _ t => absurd t q3) (fun _ _ t => absurd t q2) (fun _ _ _ _ => k) (fun _ _ _ t => absurd q4 t)
          · exact es_yRecv A hl hw hlw ez (fun t => absurd t (by omega)) (fun _ t => absurd t q3) (fun _ _ t => absurd t q2) (fun _ _ _ _ => k) (fun _ _ _ t => absurd q4' t)
        · have q4' : ¬ p = 0 := fun t => q4 (hb.mpr t)
          have ze : ((z.toNat : Nat) : Int) = z := by omega
          have HL' : es_L (upd nu (60 * l + h) (nI z.toNat)) (upd he l (nI (h + 1))) (es_gr gr l (es_mx c h) z.toNat) ha :=
            es_L_acc HL hl A (by omega) (by omega) (by rw [ze]; exact q2) (by omega) (es_gr1 A.2.1) (fun m hm => es_gr2 hm)
          refine ⟨1, _, _, _, _, _, HL', es_V_up HV hl (j := 0) (by omega), fun post k => ?_, fun post k => ?_⟩
          · exact es_xTake A hl hw ez (fun t => absurd t (by omega)) (fun _ t => absurd t q3) (fun _ _ t => absurd t q2) (fun _ _ _ t => absurd t q4) (fun _ _ _ _ => k)
          · exact es_yRecv A hl hw hlw ez (fun t => absurd t (by omega)) (fun _ t => absurd t q3) (fun _ _ t => absurd t q2) (fun _ _ _ t => absurd t q4') (fun _ _ _ _ => k)
  · refine ⟨5, nu, he, gr, _, _, HL, es_V_up HV hl (j := 4) (by omega), fun post k => ?_, fun post k => ?_⟩
    · exact es_xTake A hl hw ez (fun _ => k) (fun t => absurd t q) (fun t => absurd t q) (fun t => absurd t q) (fun t => absurd t q)
    · exact es_yRecv A hl hw hlw ez (fun _ => k) (fun t => absurd t q) (fun t => absurd t q) (fun t => absurd t q) (fun t => absurd t q)
end
end
section
section
variable {w l h hd : Nat} {c : Nat → Nat} {nu he gr so ha vc vd : Nat → Int32}

/-- a burst, in lockstep -/
theorem es_bursts (hw : 4 ≤ w ∧ w ≤ 64) (hl : l < 4) (x2 x3 : Int32) {cn : Nat} (hc : cn ≤ 40) : ∀ (d i : Nat) (g : Int32) (nu he gr vc vd : Nat → Int32), i + d = cn →
    es_L nu he gr ha → es_V vc vd →
    ∃ (r : Int32) (nu' he' gr' vc' vd' : Nat → Int32), es_L nu' he' gr' ha ∧ es_V vc' vd' ∧
      (∀ post : Int32 → SX → Prop, post r (nI w, nu', he', gr', so, ha, vc') → wX_burst_56 post (nI l) x2 x3 (nI cn) (d + 1) g (nI i) (nI w) nu he gr so ha vc) ∧
      (∀ post : Int32 → SY → Prop, post r (nI w, nu', he', so, ha, vd') → wY_burst_61 post (nI l) x2 x3 (nI cn) (d + 1) g (nI i) (nI w) nu he so ha vd) := by
  intro d
  induction d with
  | zero =>
    intro i g nu he gr vc vd hi HL HV
    have e : nI cn ≤ nI i := nI_le (by omega) (by omega)
    exact ⟨g, nu, he, gr, vc, vd, HL, HV, fun post k => br_t e k, fun post k => br_t e k⟩
  | succ d ih =>
    intro i g nu he gr vc vd hi HL HV
    have e : ¬ nI cn ≤ nI i := nI_ge (by omega) (by omega)
    obtain ⟨j, hj, ej⟩ := es_andE (x2 + nI i * x3)
    obtain ⟨r, nu1, he1, gr1, vc1, vd1, HL1, HV1, hX, hY⟩ := es_pkt (so := so) hw HL HV hl hj 1 1 Iff.rfl
    by_cases q : r = 1
    · obtain ⟨r2, nu2, he2, gr2, vc2, vd2, HL2, HV2, hX2, hY2⟩ := ih (i + 1) (g + 1) nu1 he1 gr1 vc1 vd1 (by omega) HL1 HV1
      refine ⟨r2, nu2, he2, gr2, vc2, vd2, HL2, HV2, fun post k => br_f e ?_, fun post k => br_f e ?_⟩
      · rw [ej]
        exact hX _ (br_t q (nm_e (nm_r (nI_1 i) (hX2 post k))))
      · rw [ej]
        exact hY _ (br_t q (nm_e (nm_r (nI_1 i) (hY2 post k))))
    · obtain ⟨r2, nu2, he2, gr2, vc2, vd2, HL2, HV2, hX2, hY2⟩ := ih (i + 1) g nu1 he1 gr1 vc1 vd1 (by omega) HL1 HV1
      refine ⟨r2, nu2, he2, gr2, vc2, vd2, HL2, HV2, fun post k => br_f e ?_, fun post k => br_f e ?_⟩
      · rw [ej]
        exact hX _ (br_f q (nm_r (nI_1 i) (hX2 post k)))
      · rw [ej]
        exact hY _ (br_f q (nm_r (nI_1 i) (hY2 post k)))

theorem es_xBelowL (A : es_At nu he gr ha l h hd c) (hl : l < 4) {st : Int} (hs : es_sm st) {post : Int32 → Prop} (k : post (nI (es_lo c st h))) :
    ∀ d i, i + d = h → wX_acceptedBelowWindow_17 post (nI l) (es_z st) (nI (60 * l)) (nI w) nu he gr so ha vc (d + 1) (nI (es_lo c st i)) (nI i) := by
  obtain ⟨a1, a2, a3, a4, L⟩ := A
  have hh : h ≤ 60 := L.1
  intro d
  induction d with
  | zero =>
    intro i hi
    refine ⟨vp_in_nI hl (by omega), ?_⟩
    rw [nI_clamp (n := l) (by omega), a1]
    have e : i = h := by omega
    subst e
    exact br_t (nI_le (by omega) (by omega)) k
  | succ d ih =>
    intro i hi
    refine ⟨vp_in_nI hl (by omega), ?_⟩
    rw [nI_clamp (n := l) (by omega), a1]
    refine br_f (nI_ge (by omega) (by omega)) ?_
    rw [nI_add (60 * l) i, nI_clamp (n := 60 * l + i) (by omega), (L.2.1 i (by omega)).1]
    refine ⟨vp_in_nI (by omega) (by omega), ?_⟩
    have b1 : c i ≤ 15360 := es_Ln_c L (by omega)
    have H := ih (i + 1) (by omega)
    have es : es_lo c st (i + 1) = es_lo c st i + if (c i : Int) < st then 1 else 0 := rfl
    have o : es_z st ≤ nI (c i) ↔ st ≤ c i := by rw [es_nI, es_le hs ⟨by omega, by omega⟩]
    by_cases q : (c i : Int) < st
    · rw [es, if_pos q] at H
      exact br_f (fun t => by have := o.mp t; omega) (nm_r (nI_1 _) (nm_r (nI_1 i) H))
    · rw [es, if_neg q] at H
      exact br_t (o.mpr (by omega)) (nm_r (nI_1 i) H)
theorem es_xBelow (A : es_At nu he gr ha l h hd c) (hl : l < 4) (hw : 4 ≤ w ∧ w ≤ 64) {post : Int32 → Prop} (k : post (nI (es_lo c (es_st (es_mx c h) w) h))) :
    wpX_acceptedBelowWindow post (nI w, nu, he, gr, so, ha, vc) (nI l) := by
  unfold wpX_acceptedBelowWindow
  dsimp only
  refine es_xStart A hl ?_
  have b := es_st_sm A hw
  exact nm_r (es_60 l) ⟨h + 1, es_xBelowL A hl ⟨by omega, by omega⟩ k h 0 (by omega)⟩

theorem es_yInL (A : es_At nu he gr ha l h hd c) (hl : l < 4) {lo : Nat} {post : Int32 → Prop} (k : post (es_z ((h : Int) - lo))) :
    ∀ (d n : Nat) (s : Int), s + d = es_mx c h + 1 → -100 ≤ s → n + lo = es_lo c s h → wY_inWindow_28 post (nI l) (nI (es_mx c h)) (nI w) nu he so ha vd (d + 1) (nI n) (es_z s) := by
  have L := A.2.2.2.2
  have m := es_Ln_m L
  intro d
  induction d with
  | zero =>
    intro n s hs h0 hn
    have o : nI (es_mx c h) < es_z s := by
      rw [es_nI, es_lt ⟨by omega, by omega⟩ ⟨by omega, by omega⟩]
      omega
    have e : es_lo c s h = h := es_lo_all c s h (fun i hi => by have := es_mx_le c h i hi; omega)
    refine br_t o ?_
    rw [es_nI, show ((n : Nat) : Int) = (h : Int) - lo by omega]
    exact k
  | succ d ih =>
    intro n s hs h0 hn
    have sm : es_sm s := ⟨by omega, by omega⟩
    have o : ¬ nI (es_mx c h) < es_z s := by
      rw [es_nI, es_lt ⟨by omega, by omega⟩ sm]
      omega
    have e1 : es_z s + 1 = es_z (s + 1) := by rw [es_1, es_add]
    have lo1 := es_lo_s c s h
    refine br_f o (es_yHold hl A.1 L.1 (fun t => br_f (by decide) ?_) (fun t => br_t rfl ?_))
    · have q := es_ct_in c s h L.2.2.1 ((es_hold L sm).mp t)
      exact nm_r (nI_1 n) (nm_r e1 (ih (n + 1) (s + 1) (by omega) (by omega) (by omega)))
    · have q := es_ct_no c s h (fun u => t ((es_hold L sm).mpr u))
      exact nm_r e1 (ih n (s + 1) (by omega) (by omega) (by omega))

theorem es_yLostL (A : es_At nu he gr ha l h hd c) (hl : l < 4) {bh n0 : Int} (hs : -100 ≤ bh ∧ bh ≤ 20000) {post : Int32 → Prop} (k : post (es_z (n0 - es_lo c (bh + 1) h))) :
    ∀ d i, i + d = h → wY_lost_34 post (nI l) (es_z bh) (nI w) nu he so ha vd (d + 1) (es_z (n0 - es_lo c (bh + 1) i)) (nI i) := by
  obtain ⟨a1, a2, a3, a4, L⟩ := A
  have hh : h ≤ 60 := L.1
  intro d
  induction d with
  | zero =>
    intro i hi
    refine ⟨vp_in_nI hl (by omega), ?_⟩
    rw [nI_clamp (n := l) (by omega), a1]
    have e : i = h := by omega
    subst e
    exact br_t (nI_le (by omega) (by omega)) k
  | succ d ih =>
    intro i hi
    refine ⟨vp_in_nI hl (by omega), ?_⟩
    rw [nI_clamp (n := l) (by omega), a1]
    refine br_f (nI_ge (by omega) (by omega)) (br_f (nI_ge (b := 60) (by omega) (by omega)) ?_)
    rw [es_iy l i, nI_clamp (n := 60 * l + i) (by omega), (L.2.1 i (by omega)).1]
    refine ⟨vp_in_nI (by omega) (by omega), ?_⟩
    have b1 : c i ≤ 15360 := es_Ln_c L (by omega)
    have H := ih (i + 1) (by omega)
    have es : es_lo c (bh + 1) (i + 1) = es_lo c (bh + 1) i + if (c i : Int) < bh + 1 then 1 else 0 := rfl
    have o : es_z bh < nI (c i) ↔ bh < c i := by rw [es_nI, es_lt ⟨by omega, by omega⟩ ⟨by omega, by omega⟩]
    by_cases q : (c i : Int) < bh + 1
    · rw [es, if_pos q] at H
      have e1 : es_z (n0 - es_lo c (bh + 1) i) + (-1) = es_z (n0 - ((es_lo c (bh + 1) i + 1 : Nat) : Int)) := by
        rw [es_m1, es_add, show n0 - (es_lo c (bh + 1) i : Int) + -1 = n0 - ((es_lo c (bh + 1) i + 1 : Nat) : Int) by omega]
      exact br_f (fun t => by have := o.mp t; omega) (nm_r e1 (nm_r (nI_1 i) H))
    · rw [es, if_neg q] at H
      exact br_t (o.mpr (by omega)) (nm_r (nI_1 i) H)

/-- the search for a gap, in lockstep -/
theorem es_gaps (A : es_At nu he gr ha l h hd c) (hl : l < 4) (hw : 4 ≤ w ∧ w ≤ 64) {le : Int} (hle : (le = 1 ∧ es_st (es_mx c h) w < 1) ∨ (le = es_st (es_mx c h) w ∧ 1 ≤ le)) :
    ∀ (d : Nat) (s : Int), s < le + d → -100 ≤ s → s ≤ 20000 → ∃ r : Int32,
      (∀ post : Int32 → Prop, post r → wX_gap_36 post (nI l) (es_z le) (nI w) nu he gr so ha vc (d + 1) (es_z s)) ∧
      (∀ post : Int32 → Prop, post r → wY_gap_20 post (nI l) (nI (es_mx c h)) (nI w) nu he so ha vd (d + 1) (es_z s)) := by
  have L := A.2.2.2.2
  have m := es_Ln_m L
  have b := es_st_sm A hw
  have ew : nI (es_mx c h) - nI w + 1 = es_z (es_st (es_mx c h) w) := by
    rw [es_nI, es_nI, es_1, es_sub, es_add]
    rfl
  have out : ∀ (n : Nat) (s : Int), s < le → -100 ≤ s → ∃ r : Int32,
      (∀ post : Int32 → Prop, post r → wX_gap_36 post (nI l) (es_z le) (nI w) nu he gr so ha vc (n + 1) (es_z s)) ∧
      (∀ post : Int32 → Prop, post r → wY_gap_20 post (nI l) (nI (es_mx c h)) (nI w) nu he so ha vd (n + 1) (es_z s)) := by
    intro n s h1 h2
    have sm : es_sm s := ⟨by omega, by omega⟩
    have o : es_z s < es_z le := (es_lt sm ⟨by omega, by omega⟩).mpr h1
    refine ⟨0, fun post k => br_t o k, fun post k => ?_⟩
    by_cases q : s < es_st (es_mx c h) w
    · have o2 : es_z s < nI (es_mx c h) - nI w + 1 := by
        rw [ew]
        exact (es_lt sm ⟨by omega, by omega⟩).mpr q
      exact br_t o2 k
    · have o2 : ¬ es_z s < nI (es_mx c h) - nI w + 1 := by
        rw [ew, es_lt sm ⟨by omega, by omega⟩]
        exact q
      have o3 : es_z s < 1 := by
        rw [es_1, es_lt sm ⟨by omega, by omega⟩]
        omega
      exact br_f o2 (br_t o3 k)
  intro d
  induction d with
  | zero => intro s h1 h2 _; exact out 0 s (by omega) h2
  | succ d ih =>
    intro s h1 h2 h3
    by_cases q : s < le
    · exact out (d + 1) s q h2
    · have sm : es_sm s := ⟨by omega, by omega⟩
      have o : ¬ es_z s < es_z le := by
        rw [es_lt sm ⟨by omega, by omega⟩]
        exact q
      have o2 : ¬ es_z s < nI (es_mx c h) - nI w + 1 := by
        rw [ew, es_lt sm ⟨by omega, by omega⟩]
        omega
      have o3 : ¬ es_z s < 1 := by
        rw [es_1, es_lt sm ⟨by omega, by omega⟩]
        omega
      have e1 : es_z s + (-1) = es_z (s - 1) := by
        rw [es_m1, es_add, show s + -1 = s - 1 by omega]
      by_cases t : ∃ i, i < h ∧ nu (60 * l + i) = es_z s
      · obtain ⟨r, hX, hY⟩ := ih (s - 1) (by omega) (by omega) (by omega)
        refine ⟨r, fun post k => br_f o ?_, fun post k => br_f o2 (br_f o3 ?_)⟩
        · exact es_xAcc hl A.1 L.1 (fun _ => br_f (by decide) (nm_r e1 (hX post k))) (fun u => absurd t u)
        · exact es_yHold hl A.1 L.1 (fun _ => br_f (by decide) (nm_r e1 (hY post k))) (fun u => absurd t u)
      · refine ⟨es_z s, fun post k => br_f o ?_, fun post k => br_f o2 (br_f o3 ?_)⟩
        · exact es_xAcc hl A.1 L.1 (fun u => absurd u t) (fun _ => br_t rfl k)
        · exact es_yHold hl A.1 L.1 (fun u => absurd u t) (fun _ => br_t rfl k)

/-- the limits at the start: x on the first i lines -/
def es_f (x : Int32) (i : Nat) : Nat → Int32 := fun j => if j < i then x else 0
theorem es_f_0 (x : Int32) : es_f x 0 = fun _ => 0 := funext (fun j => if_neg (by omega))
theorem es_f_s (x : Int32) (i : Nat) : upd (es_f x i) i x = es_f x (i + 1) := by
  funext j
  show (if j = i then x else if j < i then x else 0) = if j < i + 1 then x else 0
  by_cases q : j = i
  · rw [if_pos q, if_pos (by omega)]
  · rw [if_neg q]
    by_cases r : j < i
    · rw [if_pos r, if_pos (by omega)]
    · rw [if_neg r, if_neg (by omega)]
theorem es_xI {post : SX → Prop} {f : Int32} {z1 z2 z3 z4 : Nat → Int32} (k : post (f, z1, z2, z3, es_f 40 4, es_f 60 4, z4)) :
    ∀ d i, i + d = 4 → wX_init_76 post f (d + 1) (nI i) z1 z2 z3 (es_f 40 i) (es_f 60 i) z4 := by
  intro d
  induction d with
  | zero =>
    intro i hi
    have e : i = 4 := by omega
    subst e
    exact br_t (nI_le (a := 4) (by omega) (by omega)) k
  | succ d ih =>
    intro i hi
    refine br_f (nI_ge (b := 4) (by omega) (by omega)) ⟨vp_in_nI (by omega) (by omega), nm_r (e' := es_f 40 (i + 1)) (by rw [nI_clamp (by omega), es_f_s]) ⟨vp_in_nI (by omega) (by omega), nm_r (e' := es_f 60 (i + 1)) (by rw [nI_clamp (by omega), es_f_s]) (nm_r (nI_1 i) (ih (i + 1) (by omega)))⟩⟩
theorem es_yI {post : SY → Prop} {f : Int32} {z1 z2 z4 : Nat → Int32} (k : post (f, z1, z2, es_f 40 4, es_f 60 4, z4)) :
    ∀ d i, i + d = 4 → wY_init_69 post f (d + 1) (nI i) z1 z2 (es_f 40 i) (es_f 60 i) z4 := by
  intro d
  induction d with
  | zero =>
    intro i hi
    have e : i = 4 := by omega
    subst e
    exact br_t (nI_le (a := 4) (by omega) (by omega)) k
  | succ d ih =>
    intro i hi
    refine br_f (nI_ge (b := 4) (by omega) (by omega)) ⟨vp_in_nI (by omega) (by omega), nm_r (e' := es_f 40 (i + 1)) (by rw [nI_clamp (by omega), es_f_s]) ⟨vp_in_nI (by omega) (by omega), nm_r (e' := es_f 60 (i + 1)) (by rw [nI_clamp (by omega), es_f_s]) (nm_r (nI_1 i) (ih (i + 1) (by omega)))⟩⟩
end
end
section
section
/-- the two states: one window, one array of numbers, one of how many, one of each limit; the greatest number of each line is that of its numbers; the counts agree -/
def i_Rel (k : Nat) (u : SX) (v : SY) : Prop :=
  ∃ (w : Nat) (nu he gr so ha vc vd : Nat → Int32), u = (nI w, nu, he, gr, so, ha, vc) ∧ v = (nI w, nu, he, so, ha, vd) ∧ (4 ≤ w ∧ w ≤ 64) ∧ es_L nu he gr ha ∧ es_V vc vd
theorem i_up {k : Nat} {u : SX} {v : SY} (h : i_Rel k u v) : i_Rel (k + 5) u v := h
theorem es_in0 {w : Nat} (hw : 4 ≤ w ∧ w ≤ 64) : i_Rel 1 (nI w, (fun _ => 0), (fun _ => 0), (fun _ => 0), es_f 40 4, es_f 60 4, (fun _ => 0)) (nI w, (fun _ => 0), (fun _ => 0), es_f 40 4, es_f 60 4, (fun _ => 0)) := by
  refine ⟨w, _, _, _, _, _, _, _, rfl, rfl, hw, fun l hl => ?_, fun l hl j hj => rfl⟩
  refine ⟨0, 60, fun _ => 0, rfl, rfl, ?_, by omega, by omega, fun i hi => absurd hi (by omega), fun i j _ hj => absurd hj (by omega), Nat.le_refl _⟩
  exact if_pos hl
theorem es_in0X {post : SX → Prop} {f : Int32} (k : post (f, (fun _ => 0), (fun _ => 0), (fun _ => 0), es_f 40 4, es_f 60 4, (fun _ => 0))) : ∃ n76 : Nat, wX_init_76 post f n76 0 (fun _ => 0) (fun _ => 0) (fun _ => 0) (fun _ => 0) (fun _ => 0) (fun _ => 0) := by
  have hX := es_xI k 4 0 rfl
  rw [es_f_0, es_f_0] at hX
  exact ⟨5, hX⟩
theorem es_in0Y {post : SY → Prop} {f : Int32} (k : post (f, (fun _ => 0), (fun _ => 0), es_f 40 4, es_f 60 4, (fun _ => 0))) : ∃ n69 : Nat, wY_init_69 post f n69 0 (fun _ => 0) (fun _ => 0) (fun _ => 0) (fun _ => 0) (fun _ => 0) := by
  have hY := es_yI k 4 0 rfl
  rw [es_f_0, es_f_0] at hY
  exact ⟨5, hY⟩
theorem i_vc0 (k0 : Int32) : wpX_init (fun u => wpY_init (fun v => i_Rel 1 u v) k0) k0 := by
  unfold wpX_init wpY_init
  by_cases q : 4 ≤ k0
  · refine br_t q ?_
    by_cases q2 : k0 ≤ 64
    · refine br_t q2 (es_in0X (br_t q (br_t q2 (es_in0Y ?_))))
      have p : ¬ k0 < 0 := Int32.not_lt.mpr (Int32.le_trans (by decide) q)
      obtain ⟨j, hj, rfl⟩ := nI_of2 (M := 64) (n := 64) (by decide) p q2
      have h4 : 4 ≤ j := (nI_leI (a := 4) (by omega) (by omega)).mp q
      exact es_in0 ⟨h4, hj⟩
    · exact br_f q2 (es_in0X (br_t q (br_f q2 (es_in0Y (es_in0 (w := 64) (by omega))))))
  · exact br_f q (es_in0X (br_f q (es_in0Y (es_in0 (w := 4) (by omega)))))
theorem i_vc_window {k : Nat} {u : SX} {v : SY} (I : i_Rel k u v) (hk : k + 5 ≤ 2561) : wpX_window (fun r => wpY_window (fun r' => r' = r ∧ i_Rel (k + 5) u v) v) u := by
  have I' := I
  obtain ⟨w, nu, he, gr, so, ha, vc, vd, rfl, rfl, hw, HL, HV⟩ := I
  exact ⟨rfl, I'⟩
theorem i_vc_receive {k : Nat} {u : SX} {v : SY} (I : i_Rel k u v) (hk : k + 5 ≤ 2561) (v1 : Int32) (v2 : Int32) (v3 : Int32) : wpX_receive (fun r u' => wpY_receive (fun r' v' => r' = r ∧ i_Rel (k + 5) u' v') v v1 v2 v3) u v1 v2 v3 := by
  have I' := I
  obtain ⟨w, nu, he, gr, so, ha, vc, vd, rfl, rfl, hw, HL, HV⟩ := I
  unfold wpX_receive
  dsimp only
  rcases es_lines v1 with b | ⟨l, hl, rfl⟩
  · refine es_xb b ?_
    unfold wpY_receive
    dsimp only
    exact es_yb b ⟨rfl, I'⟩
  · refine es_xl hl ?_
    rcases es_lows v2 with b | ⟨lw, hlw, rfl⟩
    · refine es_xlb b ?_
      unfold wpY_receive
      dsimp only
      exact es_yl hl (es_ylb b ⟨rfl, I'⟩)
    · refine es_xlo hlw ?_
      refine br_c (fun q => ?_) (fun q => ?_)
      · obtain ⟨r, nu', he', gr', vc', vd', HL', HV', hX, hY⟩ := es_pkt (so := so) hw HL HV hl hlw 0 v3 ⟨fun _ => q, fun _ => rfl⟩
        unfold wX_receive_31
        exact hX _ (hY _ ⟨rfl, w, nu', he', gr', so, ha, vc', vd', rfl, rfl, hw, HL', HV'⟩)
      · obtain ⟨r, nu', he', gr', vc', vd', HL', HV', hX, hY⟩ := es_pkt (so := so) hw HL HV hl hlw 1 v3 ⟨fun t => absurd t (by decide), fun t => absurd t q⟩
        unfold wX_receive_31
        exact hX _ (hY _ ⟨rfl, w, nu', he', gr', so, ha, vc', vd', rfl, rfl, hw, HL', HV'⟩)
theorem i_vc_burst {k : Nat} {u : SX} {v : SY} (I : i_Rel k u v) (hk : k + 5 ≤ 2561) (v1 : Int32) (v2 : Int32) (v3 : Int32) (v4 : Int32) : wpX_burst (fun r u' => wpY_burst (fun r' v' => r' = r ∧ i_Rel (k + 5) u' v') v v1 v2 v3 v4) u v1 v2 v3 v4 := by
  have I' := I
  obtain ⟨w, nu, he, gr, so, ha, vc, vd, rfl, rfl, hw, HL, HV⟩ := I
  unfold wpX_burst wpY_burst
  dsimp only
  rcases es_lines v1 with b | ⟨l, hl, rfl⟩
  · exact es_xb b (es_yb b ⟨rfl, I'⟩)
  · refine es_xl hl ?_
    rcases es_lows v2 with b | ⟨lw, hlw, rfl⟩
    · exact es_xlb b (es_yl hl (es_ylb b ⟨rfl, I'⟩))
    · refine es_xlo hlw ?_
      by_cases q1 : v3 < (-64)
      · exact br_t q1 (es_yl hl (es_ylo hlw (br_t q1 ⟨rfl, I'⟩)))
      · refine br_f q1 ?_
        by_cases q2 : v3 ≤ 64
        · refine br_t q2 ?_
          by_cases q3 : v4 < 1
          · exact br_t q3 (es_yl hl (es_ylo hlw (br_f q1 (br_t q2 (br_t q3 ⟨rfl, I'⟩)))))
          · refine br_f q3 ?_
            by_cases q4 : v4 ≤ 40
            · have p : ¬ v4 < 0 := fun t => q3 (Int32.lt_trans t (by decide))
              obtain ⟨j, hj, rfl⟩ := nI_of2 (M := 40) (n := 40) (by decide) p q4
              obtain ⟨r, nu', he', gr', vc', vd', HL', HV', hX, hY⟩ := es_bursts (so := so) hw hl (nI lw) v3 hj j 0 0 nu he gr vc vd (by omega) HL HV
              refine br_t q4 ⟨j + 1, hX _ ?_⟩
              exact es_yl hl (es_ylo hlw (br_f q1 (br_t q2 (br_f q3 (br_t q4 ⟨j + 1, hY _ ⟨rfl, w, nu', he', gr', so, ha, vc', vd', rfl, rfl, hw, HL', HV'⟩⟩)))))
            · exact br_f q4 (es_yl hl (es_ylo hlw (br_f q1 (br_t q2 (br_f q3 (br_f q4 ⟨rfl, I'⟩))))))
        · exact br_f q2 (es_yl hl (es_ylo hlw (br_f q1 (br_f q2 ⟨rfl, I'⟩))))
theorem i_vc_rekey {k : Nat} {u : SX} {v : SY} (I : i_Rel k u v) (hk : k + 5 ≤ 2561) (v1 : Int32) : wpX_rekey (fun r u' => wpY_rekey (fun r' v' => r' = r ∧ i_Rel (k + 5) u' v') v v1) u v1 := by
  have I' := I
  obtain ⟨w, nu, he, gr, so, ha, vc, vd, rfl, rfl, hw, HL, HV⟩ := I
  unfold wpX_rekey wpY_rekey
  dsimp only
  rcases es_lines v1 with b | ⟨l, hl, rfl⟩
  · exact es_xb b (es_yb b ⟨rfl, I'⟩)
  · have i4 : vp_in (nI l) 4 := vp_in_nI hl (by omega)
    refine es_xl hl ?_
    rw [nI_clamp (n := l) (by omega)]
    exact ⟨i4, nm_e ⟨i4, nm_e ⟨i4, nm_e (es_yl hl ⟨i4, nm_e ⟨i4, nm_e ⟨rfl, w, _, _, _, so, ha, vc, vd, rfl, rfl, hw, es_L_key HL hl, HV⟩⟩⟩)⟩⟩⟩
theorem i_vc_limits {k : Nat} {u : SX} {v : SY} (I : i_Rel k u v) (hk : k + 5 ≤ 2561) (v1 : Int32) (v2 : Int32) (v3 : Int32) : wpX_limits (fun r u' => wpY_limits (fun r' v' => r' = r ∧ i_Rel (k + 5) u' v') v v1 v2 v3) u v1 v2 v3 := by
  have I' := I
  obtain ⟨w, nu, he, gr, so, ha, vc, vd, rfl, rfl, hw, HL, HV⟩ := I
  unfold wpX_limits wpY_limits
  dsimp only
  rcases es_lines v1 with b | ⟨l, hl, rfl⟩
  · exact es_xb b (es_yb b ⟨rfl, I'⟩)
  · have i4 : vp_in (nI l) 4 := vp_in_nI hl (by omega)
    refine es_xl hl ?_
    by_cases q1 : v3 < 1
    · exact br_t q1 (es_yl hl (br_t q1 ⟨rfl, I'⟩))
    · refine br_f q1 ?_
      by_cases q2 : v3 ≤ 60
      · refine br_t q2 ?_
        by_cases q3 : v2 < 0
        · exact br_t q3 (es_yl hl (br_f q1 (br_t q2 (br_t q3 ⟨rfl, I'⟩))))
        · refine br_f q3 ?_
          by_cases q4 : v2 ≤ v3
          · have p : ¬ v3 < 0 := fun t => q1 (Int32.lt_trans t (by decide))
            obtain ⟨j, hj, rfl⟩ := nI_of2 (M := 60) (n := 60) (by decide) p q2
            refine br_t q4 ?_
            rw [nI_clamp (n := l) (by omega)]
            refine ⟨i4, nm_e ⟨i4, nm_e ?_⟩⟩
            have HL' := es_L_lim HL hl hj
            obtain ⟨h, hd, c, A⟩ := HL' l hl
            have R : i_Rel (k + 5) (nI w, nu, he, gr, upd so l v2, upd ha l (nI j), vc) (nI w, nu, he, upd so l v2, upd ha l (nI j), vd) := ⟨w, nu, he, gr, _, _, vc, vd, rfl, rfl, hw, HL', HV⟩
            have hh := A.2.2.2.2.1
            have h60 := A.2.2.2.1
            refine es_xDead A hl (fun t => br_f (by decide) ?_) (fun t => br_t rfl ?_)
            · refine es_yl hl (br_f q1 (br_t q2 (br_f q3 (br_t q4 ⟨i4, nm_e ⟨i4, nm_e ?_⟩⟩))))
              unfold wpY_dead
              dsimp only
              refine es_yl hl ⟨i4, i4, ?_⟩
              rw [nI_clamp (n := l) (by omega), A.1, A.2.2.1]
              exact br_f (nI_nlt t (by omega)) ⟨rfl, R⟩
            · refine es_yl hl (br_f q1 (br_t q2 (br_f q3 (br_t q4 ⟨i4, nm_e ⟨i4, nm_e ?_⟩⟩))))
              unfold wpY_dead
              dsimp only
              refine es_yl hl ⟨i4, i4, ?_⟩
              rw [nI_clamp (n := l) (by omega), A.1, A.2.2.1]
              exact br_t (nI_lt t (by omega)) ⟨rfl, R⟩
          · exact br_f q4 (es_yl hl (br_f q1 (br_t q2 (br_f q3 (br_f q4 ⟨rfl, I'⟩)))))
      · exact br_f q2 (es_yl hl (br_f q1 (br_f q2 ⟨rfl, I'⟩)))
theorem i_vc_top {k : Nat} {u : SX} {v : SY} (I : i_Rel k u v) (hk : k + 5 ≤ 2561) (v1 : Int32) : wpX_top (fun r => wpY_top (fun r' => r' = r ∧ i_Rel (k + 5) u v) v v1) u v1 := by
  have I' := I
  obtain ⟨w, nu, he, gr, so, ha, vc, vd, rfl, rfl, hw, HL, HV⟩ := I
  unfold wpX_top wpY_top
  dsimp only
  rcases es_lines v1 with b | ⟨l, hl, rfl⟩
  · exact es_xb b (es_yb b ⟨rfl, I'⟩)
  · obtain ⟨h, hd, c, A⟩ := HL l hl
    refine es_xl hl ⟨vp_in_nI hl (by omega), es_yl hl (es_yGreat A hl ⟨?_, I'⟩)⟩
    rw [nI_clamp (n := l) (by omega), A.2.1]
theorem i_vc_accepted {k : Nat} {u : SX} {v : SY} (I : i_Rel k u v) (hk : k + 5 ≤ 2561) (v1 : Int32) : wpX_accepted (fun r => wpY_accepted (fun r' => r' = r ∧ i_Rel (k + 5) u v) v v1) u v1 := by
  have I' := I
  obtain ⟨w, nu, he, gr, so, ha, vc, vd, rfl, rfl, hw, HL, HV⟩ := I
  unfold wpX_accepted wpY_accepted
  dsimp only
  rcases es_lines v1 with b | ⟨l, hl, rfl⟩
  · exact es_xb b (es_yb b ⟨rfl, I'⟩)
  · have i4 : vp_in (nI l) 4 := vp_in_nI hl (by omega)
    exact es_xl hl ⟨i4, es_yl hl ⟨i4, rfl, I'⟩⟩
theorem i_vc_dead {k : Nat} {u : SX} {v : SY} (I : i_Rel k u v) (hk : k + 5 ≤ 2561) (v1 : Int32) : wpX_dead (fun r => wpY_dead (fun r' => r' = r ∧ i_Rel (k + 5) u v) v v1) u v1 := by
  have I' := I
  obtain ⟨w, nu, he, gr, so, ha, vc, vd, rfl, rfl, hw, HL, HV⟩ := I
  unfold wpX_dead wpY_dead
  dsimp only
  rcases es_lines v1 with b | ⟨l, hl, rfl⟩
  · exact es_xb b (es_yb b ⟨rfl, I'⟩)
  · have i4 : vp_in (nI l) 4 := vp_in_nI hl (by omega)
    obtain ⟨h, hd, c, A⟩ := HL l hl
    have hh := A.2.2.2.2.1
    have h60 := A.2.2.2.1
    refine es_xl hl (es_xDead A hl (fun t => br_f (by decide) (es_yl hl ⟨i4, i4, ?_⟩)) (fun t => br_t rfl (es_yl hl ⟨i4, i4, ?_⟩)))
    · rw [nI_clamp (n := l) (by omega), A.1, A.2.2.1]
      exact br_f (nI_nlt t (by omega)) ⟨rfl, I'⟩
    · rw [nI_clamp (n := l) (by omega), A.1, A.2.2.1]
      exact br_t (nI_lt t (by omega)) ⟨rfl, I'⟩
theorem i_vc_aging {k : Nat} {u : SX} {v : SY} (I : i_Rel k u v) (hk : k + 5 ≤ 2561) (v1 : Int32) : wpX_aging (fun r => wpY_aging (fun r' => r' = r ∧ i_Rel (k + 5) u v) v v1) u v1 := by
  have I' := I
  obtain ⟨w, nu, he, gr, so, ha, vc, vd, rfl, rfl, hw, HL, HV⟩ := I
  unfold wpX_aging wpY_aging
  dsimp only
  rcases es_lines v1 with b | ⟨l, hl, rfl⟩
  · exact es_xb b (es_yb b ⟨rfl, I'⟩)
  · have i4 : vp_in (nI l) 4 := vp_in_nI hl (by omega)
    exact es_xl hl ⟨i4, i4, br_c (fun t => es_yl hl ⟨i4, i4, br_t t ⟨rfl, I'⟩⟩) (fun t => es_yl hl ⟨i4, i4, br_f t ⟨rfl, I'⟩⟩)⟩
theorem i_vc_count {k : Nat} {u : SX} {v : SY} (I : i_Rel k u v) (hk : k + 5 ≤ 2561) (v1 : Int32) (v2 : Int32) : wpX_count (fun r => wpY_count (fun r' => r' = r ∧ i_Rel (k + 5) u v) v v1 v2) u v1 v2 := by
  have I' := I
  obtain ⟨w, nu, he, gr, so, ha, vc, vd, rfl, rfl, hw, HL, HV⟩ := I
  unfold wpX_count wpY_count
  dsimp only
  rcases es_lines v1 with b | ⟨l, hl, rfl⟩
  · exact es_xb b (es_yb b ⟨rfl, I'⟩)
  · refine es_xl hl ?_
    by_cases q1 : v2 < 1
    · exact br_t q1 (es_yl hl (br_t q1 ⟨rfl, I'⟩))
    · refine br_f q1 ?_
      by_cases q2 : v2 ≤ 5
      · have p : ¬ v2 < 0 := fun t => q1 (Int32.lt_trans t (by decide))
        obtain ⟨j, hj, rfl⟩ := nI_of2 (M := 5) (n := 5) (by decide) p q2
        cases j with
        | zero => exact absurd (by decide) q1
        | succ j =>
          refine br_t q2 ?_
          unfold wpX_verdictPlace
          dsimp only
          rw [es_i5, nI_clamp (n := 5 * l + j) (by omega)]
          refine ⟨vp_in_nI (by omega) (by omega), es_yl hl (br_f q1 (br_t q2 ?_))⟩
          rw [es_i8, nI_clamp (n := 8 * l + (j + 1)) (by omega)]
          exact ⟨vp_in_nI (by omega) (by omega), (HV l hl j (by omega)).symm, I'⟩
      · exact br_f q2 (es_yl hl (br_f q1 (br_f q2 ⟨rfl, I'⟩)))
theorem i_vc_numberFor {k : Nat} {u : SX} {v : SY} (I : i_Rel k u v) (hk : k + 5 ≤ 2561) (v1 : Int32) (v2 : Int32) : wpX_numberFor (fun r => wpY_numberFor (fun r' => r' = r ∧ i_Rel (k + 5) u v) v v1 v2) u v1 v2 := by
  have I' := I
  obtain ⟨w, nu, he, gr, so, ha, vc, vd, rfl, rfl, hw, HL, HV⟩ := I
  unfold wpX_numberFor wpY_numberFor
  dsimp only
  rcases es_lines v1 with b | ⟨l, hl, rfl⟩
  · exact es_xb b (es_yb b ⟨rfl, I'⟩)
  · refine es_xl hl ?_
    rcases es_lows v2 with b | ⟨lw, hlw, rfl⟩
    · exact es_xlb b (es_yl hl (es_ylb b ⟨rfl, I'⟩))
    · obtain ⟨h, hd, c, A⟩ := HL l hl
      exact es_xlo hlw (es_xTaken A hl (es_yl hl (es_ylo hlw (es_yTaken A hl hw hlw ⟨rfl, I'⟩))))
theorem i_vc_has {k : Nat} {u : SX} {v : SY} (I : i_Rel k u v) (hk : k + 5 ≤ 2561) (v1 : Int32) (v2 : Int32) : wpX_has (fun r => wpY_has (fun r' => r' = r ∧ i_Rel (k + 5) u v) v v1 v2) u v1 v2 := by
  have I' := I
  obtain ⟨w, nu, he, gr, so, ha, vc, vd, rfl, rfl, hw, HL, HV⟩ := I
  unfold wpX_has wpY_has
  dsimp only
  rcases es_lines v1 with b | ⟨l, hl, rfl⟩
  · exact es_xb b (es_yb b ⟨rfl, I'⟩)
  · obtain ⟨h, hd, c, A⟩ := HL l hl
    have hh := A.2.2.2.2.1
    refine es_xl hl (es_xAcc hl A.1 hh (fun t => br_f (by decide) ?_) (fun t => br_t rfl ?_))
    · exact es_yl hl (es_yHold hl A.1 hh (fun _ => br_f (by decide) ⟨rfl, I'⟩) (fun s => absurd t s))
    · exact es_yl hl (es_yHold hl A.1 hh (fun s => absurd s t) (fun _ => br_t rfl ⟨rfl, I'⟩))
theorem i_vc_inWindow {k : Nat} {u : SX} {v : SY} (I : i_Rel k u v) (hk : k + 5 ≤ 2561) (v1 : Int32) : wpX_inWindow (fun r => wpY_inWindow (fun r' => r' = r ∧ i_Rel (k + 5) u v) v v1) u v1 := by
  have I' := I
  obtain ⟨w, nu, he, gr, so, ha, vc, vd, rfl, rfl, hw, HL, HV⟩ := I
  unfold wpX_inWindow wpY_inWindow
  dsimp only
  rcases es_lines v1 with b | ⟨l, hl, rfl⟩
  · exact es_xb b (es_yb b ⟨rfl, I'⟩)
  · obtain ⟨h, hd, c, A⟩ := HL l hl
    have b := es_st_sm A hw
    refine es_xl hl ⟨vp_in_nI hl (by omega), es_xBelow A hl hw (es_yl hl (es_yGreat A hl ?_))⟩
    have e : nI (es_mx c h) - nI w + 1 = es_z (es_st (es_mx c h) w) := by
      rw [es_nI, es_nI, es_1, es_sub, es_add]
      rfl
    refine nm_r e ⟨w + 1, es_yInL (lo := es_lo c (es_st (es_mx c h) w) h) A hl ⟨?_, I'⟩ w 0 _ (by unfold es_st; omega) (by omega) (by omega)⟩
    rw [nI_clamp (n := l) (by omega), A.1, es_nI, es_nI, es_sub]
theorem i_vc_lost {k : Nat} {u : SX} {v : SY} (I : i_Rel k u v) (hk : k + 5 ≤ 2561) (v1 : Int32) : wpX_lost (fun r => wpY_lost (fun r' => r' = r ∧ i_Rel (k + 5) u v) v v1) u v1 := by
  have I' := I
  obtain ⟨w, nu, he, gr, so, ha, vc, vd, rfl, rfl, hw, HL, HV⟩ := I
  unfold wpX_lost wpY_lost
  dsimp only
  rcases es_lines v1 with b | ⟨l, hl, rfl⟩
  · exact es_xb b (es_yb b ⟨rfl, I'⟩)
  · obtain ⟨h, hd, c, A⟩ := HL l hl
    have L := A.2.2.2.2
    have m := es_Ln_m L
    obtain ⟨bh, eb⟩ : ∃ bh : Int, bh = (es_mx c h : Int) - w := ⟨_, rfl⟩
    have es : es_st (es_mx c h) w = bh + 1 := by unfold es_st; omega
    have sb : es_sm bh := ⟨by omega, by omega⟩
    have e1 : es_z (es_st (es_mx c h) w) - 1 = es_z bh := by rw [es, es_1, es_sub, show bh + 1 - 1 = bh by omega]
    have e2 : nI (es_mx c h) - nI w = es_z bh := by rw [es_nI, es_nI, es_sub, eb]
    have o1 : (1 : Int32) ≤ es_z bh ↔ 1 ≤ bh := by rw [es_1, es_le ⟨by omega, by omega⟩ sb]
    have o0 : (0 : Int32) ≤ es_z bh ↔ 0 ≤ bh := by rw [es_0, es_le ⟨by omega, by omega⟩ sb]
    refine es_xl hl (es_xStart A hl (nm_r e1 ?_))
    by_cases q : 1 ≤ bh
    · refine br_t (o1.mpr q) (es_xBelow A hl hw (es_yl hl (es_yGreat A hl (nm_r e2 (br_t (o0.mpr (by omega)) ⟨h + 1, ?_⟩)))))
      have H := es_yLostL (w := w) (so := so) (vd := vd) (n0 := bh) (bh := bh) (post := fun r' => r' = es_z bh - nI (es_lo c (es_st (es_mx c h) w) h) ∧ i_Rel (k + 5) (nI w, nu, he, gr, so, ha, vc) (nI w, nu, he, so, ha, vd)) A hl ⟨by omega, by omega⟩ ⟨by rw [es, es_nI, es_sub], I'⟩ h 0 (by omega)
      rw [show (bh - ((es_lo c (bh + 1) 0 : Nat) : Int)) = bh by show bh - ((0 : Nat) : Int) = bh; omega] at H
      exact H
    · refine br_f (fun t => q (o1.mp t)) (es_yl hl (es_yGreat A hl (nm_r e2 ?_)))
      have lo : es_lo c (bh + 1) h = 0 := es_lo_no c (bh + 1) h (fun i hi => by have := (L.2.1 i hi).2; omega)
      have H := es_yLostL (w := w) (so := so) (vd := vd) (n0 := 0) (bh := bh) (post := fun r' => r' = 0 ∧ i_Rel (k + 5) (nI w, nu, he, gr, so, ha, vc) (nI w, nu, he, so, ha, vd)) A hl ⟨by omega, by omega⟩ ⟨by rw [lo]; rfl, I'⟩ h 0 (by omega)
      rw [show ((0 : Int) - ((es_lo c (bh + 1) 0 : Nat) : Int)) = 0 from rfl] at H
      by_cases q0 : 0 ≤ bh
      · refine br_t (o0.mpr q0) ⟨h + 1, ?_⟩
        have e0 : bh = 0 := by omega
        subst e0
        exact H
      · exact br_f (fun t => q0 (o0.mp t)) ⟨h + 1, H⟩
theorem i_vc_gap {k : Nat} {u : SX} {v : SY} (I : i_Rel k u v) (hk : k + 5 ≤ 2561) (v1 : Int32) : wpX_gap (fun r => wpY_gap (fun r' => r' = r ∧ i_Rel (k + 5) u v) v v1) u v1 := by
  have I' := I
  obtain ⟨w, nu, he, gr, so, ha, vc, vd, rfl, rfl, hw, HL, HV⟩ := I
  unfold wpX_gap wpY_gap
  dsimp only
  rcases es_lines v1 with b | ⟨l, hl, rfl⟩
  · exact es_xb b (es_yb b ⟨rfl, I'⟩)
  · obtain ⟨h, hd, c, A⟩ := HL l hl
    have L := A.2.2.2.2
    have m := es_Ln_m L
    have b := es_st_sm A hw
    have bs : es_st (es_mx c h) w = (es_mx c h : Int) - w + 1 := rfl
    have i4 : vp_in (nI l) 4 := vp_in_nI hl (by omega)
    have e1 : nI (es_mx c h) - 1 = es_z ((es_mx c h : Int) - 1) := by rw [es_nI, es_1, es_sub]
    have e2 : gr (nI l).toNatClampNeg - 1 = es_z ((es_mx c h : Int) - 1) := by rw [nI_clamp (n := l) (by omega), A.2.1, e1]
    have o1 : (1 : Int32) ≤ es_z (es_st (es_mx c h) w) ↔ 1 ≤ es_st (es_mx c h) w := by rw [es_1, es_le ⟨by omega, by omega⟩ ⟨by omega, by omega⟩]
    refine es_xl hl (es_xStart A hl ?_)
    by_cases q : 1 ≤ es_st (es_mx c h) w
    · obtain ⟨r, hX, hY⟩ := es_gaps (so := so) (vc := vc) (vd := vd) A hl hw (Or.inr ⟨rfl, q⟩) 64 ((es_mx c h : Int) - 1) (by omega) (by omega) (by omega)
      refine br_t (o1.mpr q) ?_
      unfold wX_gap_25
      exact ⟨i4, nm_r e2 ⟨64 + 1, hX _ (es_yl hl (es_yGreat A hl (nm_r e1 ⟨64 + 1, hY _ ⟨rfl, I'⟩⟩)))⟩⟩
    · obtain ⟨r, hX, hY⟩ := es_gaps (so := so) (vc := vc) (vd := vd) A hl hw (Or.inl ⟨rfl, by omega⟩) 64 ((es_mx c h : Int) - 1) (by omega) (by omega) (by omega)
      rw [← es_1] at hX
      refine br_f (fun t => q (o1.mp t)) ?_
      unfold wX_gap_25
      exact ⟨i4, nm_r e2 ⟨64 + 1, hX _ (es_yl hl (es_yGreat A hl (nm_r e1 ⟨64 + 1, hY _ ⟨rfl, I'⟩⟩)))⟩⟩
end
end
