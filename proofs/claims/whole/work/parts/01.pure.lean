section
theorem pk_us {f : Nat → Int32} {k : Nat} {x : Int32} : upd f k x k = x := if_pos rfl
theorem pk_un {f : Nat → Int32} {k j : Nat} {x : Int32} (h : j ≠ k) : upd f k x j = f j := if_neg h
theorem pk_mul (a b : Nat) : nI a * nI b = nI (a * b) := (Int32.ofNat_mul a b).symm
theorem pk_tn {n : Nat} (h : n < 2 ^ 32) : (nI n).toBitVec.toNat = n := Nat.mod_eq_of_lt h
theorem pk_and (x : Int32) {m : Int32} (k : Nat) (hm : m.toBitVec.toNat = 2 ^ k - 1) : x &&& m = nI (x.toBitVec.toNat % 2 ^ k) := by
  apply Int32.toBitVec_inj.mp
  apply BitVec.eq_of_toNat_eq
  rw [Int32.toBitVec_and, BitVec.toNat_and, hm, Nat.and_two_pow_sub_one_eq_mod]
  show _ = (BitVec.ofNat 32 _).toNat
  rw [BitVec.toNat_ofNat]
  exact (Nat.mod_eq_of_lt (Nat.lt_of_le_of_lt (Nat.mod_le _ _) x.toBitVec.isLt)).symm

/-- an int of a whole number -/
def es_z (z : Int) : Int32 := Int32.ofInt z
/-- small: far from the ends of the ints -/
def es_sm (z : Int) : Prop := -1000000 ≤ z ∧ z ≤ 1000000
theorem es_nI (n : Nat) : nI n = es_z n := Int32.ofInt_eq_ofNat.symm
theorem es_int {z : Int} (h : es_sm z) : (es_z z).toInt = z := by
  obtain ⟨h1, h2⟩ := h
  exact Int32.toInt_ofInt_of_le (by omega) (by omega)
theorem es_le {a b : Int} (ha : es_sm a) (hb : es_sm b) : es_z a ≤ es_z b ↔ a ≤ b := by
  rw [Int32.le_iff_toInt_le, es_int ha, es_int hb]
theorem es_lt {a b : Int} (ha : es_sm a) (hb : es_sm b) : es_z a < es_z b ↔ a < b := by
  rw [Int32.lt_iff_toInt_lt, es_int ha, es_int hb]
theorem es_eq {a b : Int} (ha : es_sm a) (hb : es_sm b) : es_z a = es_z b ↔ a = b := by
  rw [← Int32.toInt_inj, es_int ha, es_int hb]
theorem es_add (a b : Int) : es_z a + es_z b = es_z (a + b) := (Int32.ofInt_add a b).symm
theorem es_sub (a b : Int) : es_z a - es_z b = es_z (a - b) := (Int32.ofInt_sub a b).symm
theorem es_1 : (1 : Int32) = es_z 1 := by decide
theorem es_0 : (0 : Int32) = es_z 0 := by decide
theorem es_m1 : (-1 : Int32) = es_z (-1) := by decide
theorem es_and (z : Int) : es_z z &&& 255 = es_z (z % 256) := by
  rw [pk_and (es_z z) (m := 255) 8 (by decide)]
  have e : (es_z z).toBitVec.toNat = (z % 4294967296).toNat := by
    show (BitVec.ofInt 32 z).toNat = _
    rw [BitVec.toNat_ofInt]
    rfl
  have e2 : (((z % 4294967296).toNat % 2 ^ 8 : Nat) : Int) = z % 256 := by omega
  rw [e, es_nI, e2]
theorem es_andE (x : Int32) : ∃ j : Nat, j < 256 ∧ x &&& 255 = nI j :=
  ⟨_, Nat.mod_lt _ (by decide), pk_and x (m := 255) 8 (by decide)⟩

/-- the greatest of the first h numbers, 0 if there is none -/
def es_mx (c : Nat → Nat) : Nat → Nat
  | 0 => 0
  | h + 1 => if es_mx c h < c h then c h else es_mx c h
theorem es_mx_le (c : Nat → Nat) : ∀ h i, i < h → c i ≤ es_mx c h := by
  intro h
  induction h with
  | zero => intro i hi; omega
  | succ h ih =>
    intro i hi
    show c i ≤ if es_mx c h < c h then c h else es_mx c h
    by_cases e : i = h
    · subst e
      split <;> omega
    · have := ih i (by omega)
      split <;> omega
theorem es_mx_cg {c d : Nat → Nat} : ∀ h, (∀ i, i < h → c i = d i) → es_mx c h = es_mx d h := by
  intro h
  induction h with
  | zero => intro _; rfl
  | succ h ih =>
    intro e
    show (if es_mx c h < c h then c h else es_mx c h) = if es_mx d h < d h then d h else es_mx d h
    rw [ih (fun i hi => e i (by omega)), e h (by omega)]

/-- how many of the first h numbers are below a -/
def es_lo (c : Nat → Nat) (a : Int) : Nat → Nat
  | 0 => 0
  | h + 1 => es_lo c a h + if (c h : Int) < a then 1 else 0
/-- how many of the first h numbers are s -/
def es_ct (c : Nat → Nat) (s : Int) : Nat → Nat
  | 0 => 0
  | h + 1 => es_ct c s h + if (c h : Int) = s then 1 else 0
theorem es_lo_le (c : Nat → Nat) (a : Int) : ∀ h, es_lo c a h ≤ h := by
  intro h
  induction h with
  | zero => exact Nat.le_refl _
  | succ h ih =>
    show es_lo c a h + (if (c h : Int) < a then 1 else 0) ≤ h + 1
    split <;> omega
theorem es_lo_s (c : Nat → Nat) (a : Int) : ∀ h, es_lo c (a + 1) h = es_lo c a h + es_ct c a h := by
  intro h
  induction h with
  | zero => rfl
  | succ h ih =>
    show es_lo c (a + 1) h + (if (c h : Int) < a + 1 then 1 else 0) = es_lo c a h + (if (c h : Int) < a then 1 else 0) + (es_ct c a h + if (c h : Int) = a then 1 else 0)
    rw [ih]
    by_cases h1 : (c h : Int) < a
    · rw [if_pos h1, if_pos (by omega), if_neg (by omega)]; omega
    · by_cases h2 : (c h : Int) = a
      · rw [if_neg h1, if_pos (by omega), if_pos h2]; omega
      · rw [if_neg h1, if_neg (by omega), if_neg h2]; omega
theorem es_lo_all (c : Nat → Nat) (a : Int) : ∀ h, (∀ i, i < h → (c i : Int) < a) → es_lo c a h = h := by
  intro h
  induction h with
  | zero => intro _; rfl
  | succ h ih =>
    intro H
    show es_lo c a h + (if (c h : Int) < a then 1 else 0) = h + 1
    rw [ih (fun i hi => H i (by omega)), if_pos (H h (by omega))]
theorem es_lo_no (c : Nat → Nat) (a : Int) : ∀ h, (∀ i, i < h → ¬ (c i : Int) < a) → es_lo c a h = 0 := by
  intro h
  induction h with
  | zero => intro _; rfl
  | succ h ih =>
    intro H
    show es_lo c a h + (if (c h : Int) < a then 1 else 0) = 0
    rw [ih (fun i hi => H i (by omega)), if_neg (H h (by omega))]
/-- s is one of the first h numbers -/
def es_in (c : Nat → Nat) (h : Nat) (s : Int) : Prop := ∃ i, i < h ∧ (c i : Int) = s
theorem es_ct_no (c : Nat → Nat) (s : Int) : ∀ h, ¬ es_in c h s → es_ct c s h = 0 := by
  intro h
  induction h with
  | zero => intro _; rfl
  | succ h ih =>
    intro H
    show es_ct c s h + (if (c h : Int) = s then 1 else 0) = 0
    have hn : ¬ (c h : Int) = s := fun e => H ⟨h, by omega, e⟩
    rw [ih (fun ⟨i, hi, e⟩ => H ⟨i, by omega, e⟩), if_neg hn]
theorem es_ct_in (c : Nat → Nat) (s : Int) : ∀ h, (∀ i j, i < j → j < h → c i ≠ c j) → es_in c h s → es_ct c s h = 1 := by
  intro h
  induction h with
  | zero => intro _ ⟨i, hi, _⟩; omega
  | succ h ih =>
    intro D H
    show es_ct c s h + (if (c h : Int) = s then 1 else 0) = 1
    by_cases e : (c h : Int) = s
    · rw [if_pos e, es_ct_no c s h (fun ⟨i, hi, ei⟩ => D i h hi (by omega) (by omega))]
    · rw [if_neg e]
      obtain ⟨i, hi, ei⟩ := H
      have hih : i < h := by
        by_cases q : i = h
        · subst q; exact absurd ei e
        · omega
      rw [ih (fun i j hij hj => D i j hij (by omega)) ⟨i, hih, ei⟩]
end
