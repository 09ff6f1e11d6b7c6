section
/-- what holds of a line's h numbers c, kept in nu -/
def es_Ln (nu : Nat → Int32) (l h : Nat) (c : Nat → Nat) : Prop :=
  h ≤ 60 ∧ (∀ i, i < h → nu (60 * l + i) = nI (c i) ∧ 1 ≤ c i) ∧ (∀ i j, i < j → j < h → c i ≠ c j) ∧ es_mx c h ≤ 256 * h
/-- line l, as the arrays have it -/
def es_At (nu he gr ha : Nat → Int32) (l h hd : Nat) (c : Nat → Nat) : Prop :=
  he l = nI h ∧ gr l = nI (es_mx c h) ∧ ha l = nI hd ∧ hd ≤ 60 ∧ es_Ln nu l h c
def es_L (nu he gr ha : Nat → Int32) : Prop := ∀ l, l < 4 → ∃ h hd c, es_At nu he gr ha l h hd c
/-- the counts of verdicts, five a line here and eight a line there -/
def es_V (vc vd : Nat → Int32) : Prop := ∀ l, l < 4 → ∀ j, j < 5 → vc (5 * l + j) = vd (8 * l + (j + 1))

theorem es_Ln_c {nu : Nat → Int32} {l h : Nat} {c : Nat → Nat} (H : es_Ln nu l h c) {i : Nat} (hi : i < h) : c i ≤ 15360 := by
  obtain ⟨h1, _, _, h4⟩ := H
  have := es_mx_le c h i hi
  omega
theorem es_Ln_m {nu : Nat → Int32} {l h : Nat} {c : Nat → Nat} (H : es_Ln nu l h c) : es_mx c h ≤ 15360 := by
  obtain ⟨h1, _, _, h4⟩ := H
  omega
/-- the array holds the int of z just if z is one of the numbers -/
theorem es_hold {nu : Nat → Int32} {l h : Nat} {c : Nat → Nat} (H : es_Ln nu l h c) {z : Int} (hz : es_sm z) : (∃ i, i < h ∧ nu (60 * l + i) = es_z z) ↔ es_in c h z := by
  constructor
  · intro ⟨i, hi, e⟩
    have hc := es_Ln_c H hi
    rw [(H.2.1 i hi).1, es_nI, es_eq ⟨by omega, by omega⟩ hz] at e
    exact ⟨i, hi, e⟩
  · intro ⟨i, hi, e⟩
    refine ⟨i, hi, ?_⟩
    rw [(H.2.1 i hi).1, es_nI, e]

theorem es_L_acc {nu he gr ha gr' : Nat → Int32} (H : es_L nu he gr ha) {l h hd n : Nat} {c : Nat → Nat} (hl : l < 4)
    (A : es_At nu he gr ha l h hd c) (hh : h < 60) (h1 : 1 ≤ n) (hn : ¬ es_in c h n) (hb : n ≤ 256 * (h + 1))
    (g1 : gr' l = nI (if es_mx c h < n then n else es_mx c h)) (g2 : ∀ m, m ≠ l → gr' m = gr m) :
    es_L (upd nu (60 * l + h) (nI n)) (upd he l (nI (h + 1))) gr' ha := by
  intro m hm
  by_cases e : m = l
  · subst e
    obtain ⟨a1, a2, a3, a4, a5, a6, a7, a8⟩ := A
    refine ⟨h + 1, hd, fun i => if i = h then n else c i, ?_⟩
    have cg : es_mx (fun i => if i = h then n else c i) h = es_mx c h :=
      es_mx_cg h (fun i hi => if_neg (by omega))
    have cs : es_mx (fun i => if i = h then n else c i) (h + 1) = if es_mx c h < n then n else es_mx c h := by
      show (if es_mx (fun i => if i = h then n else c i) h < (if h = h then n else c h) then (if h = h then n else c h) else es_mx (fun i => if i = h then n else c i) h) = _
      rw [cg, if_pos (rfl : h = h)]
    refine ⟨pk_us, by rw [g1, cs], a3, a4, by omega, ?_, ?_, ?_⟩
    · intro i hi
      by_cases q : i = h
      · subst q
        refine ⟨?_, ?_⟩
        · show upd nu (60 * m + i) (nI n) (60 * m + i) = nI (if i = i then n else c i)
          rw [pk_us, if_pos rfl]
        · show 1 ≤ if i = i then n else c i
          rw [if_pos rfl]; exact h1
      · refine ⟨?_, ?_⟩
        · show upd nu (60 * m + h) (nI n) (60 * m + i) = nI (if i = h then n else c i)
          rw [pk_un (by omega), if_neg q]; exact (a6 i (by omega)).1
        · show 1 ≤ if i = h then n else c i
          rw [if_neg q]; exact (a6 i (by omega)).2
    · intro i j hij hj
      show (if i = h then n else c i) ≠ (if j = h then n else c j)
      by_cases q : j = h
      · rw [if_pos q, if_neg (by omega)]
        intro e
        exact hn ⟨i, by omega, by omega⟩
      · rw [if_neg q, if_neg (by omega)]
        exact a7 i j hij (by omega)
    · rw [cs]
      split <;> omega
  · obtain ⟨k, kd, d, b1, b2, b3, b4, b5, b6, b7, b8⟩ := H m hm
    refine ⟨k, kd, d, ?_, ?_, b3, b4, b5, ?_, b7, b8⟩
    · rw [pk_un e]; exact b1
    · rw [g2 m e]; exact b2
    · intro i hi
      rw [pk_un (by omega)]; exact b6 i hi
theorem es_L_key {nu he gr ha : Nat → Int32} (H : es_L nu he gr ha) {l : Nat} (hl : l < 4) :
    es_L nu (upd he l 0) (upd gr l 0) ha := by
  intro m hm
  obtain ⟨k, kd, d, b1, b2, b3, b4, b5, b6, b7, b8⟩ := H m hm
  by_cases e : m = l
  · subst e
    exact ⟨0, kd, d, pk_us, pk_us, b3, b4, by omega, fun i hi => absurd hi (by omega), fun i j _ hj => absurd hj (by omega), Nat.le_refl _⟩
  · exact ⟨k, kd, d, by rw [pk_un e]; exact b1, by rw [pk_un e]; exact b2, b3, b4, b5, b6, b7, b8⟩
theorem es_L_lim {nu he gr ha : Nat → Int32} (H : es_L nu he gr ha) {l hd : Nat} (hl : l < 4) (hb : hd ≤ 60) :
    es_L nu he gr (upd ha l (nI hd)) := by
  intro m hm
  obtain ⟨k, kd, d, b1, b2, b3, b4, b5⟩ := H m hm
  by_cases e : m = l
  · subst e
    exact ⟨k, hd, d, b1, b2, pk_us, hb, b5⟩
  · exact ⟨k, kd, d, b1, b2, by rw [pk_un e]; exact b3, b4, b5⟩
theorem es_V_up {vc vd : Nat → Int32} (H : es_V vc vd) {l j : Nat} (hl : l < 4) (hj : j < 5) :
    es_V (upd vc (5 * l + j) (vc (5 * l + j) + 1)) (upd vd (8 * l + (j + 1)) (vd (8 * l + (j + 1)) + 1)) := by
  intro m hm i hi
  by_cases e : 5 * m + i = 5 * l + j
  · have e1 : m = l := by omega
    subst e1
    have e2 : i = j := by omega
    subst e2
    rw [pk_us, pk_us, H m hm i hi]
  · rw [pk_un e, pk_un (by omega)]
    exact H m hm i hi
end
