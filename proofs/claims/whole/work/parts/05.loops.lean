section
variable {w l h hd : Nat} {c : Nat → Nat} {nu he gr so ha vc vd : Nat → Int32}

/-- a burst, in lockstep -/
theorem es_bursts (hw : 4 ≤ w ∧ w ≤ 64) (hl : l < 4) (x2 x3 : Int32) {cn : Nat} (hc : cn ≤ 40) : ∀ (d i : Nat) (g : Int32) (nu he gr vc vd : Nat → Int32), i + d = cn →
    es_L nu he gr ha → es_V vc vd →
    ∃ (r : Int32) (nu' he' gr' vc' vd' : Nat → Int32), es_L nu' he' gr' ha ∧ es_V vc' vd' ∧
      (∀ post : Int32 → SX → Prop, post r (nI w, nu', he', gr', so, ha, vc') → wX_burst_56 post (nI l) x2 x3 (nI cn) (d + 1) g (nI i) (nI w) nu he gr so ha vc) ∧
      (∀ post : Int32 → SY → Prop, post r (nI w, nu', he', so, ha, vd') → wY_burst_61 post (nI l) x2 x3 (nI cn) (d + 1) g (nI i) (nI w) nu he so ha vd) := by
  intro d
  induction d with
  | zero =>
    intro i g nu he gr vc vd hi HL HV
    have e : nI cn ≤ nI i := nI_le (by omega) (by omega)
    exact ⟨g, nu, he, gr, vc, vd, HL, HV, fun post k => br_t e k, fun post k => br_t e k⟩
  | succ d ih =>
    intro i g nu he gr vc vd hi HL HV
    have e : ¬ nI cn ≤ nI i := nI_ge (by omega) (by omega)
    obtain ⟨j, hj, ej⟩ := es_andE (x2 + nI i * x3)
    obtain ⟨r, nu1, he1, gr1, vc1, vd1, HL1, HV1, hX, hY⟩ := es_pkt (so := so) hw HL HV hl hj 1 1 Iff.rfl
    by_cases q : r = 1
    · obtain ⟨r2, nu2, he2, gr2, vc2, vd2, HL2, HV2, hX2, hY2⟩ := ih (i + 1) (g + 1) nu1 he1 gr1 vc1 vd1 (by omega) HL1 HV1
      refine ⟨r2, nu2, he2, gr2, vc2, vd2, HL2, HV2, fun post k => br_f e ?_, fun post k => br_f e ?_⟩
      · rw [ej]
        exact hX _ (br_t q (nm_e (nm_r (nI_1 i) (hX2 post k))))
      · rw [ej]
        exact hY _ (br_t q (nm_e (nm_r (nI_1 i) (hY2 post k))))
    · obtain ⟨r2, nu2, he2, gr2, vc2, vd2, HL2, HV2, hX2, hY2⟩ := ih (i + 1) g nu1 he1 gr1 vc1 vd1 (by omega) HL1 HV1
      refine ⟨r2, nu2, he2, gr2, vc2, vd2, HL2, HV2, fun post k => br_f e ?_, fun post k => br_f e ?_⟩
      · rw [ej]
        exact hX _ (br_f q (nm_r (nI_1 i) (hX2 post k)))
      · rw [ej]
        exact hY _ (br_f q (nm_r (nI_1 i) (hY2 post k)))

theorem es_xBelowL (A : es_At nu he gr ha l h hd c) (hl : l < 4) {st : Int} (hs : es_sm st) {post : Int32 → Prop} (k : post (nI (es_lo c st h))) :
    ∀ d i, i + d = h → wX_acceptedBelowWindow_17 post (nI l) (es_z st) (nI (60 * l)) (nI w) nu he gr so ha vc (d + 1) (nI (es_lo c st i)) (nI i) := by
  obtain ⟨a1, a2, a3, a4, L⟩ := A
  have hh : h ≤ 60 := L.1
  intro d
  induction d with
  | zero =>
    intro i hi
    refine ⟨vp_in_nI hl (by omega), ?_⟩
    rw [nI_clamp (n := l) (by omega), a1]
    have e : i = h := by omega
    subst e
    exact br_t (nI_le (by omega) (by omega)) k
  | succ d ih =>
    intro i hi
    refine ⟨vp_in_nI hl (by omega), ?_⟩
    rw [nI_clamp (n := l) (by omega), a1]
    refine br_f (nI_ge (by omega) (by omega)) ?_
    rw [nI_add (60 * l) i, nI_clamp (n := 60 * l + i) (by omega), (L.2.1 i (by omega)).1]
    refine ⟨vp_in_nI (by omega) (by omega), ?_⟩
    have b1 : c i ≤ 15360 := es_Ln_c L (by omega)
    have H := ih (i + 1) (by omega)
    have es : es_lo c st (i + 1) = es_lo c st i + if (c i : Int) < st then 1 else 0 := rfl
    have o : es_z st ≤ nI (c i) ↔ st ≤ c i := by rw [es_nI, es_le hs ⟨by omega, by omega⟩]
    by_cases q : (c i : Int) < st
    · rw [es, if_pos q] at H
      exact br_f (fun t => by have := o.mp t; omega) (nm_r (nI_1 _) (nm_r (nI_1 i) H))
    · rw [es, if_neg q] at H
      exact br_t (o.mpr (by omega)) (nm_r (nI_1 i) H)
theorem es_xBelow (A : es_At nu he gr ha l h hd c) (hl : l < 4) (hw : 4 ≤ w ∧ w ≤ 64) {post : Int32 → Prop} (k : post (nI (es_lo c (es_st (es_mx c h) w) h))) :
    wpX_acceptedBelowWindow post (nI w, nu, he, gr, so, ha, vc) (nI l) := by
  unfold wpX_acceptedBelowWindow
  dsimp only
  refine es_xStart A hl ?_
  have b := es_st_sm A hw
  exact nm_r (es_60 l) ⟨h + 1, es_xBelowL A hl ⟨by omega, by omega⟩ k h 0 (by omega)⟩

theorem es_yInL (A : es_At nu he gr ha l h hd c) (hl : l < 4) {lo : Nat} {post : Int32 → Prop} (k : post (es_z ((h : Int) - lo))) :
    ∀ (d n : Nat) (s : Int), s + d = es_mx c h + 1 → -100 ≤ s → n + lo = es_lo c s h → wY_inWindow_28 post (nI l) (nI (es_mx c h)) (nI w) nu he so ha vd (d + 1) (nI n) (es_z s) := by
  have L := A.2.2.2.2
  have m := es_Ln_m L
  intro d
  induction d with
  | zero =>
    intro n s hs h0 hn
    have o : nI (es_mx c h) < es_z s := by
      rw [es_nI, es_lt ⟨by omega, by omega⟩ ⟨by omega, by omega⟩]
      omega
    have e : es_lo c s h = h := es_lo_all c s h (fun i hi => by have := es_mx_le c h i hi; omega)
    refine br_t o ?_
    rw [es_nI, show ((n : Nat) : Int) = (h : Int) - lo by omega]
    exact k
  | succ d ih =>
    intro n s hs h0 hn
    have sm : es_sm s := ⟨by omega, by omega⟩
    have o : ¬ nI (es_mx c h) < es_z s := by
      rw [es_nI, es_lt ⟨by omega, by omega⟩ sm]
      omega
    have e1 : es_z s + 1 = es_z (s + 1) := by rw [es_1, es_add]
    have lo1 := es_lo_s c s h
    refine br_f o (es_yHold hl A.1 L.1 (fun t => br_f (by decide) ?_) (fun t => br_t rfl ?_))
    · have q := es_ct_in c s h L.2.2.1 ((es_hold L sm).mp t)
      exact nm_r (nI_1 n) (nm_r e1 (ih (n + 1) (s + 1) (by omega) (by omega) (by omega)))
    · have q := es_ct_no c s h (fun u => t ((es_hold L sm).mpr u))
      exact nm_r e1 (ih n (s + 1) (by omega) (by omega) (by omega))

theorem es_yLostL (A : es_At nu he gr ha l h hd c) (hl : l < 4) {bh n0 : Int} (hs : -100 ≤ bh ∧ bh ≤ 20000) {post : Int32 → Prop} (k : post (es_z (n0 - es_lo c (bh + 1) h))) :
    ∀ d i, i + d = h → wY_lost_34 post (nI l) (es_z bh) (nI w) nu he so ha vd (d + 1) (es_z (n0 - es_lo c (bh + 1) i)) (nI i) := by
  obtain ⟨a1, a2, a3, a4, L⟩ := A
  have hh : h ≤ 60 := L.1
  intro d
  induction d with
  | zero =>
    intro i hi
    refine ⟨vp_in_nI hl (by omega), ?_⟩
    rw [nI_clamp (n := l) (by omega), a1]
    have e : i = h := by omega
    subst e
    exact br_t (nI_le (by omega) (by omega)) k
  | succ d ih =>
    intro i hi
    refine ⟨vp_in_nI hl (by omega), ?_⟩
    rw [nI_clamp (n := l) (by omega), a1]
    refine br_f (nI_ge (by omega) (by omega)) (br_f (nI_ge (b := 60) (by omega) (by omega)) ?_)
    rw [es_iy l i, nI_clamp (n := 60 * l + i) (by omega), (L.2.1 i (by omega)).1]
    refine ⟨vp_in_nI (by omega) (by omega), ?_⟩
    have b1 : c i ≤ 15360 := es_Ln_c L (by omega)
    have H := ih (i + 1) (by omega)
    have es : es_lo c (bh + 1) (i + 1) = es_lo c (bh + 1) i + if (c i : Int) < bh + 1 then 1 else 0 := rfl
    have o : es_z bh < nI (c i) ↔ bh < c i := by rw [es_nI, es_lt ⟨by omega, by omega⟩ ⟨by omega, by omega⟩]
    by_cases q : (c i : Int) < bh + 1
    · rw [es, if_pos q] at H
      have e1 : es_z (n0 - es_lo c (bh + 1) i) + (-1) = es_z (n0 - ((es_lo c (bh + 1) i + 1 : Nat) : Int)) := by
        rw [es_m1, es_add, show n0 - (es_lo c (bh + 1) i : Int) + -1 = n0 - ((es_lo c (bh + 1) i + 1 : Nat) : Int) by omega]
      exact br_f (fun t => by have := o.mp t; omega) (nm_r e1 (nm_r (nI_1 i) H))
    · rw [es, if_neg q] at H
      exact br_t (o.mpr (by omega)) (nm_r (nI_1 i) H)

/-- the search for a gap, in lockstep -/
theorem es_gaps (A : es_At nu he gr ha l h hd c) (hl : l < 4) (hw : 4 ≤ w ∧ w ≤ 64) {le : Int} (hle : (le = 1 ∧ es_st (es_mx c h) w < 1) ∨ (le = es_st (es_mx c h) w ∧ 1 ≤ le)) :
    ∀ (d : Nat) (s : Int), s < le + d → -100 ≤ s → s ≤ 20000 → ∃ r : Int32,
      (∀ post : Int32 → Prop, post r → wX_gap_36 post (nI l) (es_z le) (nI w) nu he gr so ha vc (d + 1) (es_z s)) ∧
      (∀ post : Int32 → Prop, post r → wY_gap_20 post (nI l) (nI (es_mx c h)) (nI w) nu he so ha vd (d + 1) (es_z s)) := by
  have L := A.2.2.2.2
  have m := es_Ln_m L
  have b := es_st_sm A hw
  have ew : nI (es_mx c h) - nI w + 1 = es_z (es_st (es_mx c h) w) := by
    rw [es_nI, es_nI, es_1, es_sub, es_add]
    rfl
  have out : ∀ (n : Nat) (s : Int), s < le → -100 ≤ s → ∃ r : Int32,
      (∀ post : Int32 → Prop, post r → wX_gap_36 post (nI l) (es_z le) (nI w) nu he gr so ha vc (n + 1) (es_z s)) ∧
      (∀ post : Int32 → Prop, post r → wY_gap_20 post (nI l) (nI (es_mx c h)) (nI w) nu he so ha vd (n + 1) (es_z s)) := by
    intro n s h1 h2
    have sm : es_sm s := ⟨by omega, by omega⟩
    have o : es_z s < es_z le := (es_lt sm ⟨by omega, by omega⟩).mpr h1
    refine ⟨0, fun post k => br_t o k, fun post k => ?_⟩
    by_cases q : s < es_st (es_mx c h) w
    · have o2 : es_z s < nI (es_mx c h) - nI w + 1 := by
        rw [ew]
        exact (es_lt sm ⟨by omega, by omega⟩).mpr q
      exact br_t o2 k
    · have o2 : ¬ es_z s < nI (es_mx c h) - nI w + 1 := by
        rw [ew, es_lt sm ⟨by omega, by omega⟩]
        exact q
      have o3 : es_z s < 1 := by
        rw [es_1, es_lt sm ⟨by omega, by omega⟩]
        omega
      exact br_f o2 (br_t o3 k)
  intro d
  induction d with
  | zero => intro s h1 h2 _; exact out 0 s (by omega) h2
  | succ d ih =>
    intro s h1 h2 h3
    by_cases q : s < le
    · exact out (d + 1) s q h2
    · have sm : es_sm s := ⟨by omega, by omega⟩
      have o : ¬ es_z s < es_z le := by
        rw [es_lt sm ⟨by omega, by omega⟩]
        exact q
      have o2 : ¬ es_z s < nI (es_mx c h) - nI w + 1 := by
        rw [ew, es_lt sm ⟨by omega, by omega⟩]
        omega
      have o3 : ¬ es_z s < 1 := by
        rw [es_1, es_lt sm ⟨by omega, by omega⟩]
        omega
      have e1 : es_z s + (-1) = es_z (s - 1) := by
        rw [es_m1, es_add, show s + -1 = s - 1 by omega]
      by_cases t : ∃ i, i < h ∧ nu (60 * l + i) = es_z s
      · obtain ⟨r, hX, hY⟩ := ih (s - 1) (by omega) (by omega) (by omega)
        refine ⟨r, fun post k => br_f o ?_, fun post k => br_f o2 (br_f o3 ?_)⟩
        · exact es_xAcc hl A.1 L.1 (fun _ => br_f (by decide) (nm_r e1 (hX post k))) (fun u => absurd t u)
        · exact es_yHold hl A.1 L.1 (fun _ => br_f (by decide) (nm_r e1 (hY post k))) (fun u => absurd t u)
      · refine ⟨es_z s, fun post k => br_f o ?_, fun post k => br_f o2 (br_f o3 ?_)⟩
        · exact es_xAcc hl A.1 L.1 (fun u => absurd u t) (fun _ => br_t rfl k)
        · exact es_yHold hl A.1 L.1 (fun u => absurd u t) (fun _ => br_t rfl k)

/-- the limits at the start: x on the first i lines -/
def es_f (x : Int32) (i : Nat) : Nat → Int32 := fun j => if j < i then x else 0
theorem es_f_0 (x : Int32) : es_f x 0 = fun _ => 0 := funext (fun j => if_neg (by omega))
theorem es_f_s (x : Int32) (i : Nat) : upd (es_f x i) i x = es_f x (i + 1) := by
  funext j
  show (if j = i then x else if j < i then x else 0) = if j < i + 1 then x else 0
  by_cases q : j = i
  · rw [if_pos q, if_pos (by omega)]
  · rw [if_neg q]
    by_cases r : j < i
    · rw [if_pos r, if_pos (by omega)]
    · rw [if_neg r, if_neg (by omega)]
theorem es_xI {post : SX → Prop} {f : Int32} {z1 z2 z3 z4 : Nat → Int32} (k : post (f, z1, z2, z3, es_f 40 4, es_f 60 4, z4)) :
    ∀ d i, i + d = 4 → wX_init_76 post f (d + 1) (nI i) z1 z2 z3 (es_f 40 i) (es_f 60 i) z4 := by
  intro d
  induction d with
  | zero =>
    intro i hi
    have e : i = 4 := by omega
    subst e
    exact br_t (nI_le (a := 4) (by omega) (by omega)) k
  | succ d ih =>
    intro i hi
    refine br_f (nI_ge (b := 4) (by omega) (by omega)) ⟨vp_in_nI (by omega) (by omega), nm_r (e' := es_f 40 (i + 1)) (by rw [nI_clamp (by omega), es_f_s]) ⟨vp_in_nI (by omega) (by omega), nm_r (e' := es_f 60 (i + 1)) (by rw [nI_clamp (by omega), es_f_s]) (nm_r (nI_1 i) (ih (i + 1) (by omega)))⟩⟩
theorem es_yI {post : SY → Prop} {f : Int32} {z1 z2 z4 : Nat → Int32} (k : post (f, z1, z2, es_f 40 4, es_f 60 4, z4)) :
    ∀ d i, i + d = 4 → wY_init_69 post f (d + 1) (nI i) z1 z2 (es_f 40 i) (es_f 60 i) z4 := by
  intro d
  induction d with
  | zero =>
    intro i hi
    have e : i = 4 := by omega
    subst e
    exact br_t (nI_le (a := 4) (by omega) (by omega)) k
  | succ d ih =>
    intro i hi
    refine br_f (nI_ge (b := 4) (by omega) (by omega)) ⟨vp_in_nI (by omega) (by omega), nm_r (e' := es_f 40 (i + 1)) (by rw [nI_clamp (by omega), es_f_s]) ⟨vp_in_nI (by omega) (by omega), nm_r (e' := es_f 60 (i + 1)) (by rw [nI_clamp (by omega), es_f_s]) (nm_r (nI_1 i) (ih (i + 1) (by omega)))⟩⟩
end
