section
/-- the two states: one window, one array of numbers, one of how many, one of each limit; the greatest number of each line is that of its numbers; the counts agree -/
def i_Rel (k : Nat) (u : SX) (v : SY) : Prop :=
  ∃ (w : Nat) (nu he gr so ha vc vd : Nat → Int32), u = (nI w, nu, he, gr, so, ha, vc) ∧ v = (nI w, nu, he, so, ha, vd) ∧ (4 ≤ w ∧ w ≤ 64) ∧ es_L nu he gr ha ∧ es_V vc vd
theorem i_up {k : Nat} {u : SX} {v : SY} (h : i_Rel k u v) : i_Rel (k + 5) u v := h
theorem es_in0 {w : Nat} (hw : 4 ≤ w ∧ w ≤ 64) : i_Rel 1 (nI w, (fun _ => 0), (fun _ => 0), (fun _ => 0), es_f 40 4, es_f 60 4, (fun _ => 0)) (nI w, (fun _ => 0), (fun _ => 0), es_f 40 4, es_f 60 4, (fun _ => 0)) := by
  refine ⟨w, _, _, _, _, _, _, _, rfl, rfl, hw, fun l hl => ?_, fun l hl j hj => rfl⟩
  refine ⟨0, 60, fun _ => 0, rfl, rfl, ?_, by omega, by omega, fun i hi => absurd hi (by omega), fun i j _ hj => absurd hj (by omega), Nat.le_refl _⟩
  exact if_pos hl
theorem es_in0X {post : SX → Prop} {f : Int32} (k : post (f, (fun _ => 0), (fun _ => 0), (fun _ => 0), es_f 40 4, es_f 60 4, (fun _ => 0))) : ∃ n76 : Nat, wX_init_76 post f n76 0 (fun _ => 0) (fun _ => 0) (fun _ => 0) (fun _ => 0) (fun _ => 0) (fun _ => 0) := by
  have hX := es_xI k 4 0 rfl
  rw [es_f_0, es_f_0] at hX
  exact ⟨5, hX⟩
theorem es_in0Y {post : SY → Prop} {f : Int32} (k : post (f, (fun _ => 0), (fun _ => 0), es_f 40 4, es_f 60 4, (fun _ => 0))) : ∃ n69 : Nat, wY_init_69 post f n69 0 (fun _ => 0) (fun _ => 0) (fun _ => 0) (fun _ => 0) (fun _ => 0) := by
  have hY := es_yI k 4 0 rfl
  rw [es_f_0, es_f_0] at hY
  exact ⟨5, hY⟩
theorem i_vc0 (k0 : Int32) : wpX_init (fun u => wpY_init (fun v => i_Rel 1 u v) k0) k0 := by
  unfold wpX_init wpY_init
  by_cases q : 4 ≤ k0
  · refine br_t q ?_
    by_cases q2 : k0 ≤ 64
    · refine br_t q2 (es_in0X (br_t q (br_t q2 (es_in0Y ?_))))
      have p : ¬ k0 < 0 := Int32.not_lt.mpr (Int32.le_trans (by decide) q)
      obtain ⟨j, hj, rfl⟩ := nI_of2 (M := 64) (n := 64) (by decide) p q2
      have h4 : 4 ≤ j := (nI_leI (a := 4) (by omega) (by omega)).mp q
      exact es_in0 ⟨h4, hj⟩
    · exact br_f q2 (es_in0X (br_t q (br_f q2 (es_in0Y (es_in0 (w := 64) (by omega))))))
  · exact br_f q (es_in0X (br_f q (es_in0Y (es_in0 (w := 4) (by omega)))))
theorem i_vc_window {k : Nat} {u : SX} {v : SY} (I : i_Rel k u v) (hk : k + 5 ≤ 2561) : wpX_window (fun r => wpY_window (fun r' => r' = r ∧ i_Rel (k + 5) u v) v) u := by
  have I' := I
  obtain ⟨w, nu, he, gr, so, ha, vc, vd, rfl, rfl, hw, HL, HV⟩ := I
  exact ⟨rfl, I'⟩
theorem i_vc_receive {k : Nat} {u : SX} {v : SY} (I : i_Rel k u v) (hk : k + 5 ≤ 2561) (v1 : Int32) (v2 : Int32) (v3 : Int32) : wpX_receive (fun r u' => wpY_receive (fun r' v' => r' = r ∧ i_Rel (k + 5) u' v') v v1 v2 v3) u v1 v2 v3 := by
  have I' := I
  obtain ⟨w, nu, he, gr, so, ha, vc, vd, rfl, rfl, hw, HL, HV⟩ := I
  unfold wpX_receive
  dsimp only
  rcases es_lines v1 with b | ⟨l, hl, rfl⟩
  · refine es_xb b ?_
    unfold wpY_receive
    dsimp only
    exact es_yb b ⟨rfl, I'⟩
  · refine es_xl hl ?_
    rcases es_lows v2 with b | ⟨lw, hlw, rfl⟩
    · refine es_xlb b ?_
      unfold wpY_receive
      dsimp only
      exact es_yl hl (es_ylb b ⟨rfl, I'⟩)
    · refine es_xlo hlw ?_
      refine br_c (fun q => ?_) (fun q => ?_)
      · obtain ⟨r, nu', he', gr', vc', vd', HL', HV', hX, hY⟩ := es_pkt (so := so) hw HL HV hl hlw 0 v3 ⟨fun _ => q, fun _ => rfl⟩
        unfold wX_receive_31
        exact hX _ (hY _ ⟨rfl, w, nu', he', gr', so, ha, vc', vd', rfl, rfl, hw, HL', HV'⟩)
      · obtain ⟨r, nu', he', gr', vc', vd', HL', HV', hX, hY⟩ := es_pkt (so := so) hw HL HV hl hlw 1 v3 ⟨fun t => absurd t (by decide), fun t => absurd t q⟩
        unfold wX_receive_31
        exact hX _ (hY _ ⟨rfl, w, nu', he', gr', so, ha, vc', vd', rfl, rfl, hw, HL', HV'⟩)
theorem i_vc_burst {k : Nat} {u : SX} {v : SY} (I : i_Rel k u v) (hk : k + 5 ≤ 2561) (v1 : Int32) (v2 : Int32) (v3 : Int32) (v4 : Int32) : wpX_burst (fun r u' => wpY_burst (fun r' v' => r' = r ∧ i_Rel (k + 5) u' v') v v1 v2 v3 v4) u v1 v2 v3 v4 := by
  have I' := I
  obtain ⟨w, nu, he, gr, so, ha, vc, vd, rfl, rfl, hw, HL, HV⟩ := I
  unfold wpX_burst wpY_burst
  dsimp only
  rcases es_lines v1 with b | ⟨l, hl, rfl⟩
  · exact es_xb b (es_yb b ⟨rfl, I'⟩)
  · refine es_xl hl ?_
    rcases es_lows v2 with b | ⟨lw, hlw, rfl⟩
    · exact es_xlb b (es_yl hl (es_ylb b ⟨rfl, I'⟩))
    · refine es_xlo hlw ?_
      by_cases q1 : v3 < (-64)
      · exact br_t q1 (es_yl hl (es_ylo hlw (br_t q1 ⟨rfl, I'⟩)))
      · refine br_f q1 ?_
        by_cases q2 : v3 ≤ 64
        · refine br_t q2 ?_
          by_cases q3 : v4 < 1
          · exact br_t q3 (es_yl hl (es_ylo hlw (br_f q1 (br_t q2 (br_t q3 ⟨rfl, I'⟩)))))
          · refine br_f q3 ?_
            by_cases q4 : v4 ≤ 40
            · have p : ¬ v4 < 0 := fun t => q3 (Int32.lt_trans t (by decide))
              obtain ⟨j, hj, rfl⟩ := nI_of2 (M := 40) (n := 40) (by decide) p q4
              obtain ⟨r, nu', he', gr', vc', vd', HL', HV', hX, hY⟩ := es_bursts (so := so) hw hl (nI lw) v3 hj j 0 0 nu he gr vc vd (by omega) HL HV
              refine br_t q4 ⟨j + 1, hX _ ?_⟩
              exact es_yl hl (es_ylo hlw (br_f q1 (br_t q2 (br_f q3 (br_t q4 ⟨j + 1, hY _ ⟨rfl, w, nu', he', gr', so, ha, vc', vd', rfl, rfl, hw, HL', HV'⟩⟩)))))
            · exact br_f q4 (es_yl hl (es_ylo hlw (br_f q1 (br_t q2 (br_f q3 (br_f q4 ⟨rfl, I'⟩))))))
        · exact br_f q2 (es_yl hl (es_ylo hlw (br_f q1 (br_f q2 ⟨rfl, I'⟩))))
theorem i_vc_rekey {k : Nat} {u : SX} {v : SY} (I : i_Rel k u v) (hk : k + 5 ≤ 2561) (v1 : Int32) : wpX_rekey (fun r u' => wpY_rekey (fun r' v' => r' = r ∧ i_Rel (k + 5) u' v') v v1) u v1 := by
  have I' := I
  obtain ⟨w, nu, he, gr, so, ha, vc, vd, rfl, rfl, hw, HL, HV⟩ := I
  unfold wpX_rekey wpY_rekey
  dsimp only
  rcases es_lines v1 with b | ⟨l, hl, rfl⟩
  · exact es_xb b (es_yb b ⟨rfl, I'⟩)
  · have i4 : vp_in (nI l) 4 := vp_in_nI hl (by omega)
    refine es_xl hl ?_
    rw [nI_clamp (n := l) (by omega)]
    exact ⟨i4, nm_e ⟨i4, nm_e ⟨i4, nm_e (es_yl hl ⟨i4, nm_e ⟨i4, nm_e ⟨rfl, w, _, _, _, so, ha, vc, vd, rfl, rfl, hw, es_L_key HL hl, HV⟩⟩⟩)⟩⟩⟩
theorem i_vc_limits {k : Nat} {u : SX} {v : SY} (I : i_Rel k u v) (hk : k + 5 ≤ 2561) (v1 : Int32) (v2 : Int32) (v3 : Int32) : wpX_limits (fun r u' => wpY_limits (fun r' v' => r' = r ∧ i_Rel (k + 5) u' v') v v1 v2 v3) u v1 v2 v3 := by
  have I' := I
  obtain ⟨w, nu, he, gr, so, ha, vc, vd, rfl, rfl, hw, HL, HV⟩ := I
  unfold wpX_limits wpY_limits
  dsimp only
  rcases es_lines v1 with b | ⟨l, hl, rfl⟩
  · exact es_xb b (es_yb b ⟨rfl, I'⟩)
  · have i4 : vp_in (nI l) 4 := vp_in_nI hl (by omega)
    refine es_xl hl ?_
    by_cases q1 : v3 < 1
    · exact br_t q1 (es_yl hl (br_t q1 ⟨rfl, I'⟩))
    · refine br_f q1 ?_
      by_cases q2 : v3 ≤ 60
      · refine br_t q2 ?_
        by_cases q3 : v2 < 0
        · exact br_t q3 (es_yl hl (br_f q1 (br_t q2 (br_t q3 ⟨rfl, I'⟩))))
        · refine br_f q3 ?_
          by_cases q4 : v2 ≤ v3
          · have p : ¬ v3 < 0 := fun t => q1 (Int32.lt_trans t (by decide))
            obtain ⟨j, hj, rfl⟩ := nI_of2 (M := 60) (n := 60) (by decide) p q2
            refine br_t q4 ?_
            rw [nI_clamp (n := l) (by omega)]
            refine ⟨i4, nm_e ⟨i4, nm_e ?_⟩⟩
            have HL' := es_L_lim HL hl hj
            obtain ⟨h, hd, c, A⟩ := HL' l hl
            have R : i_Rel (k + 5) (nI w, nu, he, gr, upd so l v2, upd ha l (nI j), vc) (nI w, nu, he, upd so l v2, upd ha l (nI j), vd) := ⟨w, nu, he, gr, _, _, vc, vd, rfl, rfl, hw, HL', HV⟩
            have hh := A.2.2.2.2.1
            have h60 := A.2.2.2.1
            refine es_xDead A hl (fun t => br_f (by decide) ?_) (fun t => br_t rfl ?_)
            · refine es_yl hl (br_f q1 (br_t q2 (br_f q3 (br_t q4 ⟨i4, nm_e ⟨i4, nm_e ?_⟩⟩))))
              unfold wpY_dead
              dsimp only
              refine es_yl hl ⟨i4, i4, ?_⟩
              rw [nI_clamp (n := l) (by omega), A.1, A.2.2.1]
              exact br_f (nI_nlt t (by omega)) ⟨rfl, R⟩
            · refine es_yl hl (br_f q1 (br_t q2 (br_f q3 (br_t q4 ⟨i4, nm_e ⟨i4, nm_e ?_⟩⟩))))
              unfold wpY_dead
              dsimp only
              refine es_yl hl ⟨i4, i4, ?_⟩
              rw [nI_clamp (n := l) (by omega), A.1, A.2.2.1]
              exact br_t (nI_lt t (by omega)) ⟨rfl, R⟩
          · exact br_f q4 (es_yl hl (br_f q1 (br_t q2 (br_f q3 (br_f q4 ⟨rfl, I'⟩)))))
      · exact br_f q2 (es_yl hl (br_f q1 (br_f q2 ⟨rfl, I'⟩)))
theorem i_vc_top {k : Nat} {u : SX} {v : SY} (I : i_Rel k u v) (hk : k + 5 ≤ 2561) (v1 : Int32) : wpX_top (fun r => wpY_top (fun r' => r' = r ∧ i_Rel (k + 5) u v) v v1) u v1 := by
  have I' := I
  obtain ⟨w, nu, he, gr, so, ha, vc, vd, rfl, rfl, hw, HL, HV⟩ := I
  unfold wpX_top wpY_top
  dsimp only
  rcases es_lines v1 with b | ⟨l, hl, rfl⟩
  · exact es_xb b (es_yb b ⟨rfl, I'⟩)
  · obtain ⟨h, hd, c, A⟩ := HL l hl
    refine es_xl hl ⟨vp_in_nI hl (by omega), es_yl hl (es_yGreat A hl ⟨?_, I'⟩)⟩
    rw [nI_clamp (n := l) (by omega), A.2.1]
theorem i_vc_accepted {k : Nat} {u : SX} {v : SY} (I : i_Rel k u v) (hk : k + 5 ≤ 2561) (v1 : Int32) : wpX_accepted (fun r => wpY_accepted (fun r' => r' = r ∧ i_Rel (k + 5) u v) v v1) u v1 := by
  have I' := I
  obtain ⟨w, nu, he, gr, so, ha, vc, vd, rfl, rfl, hw, HL, HV⟩ := I
  unfold wpX_accepted wpY_accepted
  dsimp only
  rcases es_lines v1 with b | ⟨l, hl, rfl⟩
  · exact es_xb b (es_yb b ⟨rfl, I'⟩)
  · have i4 : vp_in (nI l) 4 := vp_in_nI hl (by omega)
    exact es_xl hl ⟨i4, es_yl hl ⟨i4, rfl, I'⟩⟩
theorem i_vc_dead {k : Nat} {u : SX} {v : SY} (I : i_Rel k u v) (hk : k + 5 ≤ 2561) (v1 : Int32) : wpX_dead (fun r => wpY_dead (fun r' => r' = r ∧ i_Rel (k + 5) u v) v v1) u v1 := by
  have I' := I
  obtain ⟨w, nu, he, gr, so, ha, vc, vd, rfl, rfl, hw, HL, HV⟩ := I
  unfold wpX_dead wpY_dead
  dsimp only
  rcases es_lines v1 with b | ⟨l, hl, rfl⟩
  · exact es_xb b (es_yb b ⟨rfl, I'⟩)
  · have i4 : vp_in (nI l) 4 := vp_in_nI hl (by omega)
    obtain ⟨h, hd, c, A⟩ := HL l hl
    have hh := A.2.2.2.2.1
    have h60 := A.2.2.2.1
    refine es_xl hl (es_xDead A hl (fun t => br_f (by decide) (es_yl hl ⟨i4, i4, ?_⟩)) (fun t => br_t rfl (es_yl hl ⟨i4, i4, ?_⟩)))
    · rw [nI_clamp (n := l) (by omega), A.1, A.2.2.1]
      exact br_f (nI_nlt t (by omega)) ⟨rfl, I'⟩
    · rw [nI_clamp (n := l) (by omega), A.1, A.2.2.1]
      exact br_t (nI_lt t (by omega)) ⟨rfl, I'⟩
theorem i_vc_aging {k : Nat} {u : SX} {v : SY} (I : i_Rel k u v) (hk : k + 5 ≤ 2561) (v1 : Int32) : wpX_aging (fun r => wpY_aging (fun r' => r' = r ∧ i_Rel (k + 5) u v) v v1) u v1 := by
  have I' := I
  obtain ⟨w, nu, he, gr, so, ha, vc, vd, rfl, rfl, hw, HL, HV⟩ := I
  unfold wpX_aging wpY_aging
  dsimp only
  rcases es_lines v1 with b | ⟨l, hl, rfl⟩
  · exact es_xb b (es_yb b ⟨rfl, I'⟩)
  · have i4 : vp_in (nI l) 4 := vp_in_nI hl (by omega)
    exact es_xl hl ⟨i4, i4, br_c (fun t => es_yl hl ⟨i4, i4, br_t t ⟨rfl, I'⟩⟩) (fun t => es_yl hl ⟨i4, i4, br_f t ⟨rfl, I'⟩⟩)⟩
theorem i_vc_count {k : Nat} {u : SX} {v : SY} (I : i_Rel k u v) (hk : k + 5 ≤ 2561) (v1 : Int32) (v2 : Int32) : wpX_count (fun r => wpY_count (fun r' => r' = r ∧ i_Rel (k + 5) u v) v v1 v2) u v1 v2 := by
  have I' := I
  obtain ⟨w, nu, he, gr, so, ha, vc, vd, rfl, rfl, hw, HL, HV⟩ := I
  unfold wpX_count wpY_count
  dsimp only
  rcases es_lines v1 with b | ⟨l, hl, rfl⟩
  · exact es_xb b (es_yb b ⟨rfl, I'⟩)
  · refine es_xl hl ?_
    by_cases q1 : v2 < 1
    · exact br_t q1 (es_yl hl (br_t q1 ⟨rfl, I'⟩))
    · refine br_f q1 ?_
      by_cases q2 : v2 ≤ 5
      · have p : ¬ v2 < 0 := fun t => q1 (Int32.lt_trans t (by decide))
        obtain ⟨j, hj, rfl⟩ := nI_of2 (M := 5) (n := 5) (by decide) p q2
        cases j with
        | zero => exact absurd (by decide) q1
        | succ j =>
          refine br_t q2 ?_
          unfold wpX_verdictPlace
          dsimp only
          rw [es_i5, nI_clamp (n := 5 * l + j) (by omega)]
          refine ⟨vp_in_nI (by omega) (by omega), es_yl hl (br_f q1 (br_t q2 ?_))⟩
          rw [es_i8, nI_clamp (n := 8 * l + (j + 1)) (by omega)]
          exact ⟨vp_in_nI (by omega) (by omega), (HV l hl j (by omega)).symm, I'⟩
      · exact br_f q2 (es_yl hl (br_f q1 (br_f q2 ⟨rfl, I'⟩)))
theorem i_vc_numberFor {k : Nat} {u : SX} {v : SY} (I : i_Rel k u v) (hk : k + 5 ≤ 2561) (v1 : Int32) (v2 : Int32) : wpX_numberFor (fun r => wpY_numberFor (fun r' => r' = r ∧ i_Rel (k + 5) u v) v v1 v2) u v1 v2 := by
  have I' := I
  obtain ⟨w, nu, he, gr, so, ha, vc, vd, rfl, rfl, hw, HL, HV⟩ := I
  unfold wpX_numberFor wpY_numberFor
  dsimp only
  rcases es_lines v1 with b | ⟨l, hl, rfl⟩
  · exact es_xb b (es_yb b ⟨rfl, I'⟩)
  · refine es_xl hl ?_
    rcases es_lows v2 with b | ⟨lw, hlw, rfl⟩
    · exact es_xlb b (es_yl hl (es_ylb b ⟨rfl, I'⟩))
    · obtain ⟨h, hd, c, A⟩ := HL l hl
      exact es_xlo hlw (es_xTaken A hl (es_yl hl (es_ylo hlw (es_yTaken A hl hw hlw ⟨rfl, I'⟩))))
theorem i_vc_has {k : Nat} {u : SX} {v : SY} (I : i_Rel k u v) (hk : k + 5 ≤ 2561) (v1 : Int32) (v2 : Int32) : wpX_has (fun r => wpY_has (fun r' => r' = r ∧ i_Rel (k + 5) u v) v v1 v2) u v1 v2 := by
  have I' := I
  obtain ⟨w, nu, he, gr, so, ha, vc, vd, rfl, rfl, hw, HL, HV⟩ := I
  unfold wpX_has wpY_has
  dsimp only
  rcases es_lines v1 with b | ⟨l, hl, rfl⟩
  · exact es_xb b (es_yb b ⟨rfl, I'⟩)
  · obtain ⟨h, hd, c, A⟩ := HL l hl
    have hh := A.2.2.2.2.1
    refine es_xl hl (es_xAcc hl A.1 hh (fun t => br_f (by decide) ?_) (fun t => br_t rfl ?_))
    · exact es_yl hl (es_yHold hl A.1 hh (fun _ => br_f (by decide) ⟨rfl, I'⟩) (fun s => absurd t s))
    · exact es_yl hl (es_yHold hl A.1 hh (fun s => absurd s t) (fun _ => br_t rfl ⟨rfl, I'⟩))
theorem i_vc_inWindow {k : Nat} {u : SX} {v : SY} (I : i_Rel k u v) (hk : k + 5 ≤ 2561) (v1 : Int32) : wpX_inWindow (fun r => wpY_inWindow (fun r' => r' = r ∧ i_Rel (k + 5) u v) v v1) u v1 := by
  have I' := I
  obtain ⟨w, nu, he, gr, so, ha, vc, vd, rfl, rfl, hw, HL, HV⟩ := I
  unfold wpX_inWindow wpY_inWindow
  dsimp only
  rcases es_lines v1 with b | ⟨l, hl, rfl⟩
  · exact es_xb b (es_yb b ⟨rfl, I'⟩)
  · obtain ⟨h, hd, c, A⟩ := HL l hl
    have b := es_st_sm A hw
    refine es_xl hl ⟨vp_in_nI hl (by omega), es_xBelow A hl hw (es_yl hl (es_yGreat A hl ?_))⟩
    have e : nI (es_mx c h) - nI w + 1 = es_z (es_st (es_mx c h) w) := by
      rw [es_nI, es_nI, es_1, es_sub, es_add]
      rfl
    refine nm_r e ⟨w + 1, es_yInL (lo := es_lo c (es_st (es_mx c h) w) h) A hl ⟨?_, I'⟩ w 0 _ (by unfold es_st; omega) (by omega) (by omega)⟩
    rw [nI_clamp (n := l) (by omega), A.1, es_nI, es_nI, es_sub]
theorem i_vc_lost {k : Nat} {u : SX} {v : SY} (I : i_Rel k u v) (hk : k + 5 ≤ 2561) (v1 : Int32) : wpX_lost (fun r => wpY_lost (fun r' => r' = r ∧ i_Rel (k + 5) u v) v v1) u v1 := by
  have I' := I
  obtain ⟨w, nu, he, gr, so, ha, vc, vd, rfl, rfl, hw, HL, HV⟩ := I
  unfold wpX_lost wpY_lost
  dsimp only
  rcases es_lines v1 with b | ⟨l, hl, rfl⟩
  · exact es_xb b (es_yb b ⟨rfl, I'⟩)
  · obtain ⟨h, hd, c, A⟩ := HL l hl
    have L := A.2.2.2.2
    have m := es_Ln_m L
    obtain ⟨bh, eb⟩ : ∃ bh : Int, bh = (es_mx c h : Int) - w := ⟨_, rfl⟩
    have es : es_st (es_mx c h) w = bh + 1 := by unfold es_st; omega
    have sb : es_sm bh := ⟨by omega, by omega⟩
    have e1 : es_z (es_st (es_mx c h) w) - 1 = es_z bh := by rw [es, es_1, es_sub, show bh + 1 - 1 = bh by omega]
    have e2 : nI (es_mx c h) - nI w = es_z bh := by rw [es_nI, es_nI, es_sub, eb]
    have o1 : (1 : Int32) ≤ es_z bh ↔ 1 ≤ bh := by rw [es_1, es_le ⟨by omega, by omega⟩ sb]
    have o0 : (0 : Int32) ≤ es_z bh ↔ 0 ≤ bh := by rw [es_0, es_le ⟨by omega, by omega⟩ sb]
    refine es_xl hl (es_xStart A hl (nm_r e1 ?_))
    by_cases q : 1 ≤ bh
    · refine br_t (o1.mpr q) (es_xBelow A hl hw (es_yl hl (es_yGreat A hl (nm_r e2 (br_t (o0.mpr (by omega)) ⟨h + 1, ?_⟩)))))
      have H := es_yLostL (w := w) (so := so) (vd := vd) (n0 := bh) (bh := bh) (post := fun r' => r' = es_z bh - nI (es_lo c (es_st (es_mx c h) w) h) ∧ i_Rel (k + 5) (nI w, nu, he, gr, so, ha, vc) (nI w, nu, he, so, ha, vd)) A hl ⟨by omega, by omega⟩ ⟨by rw [es, es_nI, es_sub], I'⟩ h 0 (by omega)
      rw [show (bh - ((es_lo c (bh + 1) 0 : Nat) : Int)) = bh by show bh - ((0 : Nat) : Int) = bh; omega] at H
      exact H
    · refine br_f (fun t => q (o1.mp t)) (es_yl hl (es_yGreat A hl (nm_r e2 ?_)))
      have lo : es_lo c (bh + 1) h = 0 := es_lo_no c (bh + 1) h (fun i hi => by have := (L.2.1 i hi).2; omega)
      have H := es_yLostL (w := w) (so := so) (vd := vd) (n0 := 0) (bh := bh) (post := fun r' => r' = 0 ∧ i_Rel (k + 5) (nI w, nu, he, gr, so, ha, vc) (nI w, nu, he, so, ha, vd)) A hl ⟨by omega, by omega⟩ ⟨by rw [lo]; rfl, I'⟩ h 0 (by omega)
      rw [show ((0 : Int) - ((es_lo c (bh + 1) 0 : Nat) : Int)) = 0 from rfl] at H
      by_cases q0 : 0 ≤ bh
      · refine br_t (o0.mpr q0) ⟨h + 1, ?_⟩
        have e0 : bh = 0 := by omega
        subst e0
        exact H
      · exact br_f (fun t => q0 (o0.mp t)) ⟨h + 1, H⟩
theorem i_vc_gap {k : Nat} {u : SX} {v : SY} (I : i_Rel k u v) (hk : k + 5 ≤ 2561) (v1 : Int32) : wpX_gap (fun r => wpY_gap (fun r' => r' = r ∧ i_Rel (k + 5) u v) v v1) u v1 := by
  have I' := I
  obtain ⟨w, nu, he, gr, so, ha, vc, vd, rfl, rfl, hw, HL, HV⟩ := I
  unfold wpX_gap wpY_gap
  dsimp only
  rcases es_lines v1 with b | ⟨l, hl, rfl⟩
  · exact es_xb b (es_yb b ⟨rfl, I'⟩)
  · obtain ⟨h, hd, c, A⟩ := HL l hl
    have L := A.2.2.2.2
    have m := es_Ln_m L
    have b := es_st_sm A hw
    have bs : es_st (es_mx c h) w = (es_mx c h : Int) - w + 1 := rfl
    have i4 : vp_in (nI l) 4 := vp_in_nI hl (by omega)
    have e1 : nI (es_mx c h) - 1 = es_z ((es_mx c h : Int) - 1) := by rw [es_nI, es_1, es_sub]
    have e2 : gr (nI l).toNatClampNeg - 1 = es_z ((es_mx c h : Int) - 1) := by rw [nI_clamp (n := l) (by omega), A.2.1, e1]
    have o1 : (1 : Int32) ≤ es_z (es_st (es_mx c h) w) ↔ 1 ≤ es_st (es_mx c h) w := by rw [es_1, es_le ⟨by omega, by omega⟩ ⟨by omega, by omega⟩]
    refine es_xl hl (es_xStart A hl ?_)
    by_cases q : 1 ≤ es_st (es_mx c h) w
    · obtain ⟨r, hX, hY⟩ := es_gaps (so := so) (vc := vc) (vd := vd) A hl hw (Or.inr ⟨rfl, q⟩) 64 ((es_mx c h : Int) - 1) (by omega) (by omega) (by omega)
      refine br_t (o1.mpr q) ?_
      unfold wX_gap_25
      exact ⟨i4, nm_r e2 ⟨64 + 1, hX _ (es_yl hl (es_yGreat A hl (nm_r e1 ⟨64 + 1, hY _ ⟨rfl, I'⟩⟩)))⟩⟩
    · obtain ⟨r, hX, hY⟩ := es_gaps (so := so) (vc := vc) (vd := vd) A hl hw (Or.inl ⟨rfl, by omega⟩) 64 ((es_mx c h : Int) - 1) (by omega) (by omega) (by omega)
      rw [← es_1] at hX
      refine br_f (fun t => q (o1.mp t)) ?_
      unfold wX_gap_25
      exact ⟨i4, nm_r e2 ⟨64 + 1, hX _ (es_yl hl (es_yGreat A hl (nm_r e1 ⟨64 + 1, hY _ ⟨rfl, I'⟩⟩)))⟩⟩
end
