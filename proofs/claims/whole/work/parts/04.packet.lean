section
variable {w l h hd : Nat} {c : Nat → Nat} {nu he gr so ha vc vd : Nat → Int32}

theorem es_nb_b (A : es_At nu he gr ha l h hd c) (hw : 4 ≤ w ∧ w ≤ 64) (lw : Nat) : -63 ≤ es_nb (es_mx c h) w lw ∧ es_nb (es_mx c h) w lw ≤ 256 * (h + 1) := by
  have b := A.2.2.2.2.2.2.2
  unfold es_nb es_st
  omega
theorem es_nb_sm (A : es_At nu he gr ha l h hd c) (hw : 4 ≤ w ∧ w ≤ 64) (lw : Nat) : es_sm (es_nb (es_mx c h) w lw) := by
  have b := es_nb_b A hw lw
  have b2 := A.2.2.2.2.1
  exact ⟨by omega, by omega⟩

theorem es_xJudge (A : es_At nu he gr ha l h hd c) (hl : l < 4) {z : Int} (hz : es_sm z) {b : Int32} {post : Int32 → Prop}
    (k5 : hd ≤ h → post 5) (k3 : h < hd → z < 1 → post 3) (k2 : h < hd → 1 ≤ z → es_in c h z → post 2)
    (k4 : h < hd → 1 ≤ z → ¬ es_in c h z → b = 0 → post 4) (k1 : h < hd → 1 ≤ z → ¬ es_in c h z → ¬ b = 0 → post 1) :
    wpX_judge post (nI w, nu, he, gr, so, ha, vc) (nI l) (es_z z) b := by
  unfold wpX_judge
  dsimp only
  refine es_xDead A hl (fun q => br_f (by decide) (k5 q)) (fun q => br_t rfl ?_)
  have o1 : (1 : Int32) ≤ es_z z ↔ 1 ≤ z := by rw [es_1, es_le ⟨by omega, by omega⟩ hz]
  have L := A.2.2.2.2
  by_cases p : 1 ≤ z
  · refine br_t (o1.mpr p) ?_
    refine es_xAcc hl A.1 L.1 (fun t => br_f (by decide) (k2 q p ((es_hold L hz).mp t))) (fun t => br_t rfl ?_)
    have t' : ¬ es_in c h z := fun s => t ((es_hold L hz).mpr s)
    exact br_c (fun b0 => k4 q p t' b0) (fun b0 => k1 q p t' b0)
  · exact br_f (fun s => p (o1.mp s)) (k3 q (by omega))

/-- the greatest number a line, when n has been accepted on line l -/
def es_gr (gr : Nat → Int32) (l g n : Nat) : Nat → Int32 := if g < n then upd gr l (nI n) else gr
theorem es_gr1 {g n : Nat} (e : gr l = nI g) : es_gr gr l g n l = nI (if g < n then n else g) := by
  unfold es_gr
  by_cases q : g < n
  · rw [if_pos q, if_pos q, pk_us]
  · rw [if_neg q, if_neg q, e]
theorem es_gr2 {g n m : Nat} (e : m ≠ l) : es_gr gr l g n m = gr m := by
  unfold es_gr
  by_cases q : g < n
  · rw [if_pos q, pk_un e]
  · rw [if_neg q]

theorem es_xAccept (A : es_At nu he gr ha l h hd c) (hl : l < 4) (hh : h < 60) {n : Nat} (hn : n < 20000) {post : SX → Prop}
    (k : post (nI w, upd nu (60 * l + h) (nI n), upd he l (nI (h + 1)), es_gr gr l (es_mx c h) n, so, ha, vc)) :
    wpX_accept post (nI w, nu, he, gr, so, ha, vc) (nI l) (nI n) := by
  unfold wpX_accept
  dsimp only
  have m := es_Ln_m A.2.2.2.2
  have i4 : vp_in (nI l) 4 := vp_in_nI hl (by omega)
  rw [nI_clamp (n := l) (by omega), A.1, es_ix, nI_clamp (n := 60 * l + h) (by omega), A.2.1]
  refine ⟨i4, vp_in_nI (by omega) (by omega), nm_e ⟨i4, i4, nm_r (by rw [nI_1]) ⟨i4, ?_⟩⟩⟩
  by_cases q : es_mx c h < n
  · refine br_f (nI_ge q (by omega)) ⟨i4, nm_e ?_⟩
    have e : es_gr gr l (es_mx c h) n = upd gr l (nI n) := if_pos q
    rw [e] at k
    exact k
  · refine br_t (nI_le (by omega) (by omega)) ?_
    have e : es_gr gr l (es_mx c h) n = gr := if_neg q
    rw [e] at k
    exact k

theorem es_xTk (hl : l < 4) {j : Nat} (hj : j < 5) {post : Int32 → SX → Prop}
    (k : post (nI (j + 1)) (nI w, nu, he, gr, so, ha, upd vc (5 * l + j) (vc (5 * l + j) + 1))) :
    wX_takePacket_31 post (nI l) (nI (j + 1)) (nI w) nu he gr so ha vc := by
  unfold wX_takePacket_31 wpX_verdictPlace
  dsimp only
  rw [es_i5, nI_clamp (n := 5 * l + j) (by omega)]
  exact ⟨vp_in_nI (by omega) (by omega), vp_in_nI (by omega) (by omega), nm_e k⟩

theorem es_xTake (A : es_At nu he gr ha l h hd c) (hl : l < 4) (hw : 4 ≤ w ∧ w ≤ 64) {lw : Nat} {b : Int32} {post : Int32 → SX → Prop}
    {z : Int} (ez : es_nb (es_mx c h) w lw = z)
    (k5 : hd ≤ h → post 5 (nI w, nu, he, gr, so, ha, upd vc (5 * l + 4) (vc (5 * l + 4) + 1)))
    (k3 : h < hd → z < 1 → post 3 (nI w, nu, he, gr, so, ha, upd vc (5 * l + 2) (vc (5 * l + 2) + 1)))
    (k2 : h < hd → 1 ≤ z → es_in c h z → post 2 (nI w, nu, he, gr, so, ha, upd vc (5 * l + 1) (vc (5 * l + 1) + 1)))
    (k4 : h < hd → 1 ≤ z → ¬ es_in c h z → b = 0 → post 4 (nI w, nu, he, gr, so, ha, upd vc (5 * l + 3) (vc (5 * l + 3) + 1)))
    (k1 : h < hd → 1 ≤ z → ¬ es_in c h z → ¬ b = 0 → post 1 (nI w, upd nu (60 * l + h) (nI z.toNat), upd he l (nI (h + 1)), es_gr gr l (es_mx c h) z.toNat, so, ha, upd vc (5 * l + 0) (vc (5 * l + 0) + 1))) :
    wpX_takePacket post (nI w, nu, he, gr, so, ha, vc) (nI l) (nI lw) b := by
  have bz := es_nb_b A hw lw
  have hz := es_nb_sm A hw lw
  have h60 := A.2.2.2.1
  rw [ez] at bz hz
  unfold wpX_takePacket
  dsimp only
  refine es_xTaken A hl ?_
  rw [ez]
  refine es_xJudge A hl hz (fun q => br_f (by decide) ?_) (fun q r => br_f (by decide) ?_) (fun q r s => br_f (by decide) ?_) (fun q r s t => br_f (by decide) ?_) (fun q r s t => br_t rfl ?_)
  · exact es_xTk hl (j := 4) (by omega) (k5 q)
  · exact es_xTk hl (j := 2) (by omega) (k3 q r)
  · exact es_xTk hl (j := 1) (by omega) (k2 q r s)
  · exact es_xTk hl (j := 3) (by omega) (k4 q r s t)
  · have e : es_z z = nI z.toNat := by rw [es_nI, show ((z.toNat : Nat) : Int) = z by omega]
    rw [e]
    refine es_xAccept A hl (by omega) (by omega) ?_
    exact es_xTk hl (j := 0) (by omega) (k1 q r s t)

theorem es_yVerd (A : es_At nu he gr ha l h hd c) (hl : l < 4) (hw : 4 ≤ w ∧ w ≤ 64) {lw : Nat} (hlw : lw < 256) {b : Int32} {post : Int32 → SY → Prop}
    {z : Int} (ez : es_nb (es_mx c h) w lw = z)
    (k5 : hd ≤ h → post 5 (nI w, nu, he, so, ha, vd))
    (k3 : h < hd → z < 1 → post 3 (nI w, nu, he, so, ha, vd))
    (k2 : h < hd → 1 ≤ z → es_in c h z → post 2 (nI w, nu, he, so, ha, vd))
    (k4 : h < hd → 1 ≤ z → ¬ es_in c h z → b = 0 → post 4 (nI w, nu, he, so, ha, vd))
    (k1 : h < hd → 1 ≤ z → ¬ es_in c h z → ¬ b = 0 → post 1 (nI w, upd nu (60 * l + h) (nI z.toNat), upd he l (nI (h + 1)), so, ha, vd)) :
    wpY_verdict post (nI w, nu, he, so, ha, vd) (nI l) (nI lw) b := by
  have bz := es_nb_b A hw lw
  have hz := es_nb_sm A hw lw
  have h60 := A.2.2.2.1
  have L := A.2.2.2.2
  have hh := L.1
  rw [ez] at bz hz
  have i4 : vp_in (nI l) 4 := vp_in_nI hl (by omega)
  unfold wpY_verdict
  dsimp only
  refine ⟨i4, i4, ?_⟩
  rw [nI_clamp (n := l) (by omega), A.1, A.2.2.1]
  by_cases q : h < hd
  · refine br_t (nI_lt q (by omega)) ?_
    refine es_yTaken A hl hw hlw ?_
    rw [ez]
    have o1 : (1 : Int32) ≤ es_z z ↔ 1 ≤ z := by rw [es_1, es_le ⟨by omega, by omega⟩ hz]
    by_cases p : 1 ≤ z
    · refine br_t (o1.mpr p) ?_
      refine es_yHold hl A.1 L.1 (fun t => br_f (by decide) (k2 q p ((es_hold L hz).mp t))) (fun t => br_t rfl ?_)
      have t' : ¬ es_in c h z := fun s => t ((es_hold L hz).mpr s)
      refine br_c (fun b0 => k4 q p t' b0) (fun b0 => ⟨i4, nm_e (br_f (nI_ge (b := 60) (by omega) (by omega)) ?_)⟩)
      have e : es_z z = nI z.toNat := by rw [es_nI, show ((z.toNat : Nat) : Int) = z by omega]
      rw [e, es_iy, nI_clamp (n := 60 * l + h) (by omega)]
      exact ⟨vp_in_nI (by omega) (by omega), nm_e ⟨i4, nm_r (by rw [nI_1]) (k1 q p t' b0)⟩⟩
    · exact br_f (fun s => p (o1.mp s)) (k3 q (by omega))
  · exact br_f (nI_nlt (by omega) (by omega)) (k5 (by omega))

theorem es_yUp (hl : l < 4) {j : Nat} (hj : j < 5) {post : Int32 → SY → Prop}
    (k : post (nI (j + 1)) (nI w, nu, he, so, ha, upd vd (8 * l + (j + 1)) (vd (8 * l + (j + 1)) + 1))) :
    vp_in (8 * nI l + nI (j + 1)) 32 ∧ (vp_in (8 * nI l + nI (j + 1)) 32 ∧ ∀ a : Nat → Int32, a = upd vd (8 * nI l + nI (j + 1)).toNatClampNeg (vd (8 * nI l + nI (j + 1)).toNatClampNeg + 1) → post (nI (j + 1)) (nI w, nu, he, so, ha, a)) := by
  rw [es_i8, nI_clamp (n := 8 * l + (j + 1)) (by omega)]
  exact ⟨vp_in_nI (by omega) (by omega), vp_in_nI (by omega) (by omega), nm_e k⟩

theorem es_yRecv (A : es_At nu he gr ha l h hd c) (hl : l < 4) (hw : 4 ≤ w ∧ w ≤ 64) {lw : Nat} (hlw : lw < 256) {b : Int32} {post : Int32 → SY → Prop}
    {z : Int} (ez : es_nb (es_mx c h) w lw = z)
    (k5 : hd ≤ h → post 5 (nI w, nu, he, so, ha, upd vd (8 * l + (4 + 1)) (vd (8 * l + (4 + 1)) + 1)))
    (k3 : h < hd → z < 1 → post 3 (nI w, nu, he, so, ha, upd vd (8 * l + (2 + 1)) (vd (8 * l + (2 + 1)) + 1)))
    (k2 : h < hd → 1 ≤ z → es_in c h z → post 2 (nI w, nu, he, so, ha, upd vd (8 * l + (1 + 1)) (vd (8 * l + (1 + 1)) + 1)))
    (k4 : h < hd → 1 ≤ z → ¬ es_in c h z → b = 0 → post 4 (nI w, nu, he, so, ha, upd vd (8 * l + (3 + 1)) (vd (8 * l + (3 + 1)) + 1)))
    (k1 : h < hd → 1 ≤ z → ¬ es_in c h z → ¬ b = 0 → post 1 (nI w, upd nu (60 * l + h) (nI z.toNat), upd he l (nI (h + 1)), so, ha, upd vd (8 * l + (0 + 1)) (vd (8 * l + (0 + 1)) + 1))) :
    wpY_receive post (nI w, nu, he, so, ha, vd) (nI l) (nI lw) b := by
  unfold wpY_receive
  dsimp only
  refine es_yl hl (es_ylo hlw ?_)
  refine es_yVerd A hl hw hlw ez (fun q => ?_) (fun q r => ?_) (fun q r s => ?_) (fun q r s t => ?_) (fun q r s t => ?_)
  · exact es_yUp hl (j := 4) (by omega) (k5 q)
  · exact es_yUp hl (j := 2) (by omega) (k3 q r)
  · exact es_yUp hl (j := 1) (by omega) (k2 q r s)
  · exact es_yUp hl (j := 3) (by omega) (k4 q r s t)
  · exact es_yUp hl (j := 0) (by omega) (k1 q r s t)

/-- one packet, on both sides -/
theorem es_pkt (hw : 4 ≤ w ∧ w ≤ 64) (HL : es_L nu he gr ha) (HV : es_V vc vd) (hl : l < 4) {lw : Nat} (hlw : lw < 256) (b p : Int32) (hb : b = 0 ↔ p = 0) :
    ∃ (r : Int32) (nu' he' gr' vc' vd' : Nat → Int32), es_L nu' he' gr' ha ∧ es_V vc' vd' ∧
      (∀ post : Int32 → SX → Prop, post r (nI w, nu', he', gr', so, ha, vc') → wpX_takePacket post (nI w, nu, he, gr, so, ha, vc) (nI l) (nI lw) b) ∧
      (∀ post : Int32 → SY → Prop, post r (nI w, nu', he', so, ha, vd') → wpY_receive post (nI w, nu, he, so, ha, vd) (nI l) (nI lw) p) := by
  obtain ⟨h, hd, c, A⟩ := HL l hl
  have bz := es_nb_b A hw lw
  obtain ⟨z, ez⟩ : ∃ z, es_nb (es_mx c h) w lw = z := ⟨_, rfl⟩
  rw [ez] at bz
  have h60 := A.2.2.2.1
  by_cases q : h < hd
  · by_cases q3 : z < 1
    · refine ⟨3, nu, he, gr, _, _, HL, es_V_up HV hl (j := 2) (by omega), fun post k => ?_, fun post k => ?_⟩
      · exact es_xTake A hl hw ez (fun t => absurd t (by omega)) (fun _ _ => k) (fun _ t => absurd t (by omega)) (fun _ t => absurd t (by omega)) (fun _ t => absurd t (by omega))
      · exact es_yRecv A hl hw hlw ez (fun t => absurd t (by omega)) (fun _ _ => k) (fun _ t => absurd t (by omega)) (fun _ t => absurd t (by omega)) (fun _ t => absurd t (by omega))
    · by_cases q2 : es_in c h z
      · refine ⟨2, nu, he, gr, _, _, HL, es_V_up HV hl (j := 1) (by omega), fun post k => ?_, fun post k => ?_⟩
        · exact es_xTake A hl hw ez (fun t => absurd t (by omega)) (fun _ t => absurd t q3) (fun _ _ _ => k) (fun _ _ t => absurd q2 t) (fun _ _ t => absurd q2 t)
        · exact es_yRecv A hl hw hlw ez (fun t => absurd t (by omega)) (fun _ t => absurd t q3) (fun _ _ _ => k) (fun _ _ t => absurd q2 t) (fun _ _ t => absurd q2 t)
      · by_cases q4 : b = 0
        · have q4' := hb.mp q4
          refine ⟨4, nu, he, gr, _, _, HL, es_V_up HV hl (j := 3) (by omega), fun post k => ?_, fun post k => ?_⟩
          · exact es_xTake A hl hw ez (fun t => absurd t (by omega)) (fun _ t => absurd t q3) (fun _ _ t => absurd t q2) (fun _ _ _ _ => k) (fun _ _ _ t => absurd q4 t)
          · exact es_yRecv A hl hw hlw ez (fun t => absurd t (by omega)) (fun _ t => absurd t q3) (fun _ _ t => absurd t q2) (fun _ _ _ _ => k) (fun _ _ _ t => absurd q4' t)
        · have q4' : ¬ p = 0 := fun t => q4 (hb.mpr t)
          have ze : ((z.toNat : Nat) : Int) = z := by omega
          have HL' : es_L (upd nu (60 * l + h) (nI z.toNat)) (upd he l (nI (h + 1))) (es_gr gr l (es_mx c h) z.toNat) ha :=
            es_L_acc HL hl A (by omega) (by omega) (by rw [ze]; exact q2) (by omega) (es_gr1 A.2.1) (fun m hm => es_gr2 hm)
          refine ⟨1, _, _, _, _, _, HL', es_V_up HV hl (j := 0) (by omega), fun post k => ?_, fun post k => ?_⟩
          · exact es_xTake A hl hw ez (fun t => absurd t (by omega)) (fun _ t => absurd t q3) (fun _ _ t => absurd t q2) (fun _ _ _ t => absurd t q4) (fun _ _ _ _ => k)
          · exact es_yRecv A hl hw hlw ez (fun t => absurd t (by omega)) (fun _ t => absurd t q3) (fun _ _ t => absurd t q2) (fun _ _ _ t => absurd t q4') (fun _ _ _ _ => k)
  · refine ⟨5, nu, he, gr, _, _, HL, es_V_up HV hl (j := 4) (by omega), fun post k => ?_, fun post k => ?_⟩
    · exact es_xTake A hl hw ez (fun _ => k) (fun t => absurd t q) (fun t => absurd t q) (fun t => absurd t q) (fun t => absurd t q)
    · exact es_yRecv A hl hw hlw ez (fun _ => k) (fun t => absurd t q) (fun t => absurd t q) (fun t => absurd t q) (fun t => absurd t q)
end
