/-- equal counts, leans and points, all within the document's bounds; what the reference found last is free -/
def i_Rel (_ : Nat) (u : SX) (v : SY) : Prop := ∃ (n : Nat) (L : Int) (X Y : Nat → Int) (T B : Int64) (f : Int32), ld_ok n L X Y ∧ u = (nI n, ld_i L, fun j => ld_i (X j), fun j => ld_i (Y j)) ∧ v = (nI n, ld_i L, T, B, f, fun j => ld_i (X j), fun j => ld_i (Y j))
theorem i_up {k : Nat} {u : SX} {v : SY} (h : i_Rel k u v) : i_Rel (k + 3) u v := h
theorem i_vc0 : wpX_init (fun u => wpY_init (fun v => i_Rel 0 u v)) := by
  have e0 : (0 : Int32) = ld_i 0 := ld_i0
  have e2 : (2 : Int32) = ld_i 2 := by decide
  refine ⟨0, 2, fun _ => 0, fun _ => 0, 0, 0, 0, ⟨by omega, by omega, by omega, fun _ => by dsimp only; omega, fun _ => by dsimp only; omega⟩, ?_, ?_⟩
  · dsimp only; rw [nI_0, ← e0, ← e2]
  · dsimp only; rw [nI_0, ← e0, ← e2]
theorem i_vc_add {k : Nat} {u : SX} {v : SY} (I : i_Rel k u v) (hk : k + 3 ≤ 1536) (v1 : Int32) (v2 : Int32) : wpX_add (fun r u' => wpY_add (fun r' v' => r' = r ∧ i_Rel (k + 3) u' v') v v1 v2) u v1 v2 := by
  obtain ⟨n, L, X, Y, T, B, f, h, rfl, rfl⟩ := I
  have hn := h.1
  have R : i_Rel (k + 3) (nI n, ld_i L, fun j => ld_i (X j), fun j => ld_i (Y j)) (nI n, ld_i L, T, B, f, fun j => ld_i (X j), fun j => ld_i (Y j)) := ⟨n, L, X, Y, T, B, f, h, rfl, rfl⟩
  by_cases h8 : n = 8
  · have c1 : ¬ nI n < 8 := nI_nlt (b := 8) (by omega) (by omega)
    have c2 : nI n = 8 := (nI_eq (b := 8) (by omega) (by omega)).mpr h8
    exact br_f c1 (br_t c2 ⟨rfl, R⟩)
  · have n8 : n < 8 := by omega
    have c1 : nI n < 8 := nI_lt (b := 8) n8 (by omega)
    have c2 : ¬ nI n = 8 := fun e => h8 ((nI_eq (b := 8) (by omega) (by omega)).mp e)
    have d1 : ¬ (1 : Int32) = 0 := by decide
    refine br_t c1 ?_
    by_cases a1 : v1 < (-20)
    · exact br_t a1 (br_t rfl (br_f c2 (br_t a1 ⟨rfl, R⟩)))
    · by_cases a2 : 20 < v1
      · exact br_f a1 (br_t a2 (br_t rfl (br_f c2 (br_f a1 (br_t a2 ⟨rfl, R⟩)))))
      · refine br_f a1 (br_f a2 (br_f d1 ?_))
        by_cases a3 : v2 < (-20)
        · exact br_t a3 (br_t rfl (br_f c2 (br_f a1 (br_f a2 (br_t a3 ⟨rfl, R⟩)))))
        · by_cases a4 : v2 ≤ 20
          · have a4' : ¬ 20 < v2 := Int32.not_lt.mpr a4
            have e1 : (-20 : Int32).toInt = -20 := by decide
            have e2 : (20 : Int32).toInt = 20 := by decide
            have b1 := a1
            have b2 := a2
            have b3 := a3
            have b4 := a4'
            rw [Int32.lt_iff_toInt_lt] at b1 b2 b3 b4
            have ok : ld_ok (n + 1) L (ld_up X n v1.toInt) (ld_up Y n v2.toInt) := ⟨by omega, h.2.1, h.2.2.1, ld_upb h.2.2.2.1 (by omega) (by omega), ld_upb h.2.2.2.2 (by omega) (by omega)⟩
            exact br_f a3 (br_f a4' (br_f d1 ⟨ld_in n8, nm_r (ld_upd n8 (ld_iof v1)) ⟨ld_in n8, nm_r (ld_upd n8 (ld_iof v2)) (nm_r (nI_1 n) (br_f c2 (br_f a1 (br_f a2 (br_f a3 (br_t a4 ⟨ld_in n8, nm_r (ld_upd n8 (ld_iof v1)) ⟨ld_in n8, nm_r (ld_upd n8 (ld_iof v2)) (nm_r (nI_1 n) ⟨rfl, n + 1, L, _, _, T, B, f, ok, rfl, rfl⟩)⟩⟩))))))⟩⟩))
          · have a4' : 20 < v2 := Int32.not_le.mp a4
            exact br_f a3 (br_t a4' (br_t rfl (br_f c2 (br_f a1 (br_f a2 (br_f a3 (br_f a4 ⟨rfl, R⟩)))))))
theorem i_vc_drop {k : Nat} {u : SX} {v : SY} (I : i_Rel k u v) (hk : k + 3 ≤ 1536) (v1 : Int32) : wpX_drop (fun r u' => wpY_drop (fun r' v' => r' = r ∧ i_Rel (k + 3) u' v') v v1) u v1 := by
  obtain ⟨n, L, X, Y, T, B, f, h, rfl, rfl⟩ := I
  have hn := h.1
  have d1 : ¬ (1 : Int32) = 0 := by decide
  unfold wpX_drop wpY_drop
  rcases ld_point hn v1 with ⟨px, py⟩ | ⟨j, hj, e, px, py⟩
  · exact px _ _ _ _ (br_t rfl (py _ _ _ _ _ _ _ (br_t rfl ⟨rfl, n, L, X, Y, T, B, f, h, rfl, rfl⟩)))
  · obtain ⟨m, rfl⟩ : ∃ m, n = m + 1 := ⟨n - 1, by omega⟩
    subst e
    obtain ⟨X', Y', hX', hY', hx, hy⟩ := ld_drop (m := m) (by omega) (ld_i L) T B f (m - j) j X Y h.2.2.2.1 h.2.2.2.2 (by omega)
    exact px _ _ _ _ (br_f d1 ⟨_, hx _ (py _ _ _ _ _ _ _ (br_f d1 ⟨_, hy _ ⟨rfl, m, L, X', Y', T, B, f, ⟨by omega, h.2.1, h.2.2.1, hX', hY'⟩, rfl, rfl⟩⟩))⟩)
theorem i_vc_lean {k : Nat} {u : SX} {v : SY} (I : i_Rel k u v) (hk : k + 3 ≤ 1536) (v1 : Int32) : wpX_lean (fun r u' => wpY_lean (fun r' v' => r' = r ∧ i_Rel (k + 3) u' v') v v1) u v1 := by
  obtain ⟨n, L, X, Y, T, B, f, h, rfl, rfl⟩ := I
  have R : i_Rel (k + 3) (nI n, ld_i L, fun j => ld_i (X j), fun j => ld_i (Y j)) (nI n, ld_i L, T, B, f, fun j => ld_i (X j), fun j => ld_i (Y j)) := ⟨n, L, X, Y, T, B, f, h, rfl, rfl⟩
  by_cases a1 : v1 < 1
  · exact br_t a1 (br_t a1 ⟨rfl, R⟩)
  · by_cases a2 : v1 ≤ 3
    · have e1 : (1 : Int32).toInt = 1 := by decide
      have e2 : (3 : Int32).toInt = 3 := by decide
      have b1 := a1
      have b2 := a2
      rw [Int32.lt_iff_toInt_lt] at b1
      rw [Int32.le_iff_toInt_le] at b2
      refine br_f a1 (br_t a2 (br_f a1 (br_t a2 ⟨rfl, n, v1.toInt, X, Y, T, B, f, ⟨h.1, by omega, by omega, h.2.2.2.1, h.2.2.2.2⟩, ?_, ?_⟩)))
      · rw [← ld_iof v1]
      · rw [← ld_iof v1]
    · exact br_f a1 (br_f a2 (br_f a1 (br_f a2 ⟨rfl, R⟩)))
theorem i_vc_leastTop {k : Nat} {u : SX} {v : SY} (I : i_Rel k u v) (hk : k + 3 ≤ 1536) : wpX_leastTop (fun r => wpY_leastTop (fun r' v' => r' = r ∧ i_Rel (k + 3) u v') v) u := by
  obtain ⟨n, L, X, Y, T, B, f, h, rfl, rfl⟩ := I
  refine ld_xlt h fun T1 B1 h1 => ?_
  unfold wpY_leastTop
  refine ld_yl h fun T2 B2 f2 h2 => ?_
  have b2 := ld_bestb h h2
  exact ld_yu b2.1 b2.2.1 b2.2.2 ⟨by rw [(ld_bestred h h1 h2).1], n, L, X, Y, _, _, f2, h, rfl, rfl⟩
theorem i_vc_leastBottom {k : Nat} {u : SX} {v : SY} (I : i_Rel k u v) (hk : k + 3 ≤ 1536) : wpX_leastBottom (fun r => wpY_leastBottom (fun r' v' => r' = r ∧ i_Rel (k + 3) u v') v) u := by
  obtain ⟨n, L, X, Y, T, B, f, h, rfl, rfl⟩ := I
  refine ld_xlb h fun T1 B1 h1 => ?_
  unfold wpY_leastBottom
  refine ld_yl h fun T2 B2 f2 h2 => ?_
  have b2 := ld_bestb h h2
  exact ld_yd b2.1 b2.2.1 b2.2.2 ⟨by rw [(ld_bestred h h1 h2).2], n, L, X, Y, _, _, f2, h, rfl, rfl⟩
theorem i_vc_withSlope {k : Nat} {u : SX} {v : SY} (I : i_Rel k u v) (hk : k + 3 ≤ 1536) (v1 : Int32) (v2 : Int32) : wpX_withSlope (fun r => wpY_withSlope (fun r' => r' = r ∧ i_Rel (k + 3) u v) v v1 v2) u v1 v2 := by
  obtain ⟨n, L, X, Y, T, B, f, h, rfl, rfl⟩ := I
  have R : i_Rel (k + 3) (nI n, ld_i L, fun j => ld_i (X j), fun j => ld_i (Y j)) (nI n, ld_i L, T, B, f, fun j => ld_i (X j), fun j => ld_i (Y j)) := ⟨n, L, X, Y, T, B, f, h, rfl, rfl⟩
  have d1 : ¬ (1 : Int32) = 0 := by decide
  unfold wpX_withSlope wpY_withSlope
  rcases ld_slope v1 v2 with ⟨px, py⟩ | ⟨px, py, p, q, rfl, rfl, hp, hp', hq, hq'⟩
  · exact px _ _ (br_t rfl (py _ _ (br_t rfl ⟨rfl, R⟩)))
  · refine px _ _ (br_f d1 (ld_xw h hp hp' (by omega) hq' fun W hW => py _ _ (br_f d1 (ld_yw h hp hp' (by omega) hq' fun W' hW' => ⟨?_, R⟩))))
    rw [ld_li, ld_wsu hW hW']
theorem i_vc_bestSlope {k : Nat} {u : SX} {v : SY} (I : i_Rel k u v) (hk : k + 3 ≤ 1536) (v1 : Int32) (v2 : Int32) : wpX_bestSlope (fun r => wpY_bestSlope (fun r' v' => r' = r ∧ i_Rel (k + 3) u v') v v1 v2) u v1 v2 := by
  obtain ⟨n, L, X, Y, T, B, f, h, rfl, rfl⟩ := I
  have d1 : ¬ (1 : Int32) = 0 := by decide
  unfold wpX_bestSlope wpY_bestSlope
  rcases ld_slope v1 v2 with ⟨px, py⟩ | ⟨px, py, p, q, rfl, rfl, hp, hp', hq, hq'⟩
  · exact px _ _ (br_t rfl (py _ _ (br_t rfl ⟨rfl, n, L, X, Y, T, B, f, h, rfl, rfl⟩)))
  · refine px _ _ (br_f d1 (ld_xw h hp hp' (by omega) hq' fun W hW => ld_xlt h fun T1 B1 h1 => ld_xlb h fun T2 B2 h2 => ?_))
    have bW := ld_wsb h hp hp' (by omega) hq' hW
    refine br_c (fun hc => py _ _ (br_f d1 (ld_yl h fun T3 B3 f3 h3 => ld_yw h hp hp' (by omega) hq' fun W' hW' => ?_))) (fun hc => py _ _ (br_f d1 (ld_yl h fun T3 B3 f3 h3 => ld_yw h hp hp' (by omega) hq' fun W' hW' => ?_)))
    · have iff := ld_cXY h bW ⟨hq, hq'⟩ h1 h2 h3
      rw [ld_wsu hW' hW]
      exact br_t (iff.mp hc) ⟨rfl, n, L, X, Y, _, _, f3, h, rfl, rfl⟩
    · have iff := ld_cXY h bW ⟨hq, hq'⟩ h1 h2 h3
      rw [ld_wsu hW' hW]
      exact br_f (fun hh => hc (iff.mpr hh)) ⟨rfl, n, L, X, Y, _, _, f3, h, rfl, rfl⟩
theorem i_vc_bestPair {k : Nat} {u : SX} {v : SY} (I : i_Rel k u v) (hk : k + 3 ≤ 1536) (v1 : Int32) (v2 : Int32) : wpX_bestPair (fun r => wpY_bestPair (fun r' v' => r' = r ∧ i_Rel (k + 3) u v') v v1 v2) u v1 v2 := by
  obtain ⟨n, L, X, Y, T, B, f, h, rfl, rfl⟩ := I
  have hn := h.1
  have R : i_Rel (k + 3) (nI n, ld_i L, fun j => ld_i (X j), fun j => ld_i (Y j)) (nI n, ld_i L, T, B, f, fun j => ld_i (X j), fun j => ld_i (Y j)) := ⟨n, L, X, Y, T, B, f, h, rfl, rfl⟩
  have d1 : ¬ (1 : Int32) = 0 := by decide
  unfold wpX_bestPair wpY_bestPair
  rcases ld_point hn v1 with ⟨px, py⟩ | ⟨i, hi, e1, px, py⟩
  · exact px _ _ _ _ (br_t rfl (py _ _ _ _ _ _ _ (br_t rfl ⟨rfl, R⟩)))
  · rcases ld_point hn v2 with ⟨qx, qy⟩ | ⟨j, hj, e2, qx, qy⟩
    · exact px _ _ _ _ (br_f d1 (qx _ _ _ _ (br_t rfl (py _ _ _ _ _ _ _ (br_f d1 (qy _ _ _ _ _ _ _ (br_t rfl ⟨rfl, R⟩)))))))
    · subst e1 e2
      have i8 : i < 8 := by omega
      have j8 : j < 8 := by omega
      have ex : ((fun j => ld_i (X j)) (nI i).toNatClampNeg = (fun j => ld_i (X j)) (nI j).toNatClampNeg) ↔ X i = X j := by
        rw [ld_cl i8, ld_cl j8]
        exact ld_yeq h j i
      refine px _ _ _ _ (br_f d1 (qx _ _ _ _ (br_f d1 ⟨ld_in i8, ld_in j8, ?_⟩)))
      by_cases hx : X i = X j
      · exact br_t (ex.mpr hx) (py _ _ _ _ _ _ _ (br_f d1 (qy _ _ _ _ _ _ _ (br_f d1 ⟨ld_in i8, ld_in j8, br_t (ex.mpr hx) ⟨rfl, R⟩⟩))))
      · have hx' : X j ≠ X i := fun e => hx e.symm
        have nx := fun hh => hx (ex.mp hh)
        refine br_f nx (ld_xt h i8 j8 (ld_xb h i8 j8 (ld_xlt h fun T1 B1 h1 => ld_xlb h fun T2 B2 h2 => ?_)))
        have bW := ld_tpb h i j
        have bq := ld_btb h i j
        refine br_c (fun hc => py _ _ _ _ _ _ _ (br_f d1 (qy _ _ _ _ _ _ _ (br_f d1 ⟨ld_in i8, ld_in j8, br_f nx (ld_yl h fun T3 B3 f3 h3 => ld_yline h i8 j8 hx' ?_)⟩)))) (fun hc => py _ _ _ _ _ _ _ (br_f d1 (qy _ _ _ _ _ _ _ (br_f d1 ⟨ld_in i8, ld_in j8, br_f nx (ld_yl h fun T3 B3 f3 h3 => ld_yline h i8 j8 hx' ?_)⟩))))
        · have iff := ld_cXY h bW bq h1 h2 h3
          exact br_t (iff.mp hc) ⟨rfl, n, L, X, Y, _, _, f3, h, rfl, rfl⟩
        · have iff := ld_cXY h bW bq h1 h2 h3
          exact br_f (fun hh => hc (iff.mpr hh)) ⟨rfl, n, L, X, Y, _, _, f3, h, rfl, rfl⟩
theorem i_vc_throughTop {k : Nat} {u : SX} {v : SY} (I : i_Rel k u v) (hk : k + 3 ≤ 1536) (v1 : Int32) : wpX_throughTop (fun r => wpY_throughTop (fun r' v' => r' = r ∧ i_Rel (k + 3) u v') v v1) u v1 := by
  obtain ⟨n, L, X, Y, T, B, f, h, rfl, rfl⟩ := I
  have hn := h.1
  have d1 : ¬ (1 : Int32) = 0 := by decide
  unfold wpX_throughTop wpY_throughTop
  rcases ld_point hn v1 with ⟨px, py⟩ | ⟨i, hi, e1, px, py⟩
  · exact px _ _ _ _ (br_t rfl (py _ _ _ _ _ _ _ (br_t rfl ⟨rfl, n, L, X, Y, T, B, f, h, rfl, rfl⟩)))
  · subst e1
    refine px _ _ _ _ (br_f d1 (ld_xp h hi fun b hb hm => ?_))
    obtain ⟨T1, B1, e1, e2, l1⟩ := ld_lstI h hb hm
    refine ld_xrt h (by omega) (by omega) e1 e2 (py _ _ _ _ _ _ _ (br_f d1 ?_))
    unfold wpY_begin
    refine ld_yth h hi fun T2 B2 f2 k1 k2 k3 l2 => ?_
    exact ld_yu k1 k2 k3 ⟨by rw [(ld_lstred (ld_CiB h i) l1 l2).1], n, L, X, Y, _, _, f2, h, rfl, rfl⟩
theorem i_vc_throughBottom {k : Nat} {u : SX} {v : SY} (I : i_Rel k u v) (hk : k + 3 ≤ 1536) (v1 : Int32) : wpX_throughBottom (fun r => wpY_throughBottom (fun r' v' => r' = r ∧ i_Rel (k + 3) u v') v v1) u v1 := by
  obtain ⟨n, L, X, Y, T, B, f, h, rfl, rfl⟩ := I
  have hn := h.1
  have d1 : ¬ (1 : Int32) = 0 := by decide
  unfold wpX_throughBottom wpY_throughBottom
  rcases ld_point hn v1 with ⟨px, py⟩ | ⟨i, hi, e1, px, py⟩
  · exact px _ _ _ _ (br_t rfl (py _ _ _ _ _ _ _ (br_t rfl ⟨rfl, n, L, X, Y, T, B, f, h, rfl, rfl⟩)))
  · subst e1
    refine px _ _ _ _ (br_f d1 (ld_xp h hi fun b hb hm => ?_))
    obtain ⟨T1, B1, e1, e2, l1⟩ := ld_lstI h hb hm
    refine ld_xrb h (by omega) (by omega) e1 e2 (py _ _ _ _ _ _ _ (br_f d1 ?_))
    unfold wpY_begin
    refine ld_yth h hi fun T2 B2 f2 k1 k2 k3 l2 => ?_
    exact ld_yd k1 k2 k3 ⟨by rw [(ld_lstred (ld_CiB h i) l1 l2).2], n, L, X, Y, _, _, f2, h, rfl, rfl⟩
theorem i_vc_points {k : Nat} {u : SX} {v : SY} (I : i_Rel k u v) (hk : k + 3 ≤ 1536) : wpX_points (fun r => wpY_points (fun r' => r' = r ∧ i_Rel (k + 3) u v) v) u := by
  obtain ⟨n, L, X, Y, T, B, f, h, rfl, rfl⟩ := I
  exact ⟨rfl, n, L, X, Y, T, B, f, h, rfl, rfl⟩
