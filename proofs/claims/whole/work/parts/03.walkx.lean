/-! the component's walks -/
theorem ld_cl {j : Nat} (h : j < 8) : (nI j).toNatClampNeg = j := nI_clamp (by omega)
theorem ld_in {j : Nat} (h : j < 8) : vp_in (nI j) 8 := vp_in_nI h (by decide)
theorem ld_xc6 {n : Nat} {L : Int} {X Y : Nat → Int} (h : ld_ok n L X Y) {i : Nat} (hi : i < 8) {p q : Int} (hp : -1000 ≤ p) (hp' : p ≤ 1000) (hq : -40 ≤ q) (hq' : q ≤ 40) (post : Int32 → Prop) (hpost : post (ld_i (ld_s L X Y i p q n))) : ∀ d t : Nat, t + d = n → wX_scaledCost_6 post (nI i) (ld_i p) (ld_i q) (nI n) (ld_i L) (fun j => ld_i (X j)) (fun j => ld_i (Y j)) (d + 1) (ld_i (ld_s L X Y i p q t)) (nI t) := by
  have hn := h.1
  intro d
  induction d with
  | zero =>
    intro t ht
    have ht' : t = n := by omega
    subst ht'
    exact br_t (nI_le (Nat.le_refl _) (by omega)) hpost
  | succ d ih =>
    intro t ht
    have t8 : t < 8 := by omega
    have hd := ld_db h i t hp hp' hq hq'
    have e : ld_i q * ((fun j => ld_i (Y j)) (nI t).toNatClampNeg - (fun j => ld_i (Y j)) (nI i).toNatClampNeg) - ld_i p * ((fun j => ld_i (X j)) (nI t).toNatClampNeg - (fun j => ld_i (X j)) (nI i).toNatClampNeg) = ld_i (q * (Y t - Y i) - p * (X t - X i)) := by
      rw [ld_cl t8, ld_cl hi]
      simp only [ld_isub, ld_imul]
    refine br_f (nI_ge (by omega) (by omega)) ⟨ld_in t8, ld_in hi, ld_in t8, ld_in hi, nm_r e ?_⟩
    have iff : ld_i (q * (Y t - Y i) - p * (X t - X i)) ≤ 0 ↔ q * (Y t - Y i) - p * (X t - X i) ≤ 0 := by
      rw [ld_i0]
      exact ld_ile (by omega) (by omega) (by omega) (by omega)
    have nx := ih (t + 1) (by omega)
    rw [ld_ss] at nx
    by_cases hz : q * (Y t - Y i) - p * (X t - X i) ≤ 0
    · refine br_t (iff.mpr hz) (nm_r ?_ (nm_r (nI_1 t) nx))
      rw [show ld_c L (q * (Y t - Y i) - p * (X t - X i)) = (L - 4) * (q * (Y t - Y i) - p * (X t - X i)) from if_pos hz, ld_i4, ld_isub, ld_imul, ld_iadd]
    · refine br_f (fun hh => hz (iff.mp hh)) (nm_r ?_ (nm_r (nI_1 t) nx))
      rw [show ld_c L (q * (Y t - Y i) - p * (X t - X i)) = L * (q * (Y t - Y i) - p * (X t - X i)) from if_neg hz, ld_imul, ld_iadd]
theorem ld_xc {n : Nat} {L : Int} {X Y : Nat → Int} (h : ld_ok n L X Y) {i : Nat} (hi : i < 8) {p q : Int} (hp : -1000 ≤ p) (hp' : p ≤ 1000) (hq : -40 ≤ q) (hq' : q ≤ 40) {post : Int32 → Prop} {x1 x2 : Int32} (e1 : x1 = ld_i p) (e2 : x2 = ld_i q) (hpost : post (ld_i (ld_s L X Y i p q n))) : wpX_scaledCost post (nI n, ld_i L, fun j => ld_i (X j), fun j => ld_i (Y j)) (nI i) x1 x2 := by
  subst e1 e2
  exact ⟨n + 1, ld_xc6 h hi hp hp' hq hq' post hpost n 0 (by omega)⟩
theorem ld_xt {n : Nat} {L : Int} {X Y : Nat → Int} (h : ld_ok n L X Y) {i j : Nat} (hi : i < 8) (hj : j < 8) {post : Int32 → Prop} (hpost : post (ld_i (ld_tp n L X Y i j))) : wpX_lineTop post (nI n, ld_i L, fun j => ld_i (X j), fun j => ld_i (Y j)) (nI i) (nI j) := by
  have hX := h.2.2.2.1
  have hY := h.2.2.2.2
  have := hX i
  have := hX j
  have := hY i
  have := hY j
  have ey : (fun j => ld_i (Y j)) (nI j).toNatClampNeg - (fun j => ld_i (Y j)) (nI i).toNatClampNeg = ld_i (Y j - Y i) := by
    rw [ld_cl hj, ld_cl hi]
    exact ld_isub _ _
  have ex : (fun j => ld_i (X j)) (nI j).toNatClampNeg - (fun j => ld_i (X j)) (nI i).toNatClampNeg = ld_i (X j - X i) := by
    rw [ld_cl hj, ld_cl hi]
    exact ld_isub _ _
  have i0 : ld_i (X j - X i) = 0 ↔ X j - X i = 0 := by
    rw [ld_i0]
    exact ld_ieq (by omega) (by omega) (by omega) (by omega)
  have il : 0 ≤ ld_i (X j - X i) ↔ 0 ≤ X j - X i := by
    rw [ld_i0]
    exact ld_ile (by omega) (by omega) (by omega) (by omega)
  refine ⟨ld_in hj, ld_in hi, nm_r ey ⟨ld_in hj, ld_in hi, nm_r ex ?_⟩⟩
  unfold ld_tp at hpost
  by_cases hz : X j - X i = 0
  · rw [if_pos hz] at hpost
    exact br_t (i0.mpr hz) (ld_xc h hi (by omega) (by omega) (by omega) (by omega) ld_i0 ld_i1 hpost)
  · rw [if_neg hz] at hpost
    refine br_f (fun hh => hz (i0.mp hh)) ?_
    by_cases hp : 0 ≤ X j - X i
    · rw [if_pos hp] at hpost
      exact br_t (il.mpr hp) (ld_xc h hi (by omega) (by omega) (by omega) (by omega) rfl rfl hpost)
    · rw [if_neg hp] at hpost
      exact br_f (fun hh => hp (il.mp hh)) (ld_xc h hi (by omega) (by omega) (by omega) (by omega) (ld_ineg _) (ld_ineg _) hpost)
theorem ld_xb {n : Nat} {L : Int} {X Y : Nat → Int} (h : ld_ok n L X Y) {i j : Nat} (hi : i < 8) (hj : j < 8) {post : Int32 → Prop} (hpost : post (ld_i (ld_bt X i j))) : wpX_lineBottom post (nI n, ld_i L, fun j => ld_i (X j), fun j => ld_i (Y j)) (nI i) (nI j) := by
  have hX := h.2.2.2.1
  have := hX i
  have := hX j
  have ex : (fun j => ld_i (X j)) (nI j).toNatClampNeg - (fun j => ld_i (X j)) (nI i).toNatClampNeg = ld_i (X j - X i) := by
    rw [ld_cl hj, ld_cl hi]
    exact ld_isub _ _
  have i0 : ld_i (X j - X i) = 0 ↔ X j - X i = 0 := by
    rw [ld_i0]
    exact ld_ieq (by omega) (by omega) (by omega) (by omega)
  have il : 0 ≤ ld_i (X j - X i) ↔ 0 ≤ X j - X i := by
    rw [ld_i0]
    exact ld_ile (by omega) (by omega) (by omega) (by omega)
  refine ⟨ld_in hj, ld_in hi, nm_r ex ?_⟩
  unfold ld_bt at hpost
  by_cases hz : X j - X i = 0
  · rw [if_pos hz] at hpost
    exact br_t (i0.mpr hz) hpost
  · rw [if_neg hz] at hpost
    refine br_f (fun hh => hz (i0.mp hh)) ?_
    by_cases hp : 0 ≤ X j - X i
    · rw [if_pos hp] at hpost
      exact br_t (il.mpr hp) hpost
    · rw [if_neg hp, ← ld_ineg] at hpost
      exact br_f (fun hh => hp (il.mp hh)) hpost
/-- the comparison of two fractions in ints -/
theorem ld_cmpI {a b c d : Int} (ha : 0 ≤ a ∧ a ≤ 998400) (hb : 1 ≤ b ∧ b ≤ 40) (hc : 0 ≤ c ∧ c ≤ 998400) (hd : 1 ≤ d ∧ d ≤ 40) : ld_i a * ld_i d ≤ ld_i c * ld_i b ↔ a * d ≤ c * b := by
  rw [ld_imul, ld_imul]
  have k1 := ld_p40 ha.1 ha.2 (b := d) (by omega) hd.2
  have k2 := ld_p40 hc.1 hc.2 (b := b) (by omega) hb.2
  exact ld_ile k1.1 k1.2 k2.1 k2.2
theorem ld_xp20 {n : Nat} {L : Int} {X Y : Nat → Int} (h : ld_ok n L X Y) {i : Nat} (hi : i < n) (post : Int32 → Prop) (hpost : ∀ b, b < n → (∀ j, j < n → ld_tp n L X Y i b * ld_bt X i j ≤ ld_tp n L X Y i j * ld_bt X i b) → post (nI b)) : ∀ d t b : Nat, t + d = n → b < n → (∀ j, j < t → ld_tp n L X Y i b * ld_bt X i j ≤ ld_tp n L X Y i j * ld_bt X i b) → wX_bestPartner_20 post (nI i) (nI n) (ld_i L) (fun j => ld_i (X j)) (fun j => ld_i (Y j)) (d + 1) (nI b) (ld_i (ld_tp n L X Y i b)) (ld_i (ld_bt X i b)) (nI t) := by
  have hn := h.1
  intro d
  induction d with
  | zero =>
    intro t b ht hb hm
    have ht' : t = n := by omega
    subst ht'
    exact br_t (nI_le (Nat.le_refl _) (by omega)) (hpost b hb hm)
  | succ d ih =>
    intro t b ht hb hm
    refine br_f (nI_ge (by omega) (by omega)) (ld_xt h (by omega) (by omega) (ld_xb h (by omega) (by omega) ?_))
    have iff := ld_cmpI (ld_tpb h i b) (ld_btb h i b) (ld_tpb h i t) (ld_btb h i t)
    by_cases hc : ld_tp n L X Y i b * ld_bt X i t ≤ ld_tp n L X Y i t * ld_bt X i b
    · refine br_t (iff.mpr hc) (nm_r (nI_1 t) (ih (t + 1) b (by omega) hb fun j hj => ?_))
      by_cases hjt : j = t
      · subst hjt; exact hc
      · exact hm j (by omega)
    · refine br_f (fun hh => hc (iff.mp hh)) (nm_r (nI_1 t) (ih (t + 1) t (by omega) (by omega) fun j hj => ?_))
      by_cases hjt : j = t
      · subst hjt; exact Int.le_refl _
      · have := ld_btb h i t
        have := ld_btb h i b
        have := ld_btb h i j
        exact ld_tr (c := ld_tp n L X Y i b) (d := ld_bt X i b) (by omega) (by omega) (by omega) (by omega) (hm j (by omega))
theorem ld_xp {n : Nat} {L : Int} {X Y : Nat → Int} (h : ld_ok n L X Y) {i : Nat} (hi : i < n) {post : Int32 → Prop} (hpost : ∀ b, b < n → (∀ j, j < n → ld_tp n L X Y i b * ld_bt X i j ≤ ld_tp n L X Y i j * ld_bt X i b) → post (nI b)) : wpX_bestPartner post (nI n, ld_i L, fun j => ld_i (X j), fun j => ld_i (Y j)) (nI i) := by
  have hn := h.1
  exact ld_xt h (by omega) (by omega) (ld_xb h (by omega) (by omega) ⟨n + 1, ld_xp20 h hi post hpost n 0 i (by omega) hi (fun j hj => absurd hj (Nat.not_lt_zero j))⟩)
theorem ld_xs26 {n : Nat} {L : Int} {X Y : Nat → Int} (h : ld_ok n L X Y) (post : Int32 → Prop) (hpost : ∀ s b, s < n → b < n → (∀ i j, i < n → j < n → ld_tp n L X Y s b * ld_bt X i j ≤ ld_tp n L X Y i j * ld_bt X s b) → post (nI s)) : ∀ d t s b : Nat, t + d = n → s < n → b < n → (∀ i j, i < t → j < n → ld_tp n L X Y s b * ld_bt X i j ≤ ld_tp n L X Y i j * ld_bt X s b) → wX_bestStart_26 post (nI n) (ld_i L) (fun j => ld_i (X j)) (fun j => ld_i (Y j)) (d + 1) (nI s) (ld_i (ld_tp n L X Y s b)) (ld_i (ld_bt X s b)) (nI t) := by
  have hn := h.1
  intro d
  induction d with
  | zero =>
    intro t s b ht hs hb hm
    have ht' : t = n := by omega
    subst ht'
    exact br_t (nI_le (Nat.le_refl _) (by omega)) (hpost s b hs hb hm)
  | succ d ih =>
    intro t s b ht hs hb hm
    refine br_f (nI_ge (by omega) (by omega)) (ld_xp h (by omega) fun b' hb' hm' => ld_xt h (by omega) (by omega) (ld_xb h (by omega) (by omega) ?_))
    have iff := ld_cmpI (ld_tpb h s b) (ld_btb h s b) (ld_tpb h t b') (ld_btb h t b')
    have p1 := ld_btb h t b'
    have p2 := ld_btb h s b
    by_cases hc : ld_tp n L X Y s b * ld_bt X t b' ≤ ld_tp n L X Y t b' * ld_bt X s b
    · refine br_t (iff.mpr hc) (nm_r (nI_1 t) (ih (t + 1) s b (by omega) hs hb fun i j hi hj => ?_))
      by_cases hit : i = t
      · subst hit
        have p3 := ld_btb h i j
        exact ld_tr (by omega) (by omega) (by omega) hc (hm' j hj)
      · exact hm i j (by omega) hj
    · refine br_f (fun hh => hc (iff.mp hh)) (nm_r (nI_1 t) (ih (t + 1) t b' (by omega) (by omega) hb' fun i j hi hj => ?_))
      by_cases hit : i = t
      · subst hit; exact hm' j hj
      · have p3 := ld_btb h i j
        exact ld_tr (c := ld_tp n L X Y s b) (d := ld_bt X s b) (by omega) (by omega) (by omega) (by omega) (hm i j (by omega) hj)
theorem ld_xs {n : Nat} {L : Int} {X Y : Nat → Int} (h : ld_ok n L X Y) (h0 : 0 < n) {post : Int32 → Prop} (hpost : ∀ s b, s < n → b < n → (∀ i j, i < n → j < n → ld_tp n L X Y s b * ld_bt X i j ≤ ld_tp n L X Y i j * ld_bt X s b) → post (nI s)) : wpX_bestStart post (nI n, ld_i L, fun j => ld_i (X j), fun j => ld_i (Y j)) := by
  have hn := h.1
  refine ld_xp (i := 0) h h0 fun b hb hm => ld_xt (i := 0) h (by omega) (by omega) (ld_xb (i := 0) h (by omega) (by omega) ⟨n, ?_⟩)
  have := ld_xs26 h post hpost (n - 1) 1 0 b (by omega) h0 hb (by
    intro i j hi hj
    have hi0 : i = 0 := by omega
    subst hi0
    exact hm j hj)
  rw [show n - 1 + 1 = n by omega] at this
  exact this
theorem ld_xg2 {T B : Nat} (hT : T ≤ 998400) (hB : 1 ≤ B) (hB' : B ≤ 40) (a : Int32) (b : Int32) (c d : Nat → Int32) (post : Int32 → Prop) (hpost : post (nI (Nat.gcd T B))) : ∀ g : Nat, g ≤ B → Nat.gcd T B ≤ g → wX_commonDivisor_2 post (nI T) (nI B) a b c d (g + 1) (nI g) := by
  have g0 : 0 < Nat.gcd T B := Nat.gcd_pos_of_pos_right _ hB
  intro g
  induction g with
  | zero => intro _ h; omega
  | succ g ih =>
    intro hgB hg
    by_cases h1 : g = 0
    · subst h1
      have e : Nat.gcd T B = 1 := by omega
      rw [e] at hpost
      exact br_t (nI_le (b := 1) (by omega) (by decide)) hpost
    · have ne : ¬ nI (g + 1) = 0 := nI_ne0 (by omega) (by omega)
      refine br_f (nI_ge (a := 1) (by omega) (by omega)) ⟨ne, ?_⟩
      have e1 : nI T - nI T / nI (g + 1) * nI (g + 1) = nI (T % (g + 1)) := pk_rem (by omega) (by omega) (by omega)
      have e2 : nI B - nI B / nI (g + 1) * nI (g + 1) = nI (B % (g + 1)) := pk_rem (by omega) (by omega) (by omega)
      have m1 : T % (g + 1) < g + 1 := Nat.mod_lt _ (by omega)
      have m2 : B % (g + 1) < g + 1 := Nat.mod_lt _ (by omega)
      have z1 : nI T - nI T / nI (g + 1) * nI (g + 1) = 0 ↔ T % (g + 1) = 0 := by
        rw [e1, ← nI_0]; exact nI_eq (by omega) (by omega)
      have z2 : nI B - nI B / nI (g + 1) * nI (g + 1) = 0 ↔ B % (g + 1) = 0 := by
        rw [e2, ← nI_0]; exact nI_eq (by omega) (by omega)
      by_cases c1 : T % (g + 1) = 0
      · refine br_t (z1.mpr c1) ⟨ne, ?_⟩
        by_cases c2 : B % (g + 1) = 0
        · have dv : g + 1 ∣ Nat.gcd T B := Nat.dvd_gcd (Nat.dvd_of_mod_eq_zero c1) (Nat.dvd_of_mod_eq_zero c2)
          have le := Nat.le_of_dvd g0 dv
          rw [show Nat.gcd T B = g + 1 by omega] at hpost
          exact br_t (z2.mpr c2) hpost
        · refine br_f (fun hh => c2 (z2.mp hh)) (nm_r (pk_m1 g) (ih (by omega) ?_))
          have : Nat.gcd T B ≠ g + 1 := fun e => c2 (Nat.mod_eq_zero_of_dvd (e ▸ Nat.gcd_dvd_right T B))
          omega
      · refine br_f (fun hh => c1 (z1.mp hh)) (nm_r (pk_m1 g) (ih (by omega) ?_))
        have : Nat.gcd T B ≠ g + 1 := fun e => c1 (Nat.mod_eq_zero_of_dvd (e ▸ Nat.gcd_dvd_left T B))
        omega
theorem ld_xg {T B : Nat} (hT : T ≤ 998400) (hB : 1 ≤ B) (hB' : B ≤ 40) {u : SX} {post : Int32 → Prop} (hpost : post (nI (Nat.gcd T B))) : wpX_commonDivisor post u (nI T) (nI B) := by
  obtain ⟨a, b, c, d⟩ := u
  exact ⟨B + 1, ld_xg2 hT hB hB' a b c d post hpost B (Nat.le_refl _) (Nat.le_of_dvd hB (Nat.gcd_dvd_right T B))⟩
theorem ld_xrt {n : Nat} {L : Int} {X Y : Nat → Int} (h : ld_ok n L X Y) {i j T B : Nat} (hi : i < 8) (hj : j < 8) (eT : (T : Int) = ld_tp n L X Y i j) (eB : (B : Int) = ld_bt X i j) {post : Int32 → Prop} (hpost : post (nI (T / Nat.gcd T B))) : wpX_reducedTop post (nI n, ld_i L, fun j => ld_i (X j), fun j => ld_i (Y j)) (nI i) (nI j) := by
  have b1 := ld_tpb h i j
  have b2 := ld_btb h i j
  have g0 : 0 < Nat.gcd T B := Nat.gcd_pos_of_pos_right _ (by omega)
  have gl : Nat.gcd T B ≤ B := Nat.le_of_dvd (by omega) (Nat.gcd_dvd_right T B)
  refine ld_xt h hi hj (ld_xb h hi hj ?_)
  rw [← eT, ← eB, ld_iN, ld_iN]
  refine ld_xg (by omega) (by omega) (by omega) ⟨nI_ne0 g0 (by omega), ?_⟩
  rw [pk_div (by omega) g0 (by omega)]
  exact hpost
theorem ld_xrb {n : Nat} {L : Int} {X Y : Nat → Int} (h : ld_ok n L X Y) {i j T B : Nat} (hi : i < 8) (hj : j < 8) (eT : (T : Int) = ld_tp n L X Y i j) (eB : (B : Int) = ld_bt X i j) {post : Int32 → Prop} (hpost : post (nI (B / Nat.gcd T B))) : wpX_reducedBottom post (nI n, ld_i L, fun j => ld_i (X j), fun j => ld_i (Y j)) (nI i) (nI j) := by
  have b1 := ld_tpb h i j
  have b2 := ld_btb h i j
  have g0 : 0 < Nat.gcd T B := Nat.gcd_pos_of_pos_right _ (by omega)
  have gl : Nat.gcd T B ≤ B := Nat.le_of_dvd (by omega) (Nat.gcd_dvd_right T B)
  refine ld_xt h hi hj (ld_xb h hi hj ?_)
  rw [← eT, ← eB, ld_iN, ld_iN]
  refine ld_xg (by omega) (by omega) (by omega) ⟨nI_ne0 g0 (by omega), ?_⟩
  rw [pk_div (by omega) g0 (by omega)]
  exact hpost
/-- the fraction of a best partner is a least one through i -/
theorem ld_lstI {n : Nat} {L : Int} {X Y : Nat → Int} (h : ld_ok n L X Y) {i b : Nat} (hb : b < n) (hm : ∀ j, j < n → ld_tp n L X Y i b * ld_bt X i j ≤ ld_tp n L X Y i j * ld_bt X i b) : ∃ T B : Nat, (T : Int) = ld_tp n L X Y i b ∧ (B : Int) = ld_bt X i b ∧ ld_lst (ld_Ci n L X Y i) T B := by
  have l : ld_lst (ld_Ci n L X Y i) (ld_tp n L X Y i b) (ld_bt X i b) := ⟨⟨b, hb, rfl, rfl⟩, fun t' b' ⟨j, hj, e1, e2⟩ => by subst e1 e2; exact hm j hj⟩
  obtain ⟨T, B, e1, e2, _⟩ := ld_lstN (ld_CiB h i) l
  exact ⟨T, B, e1.symm, e2.symm, by rw [e1, e2] at l; exact l⟩
theorem ld_lstA {n : Nat} {L : Int} {X Y : Nat → Int} (h : ld_ok n L X Y) {i b : Nat} (hi : i < n) (hb : b < n) (hm : ∀ i' j, i' < n → j < n → ld_tp n L X Y i b * ld_bt X i' j ≤ ld_tp n L X Y i' j * ld_bt X i b) : ∃ T B : Nat, (T : Int) = ld_tp n L X Y i b ∧ (B : Int) = ld_bt X i b ∧ ld_best n L X Y T B := by
  have l : ld_lst (ld_Ca n L X Y n) (ld_tp n L X Y i b) (ld_bt X i b) := ⟨⟨i, hi, b, hb, rfl, rfl⟩, fun t' b' ⟨i', hi', j, hj, e1, e2⟩ => by subst e1 e2; exact hm i' j hi' hj⟩
  obtain ⟨T, B, e1, e2, _⟩ := ld_lstN (ld_CaB h n) l
  exact ⟨T, B, e1.symm, e2.symm, Or.inr ⟨by omega, by rw [e1, e2] at l; exact l⟩⟩
theorem ld_merge {n : Nat} {L : Int} {X Y : Nat → Int} (h : ld_ok n L X Y) {s b b' : Nat} (hb : b < n) (h1 : ∀ i j, i < n → j < n → ld_tp n L X Y s b * ld_bt X i j ≤ ld_tp n L X Y i j * ld_bt X s b) (h2 : ∀ j, j < n → ld_tp n L X Y s b' * ld_bt X s j ≤ ld_tp n L X Y s j * ld_bt X s b') (i j : Nat) (hi : i < n) (hj : j < n) : ld_tp n L X Y s b' * ld_bt X i j ≤ ld_tp n L X Y i j * ld_bt X s b' := by
  have p1 := ld_btb h s b
  have p2 := ld_btb h s b'
  have p3 := ld_btb h i j
  exact ld_tr (by omega) (by omega) (by omega) (h2 b hb) (h1 i j hi hj)
theorem ld_xlt {n : Nat} {L : Int} {X Y : Nat → Int} (h : ld_ok n L X Y) {post : Int32 → Prop} (hpost : ∀ T B : Nat, ld_best n L X Y T B → post (nI (T / Nat.gcd T B))) : wpX_leastTop post (nI n, ld_i L, fun j => ld_i (X j), fun j => ld_i (Y j)) := by
  have hn := h.1
  by_cases h0 : n = 0
  · subst h0
    exact br_t nI_0 (hpost 0 1 (Or.inl ⟨rfl, rfl, rfl⟩))
  · refine br_f (nI_ne0 (by omega) (by omega)) (ld_xs h (by omega) fun s b hs hb hm => ld_xp h hs fun b' hb' hm' => ?_)
    obtain ⟨T, B, e1, e2, l⟩ := ld_lstA h hs hb' (ld_merge h hb hm hm')
    exact ld_xrt h (by omega) (by omega) e1 e2 (hpost T B l)
theorem ld_xlb {n : Nat} {L : Int} {X Y : Nat → Int} (h : ld_ok n L X Y) {post : Int32 → Prop} (hpost : ∀ T B : Nat, ld_best n L X Y T B → post (nI (B / Nat.gcd T B))) : wpX_leastBottom post (nI n, ld_i L, fun j => ld_i (X j), fun j => ld_i (Y j)) := by
  have hn := h.1
  by_cases h0 : n = 0
  · subst h0
    exact br_t nI_0 (hpost 0 1 (Or.inl ⟨rfl, rfl, rfl⟩))
  · refine br_f (nI_ne0 (by omega) (by omega)) (ld_xs h (by omega) fun s b hs hb hm => ld_xp h hs fun b' hb' hm' => ?_)
    obtain ⟨T, B, e1, e2, l⟩ := ld_lstA h hs hb' (ld_merge h hb hm hm')
    exact ld_xrb h (by omega) (by omega) e1 e2 (hpost T B l)
theorem ld_xw20 {n : Nat} {L : Int} {X Y : Nat → Int} (h : ld_ok n L X Y) {p q : Int} (hp : -1000 ≤ p) (hp' : p ≤ 1000) (hq : -40 ≤ q) (hq' : q ≤ 40) (post : Int32 → Prop) (hpost : ∀ W, ld_ws n L X Y p q W → post (ld_i W)) : ∀ d t : Nat, ∀ W : Int, t + d = n → (∃ i, i < n ∧ W = ld_s L X Y i p q n) → (∀ i, i < t → W ≤ ld_s L X Y i p q n) → wX_leastWithSlope_20 post (ld_i p) (ld_i q) (nI n) (ld_i L) (fun j => ld_i (X j)) (fun j => ld_i (Y j)) (d + 1) (ld_i W) (nI t) := by
  have hn := h.1
  intro d
  induction d with
  | zero =>
    intro t W ht hW hm
    have ht' : t = n := by omega
    subst ht'
    exact br_t (nI_le (Nat.le_refl _) (by omega)) (hpost W (Or.inr ⟨hW, hm⟩))
  | succ d ih =>
    intro t W ht hW hm
    refine br_f (nI_ge (by omega) (by omega)) (ld_xc h (by omega) hp hp' hq hq' rfl rfl ?_)
    have b1 := ld_s0 h t p q n
    have b2 := ld_sb h t hn hp hp' hq hq'
    have b3 : 0 ≤ W ∧ W ≤ 998400 := by
      obtain ⟨i, _, e⟩ := hW
      rw [e]
      exact ⟨ld_s0 h i p q n, ld_sb h i hn hp hp' hq hq'⟩
    have iff : ld_i W ≤ ld_i (ld_s L X Y t p q n) ↔ W ≤ ld_s L X Y t p q n := ld_ile (by omega) (by omega) (by omega) (by omega)
    by_cases hc : W ≤ ld_s L X Y t p q n
    · refine br_t (iff.mpr hc) (nm_r (nI_1 t) (ih (t + 1) W (by omega) hW fun i hi => ?_))
      by_cases hit : i = t
      · subst hit; exact hc
      · exact hm i (by omega)
    · refine br_f (fun hh => hc (iff.mp hh)) (nm_r (nI_1 t) (ih (t + 1) _ (by omega) ⟨t, by omega, rfl⟩ fun i hi => ?_))
      by_cases hit : i = t
      · subst hit; exact Int.le_refl _
      · have := hm i (by omega)
        omega
theorem ld_xw {n : Nat} {L : Int} {X Y : Nat → Int} (h : ld_ok n L X Y) {p q : Int} (hp : -1000 ≤ p) (hp' : p ≤ 1000) (hq : -40 ≤ q) (hq' : q ≤ 40) {post : Int32 → Prop} (hpost : ∀ W, ld_ws n L X Y p q W → post (ld_i W)) : wpX_leastWithSlope post (nI n, ld_i L, fun j => ld_i (X j), fun j => ld_i (Y j)) (ld_i p) (ld_i q) := by
  have hn := h.1
  by_cases h0 : n = 0
  · subst h0
    exact br_t nI_0 (hpost 0 (Or.inl ⟨rfl, rfl⟩))
  · refine br_f (nI_ne0 (by omega) (by omega)) (ld_xc (i := 0) h (by omega) hp hp' hq hq' rfl rfl ⟨n, ?_⟩)
    have := ld_xw20 h hp hp' hq hq' post hpost (n - 1) 1 (ld_s L X Y 0 p q n) (by omega) ⟨0, by omega, rfl⟩ (by
      intro i hi
      have hi0 : i = 0 := by omega
      subst hi0
      exact Int.le_refl _)
    rw [show n - 1 + 1 = n by omega] at this
    exact this
