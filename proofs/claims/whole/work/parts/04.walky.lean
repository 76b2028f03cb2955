/-! the reference's walks -/
theorem ld_yk {n : Nat} {L : Int} {X Y : Nat → Int} (h : ld_ok n L X Y) {f_top f_bottom : Int64} {f_found : Int32} {d : Int} (hd : -41600 ≤ d ∧ d ≤ 41600) {post : Int64 → Prop} {x : Int64} (hx : x = ld_l d) (hpost : post (ld_l (ld_c L d))) : wpY_cost post (nI n, ld_i L, f_top, f_bottom, f_found, fun j => ld_i (X j), fun j => ld_i (Y j)) x := by
  subst hx
  have h1 := h.2.1
  have h2 := h.2.2.1
  have iff : ld_l d ≤ 0 ↔ d ≤ 0 := by
    rw [ld_l0]
    exact ld_lle (by omega) (by omega) (by omega) (by omega)
  by_cases hz : d ≤ 0
  · refine br_t (iff.mpr hz) ?_
    rw [show ld_c L d = (L - 4) * d from if_pos hz, ← ld_lmul, ← ld_il (a := L - 4) (by omega) (by omega), ← ld_isub, ← ld_i4] at hpost
    exact hpost
  · refine br_f (fun hh => hz (iff.mp hh)) ?_
    rw [show ld_c L d = L * d from if_neg hz, ← ld_lmul, ← ld_il (a := L) (by omega) (by omega)] at hpost
    exact hpost
theorem ld_yc6 {n : Nat} {L : Int} {X Y : Nat → Int} (h : ld_ok n L X Y) {f_top f_bottom : Int64} {f_found : Int32} {i : Nat} (hi : i < 8) {p q : Int} (hp : -1000 ≤ p) (hp' : p ≤ 1000) (hq : -40 ≤ q) (hq' : q ≤ 40) (post : Int64 → Prop) (hpost : post (ld_l (ld_s L X Y i p q n))) : ∀ d t : Nat, t + d = n → wY_costOf_6 post (nI i) (ld_i p) (ld_i q) (nI n) (ld_i L) f_top f_bottom f_found (fun j => ld_i (X j)) (fun j => ld_i (Y j)) (d + 1) (ld_l (ld_s L X Y i p q t)) (nI t) := by
  have hn := h.1
  have hX := h.2.2.2.1
  have hY := h.2.2.2.2
  intro d
  induction d with
  | zero =>
    intro t ht
    have ht' : t = n := by omega
    subst ht'
    exact br_t (nI_le (Nat.le_refl _) (by omega)) hpost
  | succ d ih =>
    intro t ht
    have t8 : t < 8 := by omega
    have x1 := hX i
    have x2 := hX t
    have y1 := hY i
    have y2 := hY t
    have e : (ld_i q).toInt64 * ((fun j => ld_i (Y j)) (nI t).toNatClampNeg - (fun j => ld_i (Y j)) (nI i).toNatClampNeg).toInt64 - (ld_i p).toInt64 * ((fun j => ld_i (X j)) (nI t).toNatClampNeg - (fun j => ld_i (X j)) (nI i).toNatClampNeg).toInt64 = ld_l (q * (Y t - Y i) - p * (X t - X i)) := by
      rw [ld_cl t8, ld_cl hi]
      simp only [ld_isub]
      rw [ld_il (by omega) (by omega), ld_il (by omega) (by omega), ld_il (by omega) (by omega), ld_il (by omega) (by omega), ld_lmul, ld_lmul, ld_lsub]
    refine br_f (nI_ge (by omega) (by omega)) ⟨ld_in t8, ld_in hi, ld_in t8, ld_in hi, ld_yk h (ld_db h i t hp hp' hq hq') e ?_⟩
    have nx := ih (t + 1) (by omega)
    rw [ld_ss] at nx
    exact nm_r (ld_ladd _ _) (nm_r (nI_1 t) nx)
theorem ld_yc {n : Nat} {L : Int} {X Y : Nat → Int} (h : ld_ok n L X Y) {f_top f_bottom : Int64} {f_found : Int32} {i : Nat} (hi : i < 8) {p q : Int} (hp : -1000 ≤ p) (hp' : p ≤ 1000) (hq : -40 ≤ q) (hq' : q ≤ 40) {post : Int64 → Prop} {x1 x2 : Int32} (e1 : x1 = ld_i p) (e2 : x2 = ld_i q) (hpost : post (ld_l (ld_s L X Y i p q n))) : wpY_costOf post (nI n, ld_i L, f_top, f_bottom, f_found, fun j => ld_i (X j), fun j => ld_i (Y j)) (nI i) x1 x2 := by
  subst e1 e2
  exact ⟨n + 1, ld_yc6 h hi hp hp' hq hq' post hpost n 0 (by omega)⟩
theorem ld_yle {n : Nat} {L : Int} {X Y : Nat → Int} (h : ld_ok n L X Y) (i j : Nat) : ld_i (X j) ≤ ld_i (X i) ↔ X j ≤ X i := by
  have hX := h.2.2.2.1
  have := hX i
  have := hX j
  exact ld_ile (by omega) (by omega) (by omega) (by omega)
theorem ld_yeq {n : Nat} {L : Int} {X Y : Nat → Int} (h : ld_ok n L X Y) (i j : Nat) : ld_i (X j) = ld_i (X i) ↔ X j = X i := by
  have hX := h.2.2.2.1
  have := hX i
  have := hX j
  exact ld_ieq (by omega) (by omega) (by omega) (by omega)
/-- rise, run and cost of the line through two points of different x, as the reference calls them -/
theorem ld_yrise {n : Nat} {L : Int} {X Y : Nat → Int} (h : ld_ok n L X Y) {f_top f_bottom : Int64} {f_found : Int32} {i j : Nat} (hi : i < 8) (hj : j < 8) {post : Int32 → Prop} (hpost : post (ld_i (if X j ≤ X i then Y i - Y j else Y j - Y i))) : wpY_rise post (nI n, ld_i L, f_top, f_bottom, f_found, fun j => ld_i (X j), fun j => ld_i (Y j)) (nI i) (nI j) := by
  have a := ld_cl hj
  have b := ld_cl hi
  refine ⟨ld_in hj, ld_in hi, ?_⟩
  rw [a, b]
  by_cases hc : X j ≤ X i
  · rw [if_pos hc, ← ld_isub] at hpost
    exact br_t ((ld_yle h i j).mpr hc) ⟨ld_in hi, ld_in hj, hpost⟩
  · rw [if_neg hc, ← ld_isub] at hpost
    exact br_f (fun hh => hc ((ld_yle h i j).mp hh)) ⟨ld_in hj, ld_in hi, hpost⟩
theorem ld_yrun {n : Nat} {L : Int} {X Y : Nat → Int} (h : ld_ok n L X Y) {f_top f_bottom : Int64} {f_found : Int32} {i j : Nat} (hi : i < 8) (hj : j < 8) {post : Int32 → Prop} (hpost : post (ld_i (if X j ≤ X i then X i - X j else X j - X i))) : wpY_run post (nI n, ld_i L, f_top, f_bottom, f_found, fun j => ld_i (X j), fun j => ld_i (Y j)) (nI i) (nI j) := by
  have a := ld_cl hj
  have b := ld_cl hi
  refine ⟨ld_in hj, ld_in hi, ?_⟩
  rw [a, b]
  by_cases hc : X j ≤ X i
  · rw [if_pos hc, ← ld_isub] at hpost
    exact br_t ((ld_yle h i j).mpr hc) ⟨ld_in hi, ld_in hj, hpost⟩
  · rw [if_neg hc, ← ld_isub] at hpost
    exact br_f (fun hh => hc ((ld_yle h i j).mp hh)) ⟨ld_in hj, ld_in hi, hpost⟩
theorem ld_yline {n : Nat} {L : Int} {X Y : Nat → Int} (h : ld_ok n L X Y) {f_top f_bottom : Int64} {f_found : Int32} {i j : Nat} (hi : i < 8) (hj : j < 8) (hne : X j ≠ X i) {post : Int64 → Int32 → Prop} (hpost : post (ld_l (ld_tp n L X Y i j)) (ld_i (ld_bt X i j))) : wpY_rise (fun r => wpY_run (fun s => wpY_costOf (fun c => post c s) (nI n, ld_i L, f_top, f_bottom, f_found, fun j => ld_i (X j), fun j => ld_i (Y j)) (nI i) r s) (nI n, ld_i L, f_top, f_bottom, f_found, fun j => ld_i (X j), fun j => ld_i (Y j)) (nI i) (nI j)) (nI n, ld_i L, f_top, f_bottom, f_found, fun j => ld_i (X j), fun j => ld_i (Y j)) (nI i) (nI j) := by
  have hX := h.2.2.2.1
  have hY := h.2.2.2.2
  have := hX i
  have := hX j
  have := hY i
  have := hY j
  refine ld_yrise h hi hj (ld_yrun h hi hj ?_)
  by_cases hc : X j ≤ X i
  · have hl : X j < X i := by omega
    rw [if_pos hc, if_pos hc]
    rw [ld_tpn hl, ld_btn hl] at hpost
    exact ld_yc h hi (by omega) (by omega) (by omega) (by omega) rfl rfl hpost
  · have hl : X i < X j := by omega
    rw [if_neg hc, if_neg hc]
    rw [ld_tpp hl, ld_btp hl] at hpost
    exact ld_yc h hi (by omega) (by omega) (by omega) (by omega) rfl rfl hpost
/-- what the reference has found of the set C -/
def ld_J (C : Int → Int → Prop) (T B : Int64) (f : Int32) : Prop := (f = 0 ∧ T = ld_l 0 ∧ B = ld_l 1 ∧ ∀ t b, ¬ C t b) ∨ (f = 1 ∧ ∃ t b, T = ld_l t ∧ B = ld_l b ∧ ld_lst C t b)
theorem ld_cmpL {a b c d : Int} (ha : 0 ≤ a ∧ a ≤ 998400) (hb : 1 ≤ b ∧ b ≤ 40) (hc : 0 ≤ c ∧ c ≤ 998400) (hd : 1 ≤ d ∧ d ≤ 40) : ld_l a * ld_l d ≤ ld_l c * ld_l b ↔ a * d ≤ c * b := by
  rw [ld_lmul, ld_lmul]
  have k1 := ld_p40 ha.1 ha.2 (b := d) (by omega) hd.2
  have k2 := ld_p40 hc.1 hc.2 (b := b) (by omega) hb.2
  exact ld_lle k1.1 k1.2 k2.1 k2.2
theorem ld_ylook {n L : Int32} {X Y : Nat → Int32} {C C' : Int → Int → Prop} (hC : ld_Cb C) {r s : Int} (hr : 0 ≤ r ∧ r ≤ 998400) (hs : 1 ≤ s ∧ s ≤ 40) (hC' : ∀ t b, C' t b ↔ C t b ∨ (t = r ∧ b = s)) {T B : Int64} {f : Int32} (hJ : ld_J C T B f) {post : SY → Prop} {x1 x2 : Int64} (e1 : x1 = ld_l r) (e2 : x2 = ld_l s) (hpost : ∀ T' B' : Int64, ∀ f' : Int32, ld_J C' T' B' f' → post (n, L, T', B', f', X, Y)) : wpY_look post (n, L, T, B, f, X, Y) x1 x2 := by
  subst e1 e2
  rcases hJ with ⟨ef, eT, eB, hno⟩ | ⟨ef, t, b, eT, eB, hl⟩
  · refine br_t ef (hpost _ _ _ (Or.inr ⟨rfl, r, s, rfl, rfl, (hC' r s).mpr (Or.inr ⟨rfl, rfl⟩), fun t' b' hc => ?_⟩))
    rcases (hC' t' b').mp hc with hc | ⟨e1, e2⟩
    · exact absurd hc (hno _ _)
    · subst e1 e2; exact Int.le_refl _
  · subst ef eT eB
    have hb := hC _ _ hl.1
    have iff := ld_cmpL (a := t) (b := b) (c := r) (d := s) ⟨hb.1, hb.2.1⟩ hb.2.2 hr hs
    refine br_f (by decide) ?_
    by_cases hc : t * s ≤ r * b
    · refine br_t (iff.mpr hc) (hpost _ _ _ (Or.inr ⟨rfl, t, b, rfl, rfl, (hC' t b).mpr (Or.inl hl.1), fun t' b' hc' => ?_⟩))
      rcases (hC' t' b').mp hc' with hc' | ⟨e1, e2⟩
      · exact hl.2 _ _ hc'
      · subst e1 e2; exact hc
    · refine br_f (fun hh => hc (iff.mp hh)) (hpost _ _ _ (Or.inr ⟨rfl, r, s, rfl, rfl, (hC' r s).mpr (Or.inr ⟨rfl, rfl⟩), fun t' b' hc' => ?_⟩))
      rcases (hC' t' b').mp hc' with hc' | ⟨e1, e2⟩
      · have hb' := hC _ _ hc'
        exact ld_tr (c := t) (d := b) (by omega) (by omega) (by omega) (by omega) (hl.2 _ _ hc')
      · subst e1 e2; exact Int.le_refl _
/-- what lookThrough has seen ahead of its turn m -/
def ld_Cm (C : Int → Int → Prop) (n : Nat) (L : Int) (X Y : Nat → Int) (i m : Nat) : Int → Int → Prop := fun t b => C t b ∨ ∃ j, j < m ∧ X j ≠ X i ∧ t = ld_tp n L X Y i j ∧ b = ld_bt X i j
theorem ld_CmB {n : Nat} {L : Int} {X Y : Nat → Int} (h : ld_ok n L X Y) {C : Int → Int → Prop} (hC : ld_Cb C) (i m : Nat) : ld_Cb (ld_Cm C n L X Y i m) := by
  intro t b hc
  rcases hc with hc | ⟨j, _, _, e1, e2⟩
  · exact hC _ _ hc
  · have := ld_tpb h i j
    have := ld_btb h i j
    subst e1 e2
    omega
def ld_Cp (C : Int → Int → Prop) (n : Nat) (L : Int) (X Y : Nat → Int) (i : Nat) : Int → Int → Prop := fun t b => C t b ∨ ld_Ci n L X Y i t b
theorem ld_JCp {n : Nat} {L : Int} {X Y : Nat → Int} (h : ld_ok n L X Y) {C : Int → Int → Prop} (hC : ld_Cb C) {i : Nat} {T B : Int64} {f : Int32} (he : ∃ t, t < n ∧ X t ≠ X i) (hJ : ld_J (ld_Cm C n L X Y i n) T B f) : ld_J (ld_Cp C n L X Y i) T B f := by
  obtain ⟨j0, hj0, hne0, hlev⟩ := ld_lev h he
  rcases hJ with ⟨_, _, _, hno⟩ | ⟨ef, t, b, eT, eB, hl⟩
  · exact absurd (Or.inr ⟨j0, hj0, hne0, rfl, rfl⟩) (hno (ld_tp n L X Y i j0) (ld_bt X i j0))
  · refine Or.inr ⟨ef, t, b, eT, eB, ?_, fun t' b' hc => ?_⟩
    · rcases hl.1 with hc | ⟨j, hj, _, e1, e2⟩
      · exact Or.inl hc
      · exact Or.inr ⟨j, hj, e1, e2⟩
    · rcases hc with hc | ⟨j, hj, e1, e2⟩
      · exact hl.2 _ _ (Or.inl hc)
      · by_cases hx : X j = X i
        · rw [ld_tp0 hx] at e1
          rw [ld_bt0 hx] at e2
          subst e1 e2
          have b1 := (ld_CmB h hC i n) _ _ hl.1
          have b2 := ld_btb h i j0
          exact ld_tr (by omega) (by omega) (by omega) (hl.2 _ _ (Or.inr ⟨j0, hj0, hne0, rfl, rfl⟩)) hlev
        · exact hl.2 _ _ (Or.inr ⟨j, hj, hx, e1, e2⟩)
theorem ld_yt4 {n : Nat} {L : Int} {X Y : Nat → Int} (h : ld_ok n L X Y) {C : Int → Int → Prop} (hC : ld_Cb C) {i : Nat} (hi : i < n) (post : SY → Prop) (hpost : ∀ T' B' : Int64, ∀ f' : Int32, ld_J (ld_Cp C n L X Y i) T' B' f' → post (nI n, ld_i L, T', B', f', fun j => ld_i (X j), fun j => ld_i (Y j))) : ∀ d t : Nat, ∀ a : Int32, ∀ T B : Int64, ∀ f : Int32, t + d = n → ((a = 1 ∧ ∀ j, j < t → X j = X i) ∨ (a = 0 ∧ ∃ j, j < t ∧ X j ≠ X i)) → ld_J (ld_Cm C n L X Y i t) T B f → wY_lookThrough_4 post (nI i) (d + 1) a (nI t) (nI n) (ld_i L) T B f (fun j => ld_i (X j)) (fun j => ld_i (Y j)) := by
  have hn := h.1
  intro d
  induction d with
  | zero =>
    intro t a T B f ht ha hJ
    have ht' : t = n := by omega
    subst ht'
    refine br_t (nI_le (Nat.le_refl _) (by omega)) (ld_yc h (by omega) (by omega) (by omega) (by omega) (by omega) ld_i0 ld_i1 ?_)
    rcases ha with ⟨ea, hall⟩ | ⟨ea, hex⟩
    · subst ea
      refine br_f (by decide) (ld_ylook (ld_CmB h hC i t) (C' := ld_Cp C t L X Y i) ⟨ld_s0 h i 0 1 t, ld_sb h i hn (by omega) (by omega) (by omega) (by omega)⟩ (s := 1) (by omega) ?_ hJ rfl ld_l1 hpost)
      intro r s
      constructor
      · intro hc
        rcases hc with hc | ⟨j, hj, e1, e2⟩
        · exact Or.inl (Or.inl hc)
        · rw [ld_tp0 (hall j hj)] at e1
          rw [ld_bt0 (hall j hj)] at e2
          exact Or.inr ⟨e1, e2⟩
      · intro hc
        rcases hc with (hc | ⟨j, hj, hx, _⟩) | ⟨e1, e2⟩
        · exact Or.inl hc
        · exact absurd (hall j hj) hx
        · exact Or.inr ⟨i, hi, by rw [ld_tp0 rfl]; exact e1, by rw [ld_bt0 rfl]; exact e2⟩
    · subst ea
      exact br_t rfl (hpost _ _ _ (ld_JCp h hC hex hJ))
  | succ d ih =>
    intro t a T B f ht ha hJ
    have t8 : t < 8 := by omega
    have i8 : i < 8 := by omega
    refine br_f (nI_ge (by omega) (by omega)) ⟨ld_in t8, ld_in i8, ?_⟩
    have c1 := ld_cl t8
    have c2 := ld_cl i8
    rw [c1, c2]
    by_cases hx : X t = X i
    · refine br_t ((ld_yeq h i t).mpr hx) (nm_r (nI_1 t) (ih (t + 1) a T B f (by omega) ?_ ?_))
      · rcases ha with ⟨ea, hall⟩ | ⟨ea, j, hj, hne⟩
        · refine Or.inl ⟨ea, fun j hj => ?_⟩
          by_cases hjt : j = t
          · subst hjt; exact hx
          · exact hall j (by omega)
        · exact Or.inr ⟨ea, j, by omega, hne⟩
      · have eC : ld_Cm C n L X Y i (t + 1) = ld_Cm C n L X Y i t := by
          funext r s
          apply propext
          constructor
          · intro hc
            rcases hc with hc | ⟨j, hj, hne, e⟩
            · exact Or.inl hc
            · have hjt : j ≠ t := fun e => hne (e ▸ hx)
              exact Or.inr ⟨j, by omega, hne, e⟩
          · intro hc
            rcases hc with hc | ⟨j, hj, hne, e⟩
            · exact Or.inl hc
            · exact Or.inr ⟨j, by omega, hne, e⟩
        rw [eC]
        exact hJ
    · have bt := ld_btb h i t
      refine br_f (fun hh => hx ((ld_yeq h i t).mp hh)) (ld_yline h i8 t8 hx (ld_ylook (ld_CmB h hC i t) (C' := ld_Cm C n L X Y i (t + 1)) (ld_tpb h i t) bt ?_ hJ rfl (ld_il (by omega) (by omega)) ?_))
      · intro r s
        constructor
        · intro hc
          rcases hc with hc | ⟨j, hj, hne, e⟩
          · exact Or.inl (Or.inl hc)
          · by_cases hjt : j = t
            · subst hjt; exact Or.inr e
            · exact Or.inl (Or.inr ⟨j, by omega, hne, e⟩)
        · intro hc
          rcases hc with (hc | ⟨j, hj, hne, e⟩) | e
          · exact Or.inl hc
          · exact Or.inr ⟨j, by omega, hne, e⟩
          · exact Or.inr ⟨t, by omega, hx, e⟩
      · intro T' B' f' hJ'
        exact nm_r (nI_1 t) (ih (t + 1) 0 T' B' f' (by omega) (Or.inr ⟨rfl, t, by omega, hx⟩) hJ')
theorem ld_yt {n : Nat} {L : Int} {X Y : Nat → Int} (h : ld_ok n L X Y) {C : Int → Int → Prop} (hC : ld_Cb C) {i : Nat} (hi : i < n) {T B : Int64} {f : Int32} (hJ : ld_J C T B f) {post : SY → Prop} (hpost : ∀ T' B' : Int64, ∀ f' : Int32, ld_J (ld_Cp C n L X Y i) T' B' f' → post (nI n, ld_i L, T', B', f', fun j => ld_i (X j), fun j => ld_i (Y j))) : wpY_lookThrough post (nI n, ld_i L, T, B, f, fun j => ld_i (X j), fun j => ld_i (Y j)) (nI i) := by
  have eC : ld_Cm C n L X Y i 0 = C := by
    funext r s
    apply propext
    constructor
    · intro hc
      rcases hc with hc | ⟨j, hj, _⟩
      · exact hc
      · exact absurd hj (Nat.not_lt_zero j)
    · exact Or.inl
  exact ⟨n + 1, ld_yt4 h hC hi post hpost n 0 1 T B f (by omega) (Or.inl ⟨rfl, fun j hj => absurd hj (Nat.not_lt_zero j)⟩) (by rw [eC]; exact hJ)⟩
theorem ld_yl6 {n : Nat} {L : Int} {X Y : Nat → Int} (h : ld_ok n L X Y) (post : SY → Prop) (hpost : ∀ T' B' : Int64, ∀ f' : Int32, ld_J (ld_Ca n L X Y n) T' B' f' → post (nI n, ld_i L, T', B', f', fun j => ld_i (X j), fun j => ld_i (Y j))) : ∀ d t : Nat, ∀ T B : Int64, ∀ f : Int32, t + d = n → ld_J (ld_Ca n L X Y t) T B f → wY_least_6 post (d + 1) (nI t) (nI n) (ld_i L) T B f (fun j => ld_i (X j)) (fun j => ld_i (Y j)) := by
  have hn := h.1
  intro d
  induction d with
  | zero =>
    intro t T B f ht hJ
    have ht' : t = n := by omega
    subst ht'
    exact br_t (nI_le (Nat.le_refl _) (by omega)) (hpost T B f hJ)
  | succ d ih =>
    intro t T B f ht hJ
    refine br_f (nI_ge (by omega) (by omega)) (ld_yt h (ld_CaB h t) (by omega) hJ fun T' B' f' hJ' => ?_)
    have eC : ld_Cp (ld_Ca n L X Y t) n L X Y t = ld_Ca n L X Y (t + 1) := by
      funext r s
      apply propext
      constructor
      · intro hc
        rcases hc with ⟨i, hi, e⟩ | e
        · exact ⟨i, by omega, e⟩
        · exact ⟨t, by omega, e⟩
      · intro ⟨i, hi, e⟩
        by_cases hit : i = t
        · subst hit; exact Or.inr e
        · exact Or.inl ⟨i, by omega, e⟩
    rw [eC] at hJ'
    exact nm_r (nI_1 t) (ih (t + 1) T' B' f' (by omega) hJ')
theorem ld_yl {n : Nat} {L : Int} {X Y : Nat → Int} (h : ld_ok n L X Y) {T B : Int64} {f : Int32} {post : SY → Prop} (hpost : ∀ T' B' : Nat, ∀ f' : Int32, ld_best n L X Y T' B' → post (nI n, ld_i L, lN T', lN B', f', fun j => ld_i (X j), fun j => ld_i (Y j))) : wpY_least post (nI n, ld_i L, T, B, f, fun j => ld_i (X j), fun j => ld_i (Y j)) := by
  refine ⟨n + 1, ld_yl6 h post ?_ n 0 0 1 0 (by omega) (Or.inl ⟨rfl, ld_l0, ld_l1, fun t b ⟨i, hi, _⟩ => absurd hi (Nat.not_lt_zero i)⟩)⟩
  intro T' B' f' hJ
  rcases hJ with ⟨_, eT, eB, hno⟩ | ⟨_, t, b, eT, eB, hl⟩
  · have h0 : n = 0 := by
      apply Classical.byContradiction
      intro hne
      exact hno _ _ ⟨0, by omega, 0, by omega, rfl, rfl⟩
    subst eT eB
    exact hpost 0 1 f' (Or.inl ⟨h0, rfl, rfl⟩)
  · obtain ⟨t', b', e1, e2, _⟩ := ld_lstN (ld_CaB h n) hl
    subst e1 e2 eT eB
    rw [ld_lN, ld_lN]
    refine hpost t' b' f' (Or.inr ⟨?_, hl⟩)
    obtain ⟨i, hi, _⟩ := hl.1
    omega
theorem ld_yg13 {T B : Nat} (hT : T ≤ 998400) (hB : 1 ≤ B) (hB' : B ≤ 40) (n L : Int32) (f_top f_bottom : Int64) (f : Int32) (X Y : Nat → Int32) (post : Int64 → Prop) (hpost : post (lN (Nat.gcd T B))) : ∀ d k a b : Nat, k + d = 90 → a ≤ 998400 → b ≤ 998400 → 0 < a + b → Nat.gcd a b = Nat.gcd T B → ((k = 0 ∧ b ≤ 40) ∨ a + k ≤ 41 ∨ a = 0) → wY_common_13 post n L f_top f_bottom f X Y (d + 1) (lN a) (lN b) (nI k) := by
  intro d
  induction d with
  | zero =>
    intro k a b hk ha hb hab hg hm
    have a0 : a = 0 := by omega
    subst a0
    rw [Nat.gcd_zero_left] at hg
    refine br_t (nI_le (a := 90) (by omega) (by omega)) (br_t ((lN_le (a := 1) (by omega) (by omega)).mpr (by omega)) ?_)
    rw [hg]
    exact hpost
  | succ d ih =>
    intro k a b hk ha hb hab hg hm
    refine br_f (nI_ge (b := 90) (by omega) (by omega)) ?_
    by_cases a0 : a = 0
    · subst a0
      exact br_t rfl (nm_r (nI_1 k) (ih (k + 1) 0 b (by omega) ha hb hab hg (Or.inr (Or.inr rfl))))
    · have ne : ¬ lN a = 0 := fun e => a0 ((lN_eq (a := a) (b := 0) (by omega) (by omega)).mp e)
      have lt : b % a < a := Nat.mod_lt _ (by omega)
      have le : b % a ≤ b := Nat.mod_le _ _
      refine br_f ne (br_f ne ⟨ne, nm_r (pk_lRem (by omega) (by omega) (by omega)) (nm_r (nI_1 k) (ih (k + 1) (b % a) a (by omega) (by omega) ha (by omega) ?_ (by omega)))⟩)
      rw [← hg, Nat.gcd_rec a b]
theorem ld_yg {T B : Nat} (hT : T ≤ 998400) (hB : 1 ≤ B) (hB' : B ≤ 40) {n L f : Int32} {X Y : Nat → Int32} {post : Int64 → Prop} (hpost : post (lN (Nat.gcd T B))) : wpY_common post (n, L, lN T, lN B, f, X, Y) :=
  ⟨91, ld_yg13 hT hB hB' n L (lN T) (lN B) f X Y post hpost 90 0 T B (by omega) hT (by omega) (by omega) rfl (Or.inl ⟨rfl, hB'⟩)⟩
theorem ld_yu {T B : Nat} (hT : T ≤ 998400) (hB : 1 ≤ B) (hB' : B ≤ 40) {n L f : Int32} {X Y : Nat → Int32} {post : Int32 → Prop} (hpost : post (nI (T / Nat.gcd T B))) : wpY_upper post (n, L, lN T, lN B, f, X, Y) := by
  have g0 : 0 < Nat.gcd T B := Nat.gcd_pos_of_pos_right _ (by omega)
  have gl : Nat.gcd T B ≤ B := Nat.le_of_dvd (by omega) (Nat.gcd_dvd_right T B)
  refine ld_yg hT hB hB' ⟨fun e => ?_, ?_⟩
  · have := (lN_eq (a := Nat.gcd T B) (b := 0) (by omega) (by omega)).mp e
    omega
  · rw [pk_lDiv (by omega) g0 (by omega), lN_i]
    exact hpost
theorem ld_yd {T B : Nat} (hT : T ≤ 998400) (hB : 1 ≤ B) (hB' : B ≤ 40) {n L f : Int32} {X Y : Nat → Int32} {post : Int32 → Prop} (hpost : post (nI (B / Nat.gcd T B))) : wpY_lower post (n, L, lN T, lN B, f, X, Y) := by
  have g0 : 0 < Nat.gcd T B := Nat.gcd_pos_of_pos_right _ (by omega)
  have gl : Nat.gcd T B ≤ B := Nat.le_of_dvd (by omega) (Nat.gcd_dvd_right T B)
  refine ld_yg hT hB hB' ⟨fun e => ?_, ?_⟩
  · have := (lN_eq (a := Nat.gcd T B) (b := 0) (by omega) (by omega)).mp e
    omega
  · rw [pk_lDiv (by omega) g0 (by omega), lN_i]
    exact hpost
theorem ld_yw7 {n : Nat} {L : Int} {X Y : Nat → Int} (h : ld_ok n L X Y) {f_top f_bottom : Int64} {f_found : Int32} {p q : Int} (hp : -1000 ≤ p) (hp' : p ≤ 1000) (hq : -40 ≤ q) (hq' : q ≤ 40) (post : Int64 → Prop) (hpost : ∀ W, ld_ws n L X Y p q W → post (ld_l W)) : ∀ d t : Nat, ∀ W : Int, t + d = n → ((t = 0 ∧ W = -1) ∨ ((∃ i, i < n ∧ W = ld_s L X Y i p q n) ∧ (∀ i, i < t → W ≤ ld_s L X Y i p q n))) → wY_with_7 post (ld_i p) (ld_i q) (nI n) (ld_i L) f_top f_bottom f_found (fun j => ld_i (X j)) (fun j => ld_i (Y j)) (d + 1) (ld_l W) (nI t) := by
  have hn := h.1
  intro d
  induction d with
  | zero =>
    intro t W ht hW
    have ht' : t = n := by omega
    subst ht'
    refine br_t (nI_le (Nat.le_refl _) (by omega)) ?_
    rcases hW with ⟨e0, eW⟩ | hW
    · subst eW
      exact br_f (by decide) (hpost 0 (Or.inl ⟨e0, rfl⟩))
    · have hw : ld_ws t L X Y p q W := Or.inr hW
      have b3 := ld_wsb h hp hp' hq hq' hw
      have iff : ld_l 0 ≤ ld_l W ↔ 0 ≤ W := ld_lle (by omega) (by omega) (by omega) (by omega)
      exact br_t (iff.mpr b3.1) (hpost W hw)
  | succ d ih =>
    intro t W ht hW
    refine br_f (nI_ge (by omega) (by omega)) (ld_yc h (by omega) hp hp' hq hq' rfl rfl ?_)
    have b1 := ld_s0 h t p q n
    have b2 := ld_sb h t hn hp hp' hq hq'
    rcases hW with ⟨e0, eW⟩ | ⟨hW, hm⟩
    · subst e0 eW
      refine br_t (by decide) (nm_r (nI_1 0) (ih 1 _ (by omega) (Or.inr ⟨⟨0, by omega, rfl⟩, fun i hi => ?_⟩)))
      have hi0 : i = 0 := by omega
      subst hi0
      exact Int.le_refl _
    · have b3 : 0 ≤ W ∧ W ≤ 998400 := by
        obtain ⟨i, _, e⟩ := hW
        rw [e]
        exact ⟨ld_s0 h i p q n, ld_sb h i hn hp hp' hq hq'⟩
      have i0 : ld_l W < ld_l 0 ↔ W < 0 := ld_llt (by omega) (by omega) (by omega) (by omega)
      have iff : ld_l W ≤ ld_l (ld_s L X Y t p q n) ↔ W ≤ ld_s L X Y t p q n := ld_lle (by omega) (by omega) (by omega) (by omega)
      refine br_f (fun hh => by have := i0.mp hh; omega) ?_
      by_cases hc : W ≤ ld_s L X Y t p q n
      · refine br_t (iff.mpr hc) (nm_r (nI_1 t) (ih (t + 1) W (by omega) (Or.inr ⟨hW, fun i hi => ?_⟩)))
        by_cases hit : i = t
        · subst hit; exact hc
        · exact hm i (by omega)
      · refine br_f (fun hh => hc (iff.mp hh)) (nm_r (nI_1 t) (ih (t + 1) _ (by omega) (Or.inr ⟨⟨t, by omega, rfl⟩, fun i hi => ?_⟩)))
        by_cases hit : i = t
        · subst hit; exact Int.le_refl _
        · have := hm i (by omega)
          omega
theorem ld_yw {n : Nat} {L : Int} {X Y : Nat → Int} (h : ld_ok n L X Y) {f_top f_bottom : Int64} {f_found : Int32} {p q : Int} (hp : -1000 ≤ p) (hp' : p ≤ 1000) (hq : -40 ≤ q) (hq' : q ≤ 40) {post : Int64 → Prop} (hpost : ∀ W, ld_ws n L X Y p q W → post (ld_l W)) : wpY_with post (nI n, ld_i L, f_top, f_bottom, f_found, fun j => ld_i (X j), fun j => ld_i (Y j)) (ld_i p) (ld_i q) :=
  ⟨n + 1, ld_yw7 h hp hp' hq hq' post hpost n 0 (-1) (by omega) (Or.inl ⟨rfl, rfl⟩)⟩
