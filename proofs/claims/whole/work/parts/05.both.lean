/-! refusals, both sides alike -/
theorem ld_slope (v1 v2 : Int32) : ((∀ (post : Int32 → Prop) (u : SX), post 0 → wpX_isSlope post u v1 v2) ∧ (∀ (post : Int32 → Prop) (v : SY), post 0 → wpY_isSlope post v v1 v2)) ∨ ((∀ (post : Int32 → Prop) (u : SX), post 1 → wpX_isSlope post u v1 v2) ∧ (∀ (post : Int32 → Prop) (v : SY), post 1 → wpY_isSlope post v v1 v2) ∧ ∃ p q : Int, v1 = ld_i p ∧ v2 = ld_i q ∧ -1000 ≤ p ∧ p ≤ 1000 ∧ 1 ≤ q ∧ q ≤ 40) := by
  by_cases a1 : v1 < (-1000)
  · exact Or.inl ⟨fun _ _ hp => br_t a1 hp, fun _ _ hp => br_t a1 hp⟩
  · by_cases a2 : 1000 < v1
    · exact Or.inl ⟨fun _ _ hp => br_f a1 (br_t a2 hp), fun _ _ hp => br_f a1 (br_t a2 hp)⟩
    · by_cases a3 : v2 < 1
      · exact Or.inl ⟨fun _ _ hp => br_f a1 (br_f a2 (br_t a3 hp)), fun _ _ hp => br_f a1 (br_f a2 (br_t a3 hp))⟩
      · by_cases a4 : 40 < v2
        · exact Or.inl ⟨fun _ _ hp => br_f a1 (br_f a2 (br_f a3 (br_t a4 hp))), fun _ _ hp => br_f a1 (br_f a2 (br_f a3 (br_t a4 hp)))⟩
        · refine Or.inr ⟨fun _ _ hp => br_f a1 (br_f a2 (br_f a3 (br_f a4 hp))), fun _ _ hp => br_f a1 (br_f a2 (br_f a3 (br_f a4 hp))), v1.toInt, v2.toInt, ld_iof v1, ld_iof v2, ?_⟩
          have e1 : (-1000 : Int32).toInt = -1000 := by decide
          have e2 : (1000 : Int32).toInt = 1000 := by decide
          have e3 : (1 : Int32).toInt = 1 := by decide
          have e4 : (40 : Int32).toInt = 40 := by decide
          rw [Int32.lt_iff_toInt_lt] at a1 a2 a3 a4
          omega
theorem ld_point {n : Nat} (hn : n ≤ 8) (v1 : Int32) : ((∀ (post : Int32 → Prop) (L : Int32) (a b : Nat → Int32), post 0 → wpX_isPoint post (nI n, L, a, b) v1) ∧ (∀ (post : Int32 → Prop) (L : Int32) (T B : Int64) (f : Int32) (a b : Nat → Int32), post 0 → wpY_isPoint post (nI n, L, T, B, f, a, b) v1)) ∨ (∃ j : Nat, j < n ∧ v1 = nI j ∧ (∀ (post : Int32 → Prop) (L : Int32) (a b : Nat → Int32), post 1 → wpX_isPoint post (nI n, L, a, b) v1) ∧ (∀ (post : Int32 → Prop) (L : Int32) (T B : Int64) (f : Int32) (a b : Nat → Int32), post 1 → wpY_isPoint post (nI n, L, T, B, f, a, b) v1)) := by
  by_cases a1 : v1 < 0
  · exact Or.inl ⟨fun _ _ _ _ hp => br_t a1 hp, fun _ _ _ _ _ _ _ hp => br_t a1 hp⟩
  · by_cases a2 : nI n ≤ v1
    · exact Or.inl ⟨fun _ _ _ _ hp => br_f a1 (br_t a2 hp), fun _ _ _ _ _ _ _ hp => br_f a1 (br_t a2 hp)⟩
    · rcases pk_ix v1 (n := n) (by omega) with c | c | ⟨j, hj, e⟩
      · exact absurd c a1
      · exact absurd c a2
      · exact Or.inr ⟨j, hj, e, fun _ _ _ _ hp => br_f a1 (br_f a2 hp), fun _ _ _ _ _ _ _ hp => br_f a1 (br_f a2 hp)⟩
/-! stores -/
def ld_up (X : Nat → Int) (n : Nat) (z : Int) : Nat → Int := fun j => if j = n then z else X j
theorem ld_upd {X : Nat → Int} {n : Nat} (hn : n < 8) {x : Int32} {z : Int} (hx : x = ld_i z) : upd (fun j => ld_i (X j)) (nI n).toNatClampNeg x = fun j => ld_i (ld_up X n z j) := by
  rw [ld_cl hn, hx]
  funext j
  show (if j = n then ld_i z else ld_i (X j)) = ld_i (if j = n then z else X j)
  split <;> rfl
def ld_bd (X : Nat → Int) : Prop := ∀ j, -20 ≤ X j ∧ X j ≤ 20
theorem ld_upb {X : Nat → Int} (hX : ld_bd X) {n : Nat} {z : Int} (h1 : -20 ≤ z) (h2 : z ≤ 20) : ld_bd (ld_up X n z) := by
  intro j
  show -20 ≤ (if j = n then z else X j) ∧ (if j = n then z else X j) ≤ 20
  split
  · exact ⟨h1, h2⟩
  · exact hX j
theorem ld_drop {m : Nat} (hm : m < 8) (L : Int32) (T B : Int64) (f : Int32) : ∀ d t : Nat, ∀ X Y : Nat → Int, ld_bd X → ld_bd Y → t + d = m → ∃ X' Y' : Nat → Int, ld_bd X' ∧ ld_bd Y' ∧ (∀ post : Int32 → SX → Prop, post (nI m) (nI m, L, fun j => ld_i (X' j), fun j => ld_i (Y' j)) → wX_drop_12 post (nI (m + 1)) L (d + 1) (nI t) (fun j => ld_i (X j)) (fun j => ld_i (Y j))) ∧ (∀ post : Int32 → SY → Prop, post (nI m) (nI m, L, T, B, f, fun j => ld_i (X' j), fun j => ld_i (Y' j)) → wY_drop_12 post (nI (m + 1)) L T B f (d + 1) (nI t) (fun j => ld_i (X j)) (fun j => ld_i (Y j))) := by
  intro d
  induction d with
  | zero =>
    intro t X Y hX hY ht
    have ht' : t = m := by omega
    subst ht'
    have c1 : nI (t + 1) ≤ nI t + 1 := by rw [nI_1]; exact nI_le (Nat.le_refl _) (by omega)
    have c2 : nI (t + 1) - 1 ≤ nI t := by rw [nI_pred]; exact nI_le (Nat.le_refl _) (by omega)
    exact ⟨X, Y, hX, hY, fun post hp => br_t c1 (nm_r (nI_pred t) hp), fun post hp => br_t c2 (nm_r (nI_pred t) hp)⟩
  | succ d ih =>
    intro t X Y hX hY ht
    have c1 : ¬ nI (m + 1) ≤ nI t + 1 := by rw [nI_1]; exact nI_ge (by omega) (by omega)
    have c2 : ¬ nI (m + 1) - 1 ≤ nI t := by rw [nI_pred]; exact nI_ge (by omega) (by omega)
    have i1 : vp_in (nI t + 1) 8 := by rw [nI_1]; exact ld_in (by omega)
    have i2 : vp_in (nI t) 8 := ld_in (by omega)
    have ex : upd (fun j => ld_i (X j)) (nI t).toNatClampNeg ((fun j => ld_i (X j)) (nI t + 1).toNatClampNeg) = fun j => ld_i (ld_up X t (X (t + 1)) j) := ld_upd (by omega) (by rw [nI_1, ld_cl (by omega)])
    have ey : upd (fun j => ld_i (Y j)) (nI t).toNatClampNeg ((fun j => ld_i (Y j)) (nI t + 1).toNatClampNeg) = fun j => ld_i (ld_up Y t (Y (t + 1)) j) := ld_upd (by omega) (by rw [nI_1, ld_cl (by omega)])
    obtain ⟨X', Y', hX', hY', hx, hy⟩ := ih (t + 1) (ld_up X t (X (t + 1))) (ld_up Y t (Y (t + 1))) (ld_upb hX (hX _).1 (hX _).2) (ld_upb hY (hY _).1 (hY _).2) (by omega)
    exact ⟨X', Y', hX', hY', fun post hp => br_f c1 ⟨i1, i2, nm_r ex ⟨i1, i2, nm_r ey (nm_r (nI_1 t) (hx post hp))⟩⟩, fun post hp => br_f c2 ⟨i1, i2, nm_r ex ⟨i1, i2, nm_r ey (nm_r (nI_1 t) (hy post hp))⟩⟩⟩
/-! what the questions share -/
theorem ld_cX {W q : Int} {a b : Nat} (hW : 0 ≤ W ∧ W ≤ 998400) (hq : 1 ≤ q ∧ q ≤ 40) (ha : a ≤ 998400) (hb : b ≤ 40) : ld_i W * nI b = nI a * ld_i q ↔ W * b = a * q := by
  rw [← ld_iN, ← ld_iN, ld_imul, ld_imul]
  have k1 := ld_p40 hW.1 hW.2 (b := (b : Int)) (by omega) (by omega)
  have k2 := ld_p40 (a := (a : Int)) (by omega) (by omega) (b := q) (by omega) hq.2
  exact ld_ieq k1.1 k1.2 k2.1 k2.2
theorem ld_cY {W q : Int} {a b : Nat} (hW : 0 ≤ W ∧ W ≤ 998400) (hq : 1 ≤ q ∧ q ≤ 40) (ha : a ≤ 998400) (hb : b ≤ 40) : ld_l W * lN b = lN a * (ld_i q).toInt64 ↔ W * b = a * q := by
  rw [ld_il (by omega) (by omega), ← ld_lN, ← ld_lN, ld_lmul, ld_lmul]
  have k1 := ld_p40 hW.1 hW.2 (b := (b : Int)) (by omega) (by omega)
  have k2 := ld_p40 (a := (a : Int)) (by omega) (by omega) (b := q) (by omega) hq.2
  exact ld_leq k1.1 k1.2 k2.1 k2.2
/-- the two comparisons with the least cost: by lowest terms, and by the fraction found -/
theorem ld_cXY {n : Nat} {L : Int} {X Y : Nat → Int} (h : ld_ok n L X Y) {W q : Int} (hW : 0 ≤ W ∧ W ≤ 998400) (hq : 1 ≤ q ∧ q ≤ 40) {T B T2 B2 T3 B3 : Nat} (h1 : ld_best n L X Y T B) (h2 : ld_best n L X Y T2 B2) (h3 : ld_best n L X Y T3 B3) : ld_i W * nI (B2 / Nat.gcd T2 B2) = nI (T / Nat.gcd T B) * ld_i q ↔ ld_l W * lN B3 = lN T3 * (ld_i q).toInt64 := by
  have b1 := ld_bestb h h1
  have b2 := ld_bestb h h2
  have b3 := ld_bestb h h3
  have l1 : T / Nat.gcd T B ≤ T := Nat.div_le_self _ _
  have l2 : B2 / Nat.gcd T2 B2 ≤ B2 := Nat.div_le_self _ _
  rw [ld_cX hW hq (by omega) (by omega), ld_cY hW hq b3.1 b3.2.2, (ld_bestred h h1 h3).1, (ld_bestred h h2 h3).2]
  exact ld_cmp b3.2.1 W q
theorem ld_yth {n : Nat} {L : Int} {X Y : Nat → Int} (h : ld_ok n L X Y) {i : Nat} (hi : i < n) {post : SY → Prop} (hpost : ∀ T' B' : Nat, ∀ f' : Int32, T' ≤ 998400 → 1 ≤ B' → B' ≤ 40 → ld_lst (ld_Ci n L X Y i) T' B' → post (nI n, ld_i L, lN T', lN B', f', fun j => ld_i (X j), fun j => ld_i (Y j))) : wpY_lookThrough post (nI n, ld_i L, 0, 1, 0, fun j => ld_i (X j), fun j => ld_i (Y j)) (nI i) := by
  refine ld_yt h (C := fun _ _ => False) (fun t b hc => hc.elim) hi (Or.inl ⟨rfl, ld_l0, ld_l1, fun t b hc => hc⟩) fun T' B' f' hJ => ?_
  have eC : ld_Cp (fun _ _ => False) n L X Y i = ld_Ci n L X Y i := by
    funext r s
    apply propext
    constructor
    · intro hc
      rcases hc with hc | hc
      · exact hc.elim
      · exact hc
    · exact Or.inr
  rw [eC] at hJ
  rcases hJ with ⟨_, _, _, hno⟩ | ⟨_, t, b, eT, eB, hl⟩
  · exact absurd ⟨i, hi, rfl, rfl⟩ (hno (ld_tp n L X Y i i) (ld_bt X i i))
  · obtain ⟨t', b', e1, e2, k1, k2, k3⟩ := ld_lstN (ld_CiB h i) hl
    subst e1 e2 eT eB
    rw [ld_lN, ld_lN]
    exact hpost t' b' f' k1 k2 k3 hl
