section
theorem pk_sub {a b : Nat} (h : b ≤ a) : nI a - nI b = nI (a - b) := by
  obtain ⟨c, rfl⟩ : ∃ c, a = c + b := ⟨a - b, by omega⟩
  rw [← nI_add, Int32.add_sub_cancel, Nat.add_sub_cancel]
theorem pk_m1 (n : Nat) : nI (n + 1) + (-1) = nI n := by
  rw [← nI_1, Int32.add_assoc, show (1 : Int32) + (-1) = 0 from rfl, Int32.add_zero]
theorem pk_mul (a b : Nat) : nI a * nI b = nI (a * b) := (Int32.ofNat_mul a b).symm
theorem pk_div {a d : Nat} (ha : a < 2 ^ 31) (h0 : 0 < d) (hd : d < 2 ^ 31) : nI a / nI d = nI (a / d) := by
  apply Int32.toInt_inj.mp
  rw [lg_idiv_nonneg (by rw [nI_toInt ha]; omega) (by rw [nI_toInt hd]; omega), nI_toInt ha, nI_toInt hd, nI_toInt (Nat.lt_of_le_of_lt (Nat.div_le_self a d) ha)]
  first | rfl | exact (Int.natCast_ediv _ _).symm
theorem pk_rem {a d : Nat} (ha : a < 2 ^ 31) (h0 : 0 < d) (hd : d < 2 ^ 31) : nI a - nI a / nI d * nI d = nI (a % d) := by
  rw [pk_div ha h0 hd, pk_mul, pk_sub (Nat.div_mul_le_self a d)]
  exact congrArg nI (by have := Nat.div_add_mod' a d; omega)
theorem pk_ix (x : Int32) {n : Nat} (hn : n < 2 ^ 31) : x < 0 ∨ nI n ≤ x ∨ ∃ j : Nat, j < n ∧ x = nI j := by
  by_cases h : x < 0
  · exact Or.inl h
  · obtain ⟨j, hj, rfl⟩ := nI_of h
    by_cases h2 : j < n
    · exact Or.inr (Or.inr ⟨j, h2, rfl⟩)
    · exact Or.inr (Or.inl (nI_le (by omega) hj))
theorem pk_lT {n : Nat} (h : n < 2 ^ 63) : (lN n).toInt = (n : Int) := lg_ofNat_toInt h
theorem pk_lDiv {a b : Nat} (ha : a < 2 ^ 63) (h0 : 0 < b) (hb : b < 2 ^ 63) : lN a / lN b = lN (a / b) := by
  apply Int64.toInt_inj.mp
  rw [lg_ldiv_nonneg (by rw [pk_lT ha]; omega) (by rw [pk_lT hb]; omega), pk_lT ha, pk_lT hb, pk_lT (Nat.lt_of_le_of_lt (Nat.div_le_self a b) ha)]
  rfl
theorem pk_lRem {a b : Nat} (ha : a < 2 ^ 63) (h0 : 0 < b) (hb : b < 2 ^ 63) : lN a - lN a / lN b * lN b = lN (a % b) := by
  rw [pk_lDiv ha h0 hb, lN_mul, lN_sub (Nat.div_mul_le_self a b)]
  exact congrArg lN (by have := Nat.div_add_mod' a b; omega)

/-! integers in the machine's numbers -/
def ld_i (z : Int) : Int32 := Int32.ofInt z
def ld_l (z : Int) : Int64 := Int64.ofInt z
theorem ld_iN (n : Nat) : ld_i (n : Int) = nI n := Int32.ofInt_eq_ofNat
theorem ld_lN (n : Nat) : ld_l (n : Int) = lN n := Int64.ofInt_eq_ofNat
theorem ld_iadd (a b : Int) : ld_i a + ld_i b = ld_i (a + b) := (Int32.ofInt_add a b).symm
theorem ld_isub (a b : Int) : ld_i a - ld_i b = ld_i (a - b) := (Int32.ofInt_sub a b).symm
theorem ld_imul (a b : Int) : ld_i a * ld_i b = ld_i (a * b) := (Int32.ofInt_mul a b).symm
theorem ld_ineg (a : Int) : -ld_i a = ld_i (-a) := (Int32.ofInt_neg a).symm
theorem ld_ladd (a b : Int) : ld_l a + ld_l b = ld_l (a + b) := (Int64.ofInt_add a b).symm
theorem ld_lsub (a b : Int) : ld_l a - ld_l b = ld_l (a - b) := (Int64.ofInt_sub a b).symm
theorem ld_lmul (a b : Int) : ld_l a * ld_l b = ld_l (a * b) := (Int64.ofInt_mul a b).symm
theorem ld_iT {a : Int} (h : -2147483648 ≤ a) (h' : a ≤ 2147483647) : (ld_i a).toInt = a := Int32.toInt_ofInt_of_le (by omega) (by omega)
theorem ld_lT {a : Int} (h : -2147483648 ≤ a) (h' : a ≤ 2147483647) : (ld_l a).toInt = a := Int64.toInt_ofInt_of_le (by omega) (by omega)
theorem ld_ile {a b : Int} (h1 : -2147483648 ≤ a) (h2 : a ≤ 2147483647) (h3 : -2147483648 ≤ b) (h4 : b ≤ 2147483647) : ld_i a ≤ ld_i b ↔ a ≤ b := by
  rw [Int32.le_iff_toInt_le, ld_iT h1 h2, ld_iT h3 h4]
theorem ld_ilt {a b : Int} (h1 : -2147483648 ≤ a) (h2 : a ≤ 2147483647) (h3 : -2147483648 ≤ b) (h4 : b ≤ 2147483647) : ld_i a < ld_i b ↔ a < b := by
  rw [Int32.lt_iff_toInt_lt, ld_iT h1 h2, ld_iT h3 h4]
theorem ld_ieq {a b : Int} (h1 : -2147483648 ≤ a) (h2 : a ≤ 2147483647) (h3 : -2147483648 ≤ b) (h4 : b ≤ 2147483647) : ld_i a = ld_i b ↔ a = b := by
  rw [← Int32.toInt_inj, ld_iT h1 h2, ld_iT h3 h4]
theorem ld_lle {a b : Int} (h1 : -2147483648 ≤ a) (h2 : a ≤ 2147483647) (h3 : -2147483648 ≤ b) (h4 : b ≤ 2147483647) : ld_l a ≤ ld_l b ↔ a ≤ b := by
  rw [Int64.le_iff_toInt_le, ld_lT h1 h2, ld_lT h3 h4]
theorem ld_llt {a b : Int} (h1 : -2147483648 ≤ a) (h2 : a ≤ 2147483647) (h3 : -2147483648 ≤ b) (h4 : b ≤ 2147483647) : ld_l a < ld_l b ↔ a < b := by
  rw [Int64.lt_iff_toInt_lt, ld_lT h1 h2, ld_lT h3 h4]
theorem ld_leq {a b : Int} (h1 : -2147483648 ≤ a) (h2 : a ≤ 2147483647) (h3 : -2147483648 ≤ b) (h4 : b ≤ 2147483647) : ld_l a = ld_l b ↔ a = b := by
  rw [← Int64.toInt_inj, ld_lT h1 h2, ld_lT h3 h4]
theorem ld_il {a : Int} (h : -2147483648 ≤ a) (h' : a ≤ 2147483647) : (ld_i a).toInt64 = ld_l a := by
  apply Int64.toInt_inj.mp
  rw [Int32.toInt_toInt64, ld_iT h h', ld_lT h h']
theorem ld_li (a : Int) : (ld_l a).toInt32 = ld_i a := Int64.toInt32_ofInt
theorem ld_iof (x : Int32) : x = ld_i x.toInt := (Int32.ofInt_toInt x).symm
theorem ld_i0 : (0 : Int32) = ld_i 0 := by decide
theorem ld_i1 : (1 : Int32) = ld_i 1 := by decide
theorem ld_i4 : (4 : Int32) = ld_i 4 := by decide
theorem ld_l0 : (0 : Int64) = ld_l 0 := by decide
theorem ld_l1 : (1 : Int64) = ld_l 1 := by decide
theorem ld_lm1 : (-1 : Int64) = ld_l (-1) := by decide

/-! products and fractions -/
theorem ld_mb {a b : Int} (A B : Int) (ha : -A ≤ a) (ha' : a ≤ A) (hb : -B ≤ b) (hb' : b ≤ B) : -(A * B) ≤ a * b ∧ a * b ≤ A * B := by
  have h1 : 0 ≤ (A - a) * (B + b) := Int.mul_nonneg (by omega) (by omega)
  have h2 : 0 ≤ (A + a) * (B - b) := Int.mul_nonneg (by omega) (by omega)
  have h3 : 0 ≤ (A - a) * (B - b) := Int.mul_nonneg (by omega) (by omega)
  have h4 : 0 ≤ (A + a) * (B + b) := Int.mul_nonneg (by omega) (by omega)
  have e1 : (A - a) * (B + b) = A * B + A * b - a * B - a * b := by grind
  have e2 : (A + a) * (B - b) = A * B - A * b + a * B - a * b := by grind
  have e3 : (A - a) * (B - b) = A * B - A * b - a * B + a * b := by grind
  have e4 : (A + a) * (B + b) = A * B + A * b + a * B + a * b := by grind
  omega
theorem ld_tr {a b c d e f : Int} (hb : 0 ≤ b) (hd : 0 < d) (hf : 0 ≤ f) (h1 : a * d ≤ c * b) (h2 : c * f ≤ e * d) : a * f ≤ e * b := by
  have k1 : a * d * f ≤ c * b * f := Int.mul_le_mul_of_nonneg_right h1 hf
  have k2 : c * f * b ≤ e * d * b := Int.mul_le_mul_of_nonneg_right h2 hb
  have k3 : (a * f) * d ≤ (e * b) * d := by
    have e1 : (a * f) * d = a * d * f := by grind
    have e2 : (e * b) * d = e * d * b := by grind
    have e3 : c * b * f = c * f * b := by grind
    omega
  exact Int.le_of_mul_le_mul_right k3 hd
theorem ld_red {T B T' B' : Nat} (hB : 0 < B) (hB' : 0 < B') (h : T * B' = T' * B) : T / Nat.gcd T B = T' / Nat.gcd T' B' ∧ B / Nat.gcd T B = B' / Nat.gcd T' B' := by
  have g0 : 0 < Nat.gcd T B := Nat.gcd_pos_of_pos_right _ hB
  have g0' : 0 < Nat.gcd T' B' := Nat.gcd_pos_of_pos_right _ hB'
  have c1 : Nat.Coprime (T / Nat.gcd T B) (B / Nat.gcd T B) := Nat.coprime_div_gcd_div_gcd g0
  have c2 : Nat.Coprime (T' / Nat.gcd T' B') (B' / Nat.gcd T' B') := Nat.coprime_div_gcd_div_gcd g0'
  have e1 : T = T / Nat.gcd T B * Nat.gcd T B := (Nat.div_mul_cancel (Nat.gcd_dvd_left T B)).symm
  have e2 : B = B / Nat.gcd T B * Nat.gcd T B := (Nat.div_mul_cancel (Nat.gcd_dvd_right T B)).symm
  have e3 : T' = T' / Nat.gcd T' B' * Nat.gcd T' B' := (Nat.div_mul_cancel (Nat.gcd_dvd_left T' B')).symm
  have e4 : B' = B' / Nat.gcd T' B' * Nat.gcd T' B' := (Nat.div_mul_cancel (Nat.gcd_dvd_right T' B')).symm
  generalize Nat.gcd T B = g at *
  generalize Nat.gcd T' B' = g' at *
  generalize T / g = a at *
  generalize B / g = b at *
  generalize T' / g' = a' at *
  generalize B' / g' = b' at *
  subst e1 e2 e3 e4
  have k : a * b' = a' * b := by
    have k1 : (a * b') * (g * g') = (a' * b) * (g * g') := by
      have q1 : (a * b') * (g * g') = a * g * (b' * g') := by grind
      have q2 : (a' * b) * (g * g') = a' * g' * (b * g) := by grind
      rw [q1, q2, h]
    exact Nat.eq_of_mul_eq_mul_right (Nat.mul_pos g0 g0') k1
  have b0 : 0 < b := Nat.pos_of_mul_pos_right hB
  have d1 : b ∣ b' := c1.symm.dvd_of_dvd_mul_left ⟨a', by rw [k, Nat.mul_comm]⟩
  have d2 : b' ∣ b := c2.symm.dvd_of_dvd_mul_left ⟨a, by rw [← k, Nat.mul_comm]⟩
  have eb : b = b' := Nat.dvd_antisymm d1 d2
  subst eb
  exact ⟨Nat.eq_of_mul_eq_mul_right b0 k, rfl⟩

/-! the cost -/
def ld_c (L d : Int) : Int := if d ≤ 0 then (L - 4) * d else L * d
def ld_g (L : Int) (u v : Nat → Int) (p q : Int) : Nat → Int
  | 0 => 0
  | t + 1 => ld_g L u v p q t + ld_c L (q * v t - p * u t)
def ld_D (L : Int) (u v : Nat → Int) : Nat → Int
  | 0 => 0
  | t + 1 => ld_D L u v t + (if v t ≤ 0 then L - 4 else L) * u t
theorem ld_c0 {L d : Int} (h1 : 1 ≤ L) (h2 : L ≤ 3) : 0 ≤ ld_c L d := by
  unfold ld_c
  split
  · have := Int.mul_nonneg (a := 4 - L) (b := -d) (by omega) (by omega)
    have e : (4 - L) * (-d) = (L - 4) * d := by grind
    omega
  · exact Int.mul_nonneg (by omega) (by omega)
theorem ld_cb {L d : Int} (D : Int) (h1 : 1 ≤ L) (h2 : L ≤ 3) (hd : -D ≤ d) (hd' : d ≤ D) : ld_c L d ≤ 3 * D := by
  unfold ld_c
  split
  · exact (ld_mb 3 D (by omega) (by omega) hd hd').2
  · exact (ld_mb 3 D (by omega) (by omega) hd hd').2
theorem ld_g0 {L : Int} (u v : Nat → Int) (p q : Int) (h1 : 1 ≤ L) (h2 : L ≤ 3) : ∀ n, 0 ≤ ld_g L u v p q n
  | 0 => Int.le_refl 0
  | t + 1 => by
    have := ld_g0 u v p q h1 h2 t
    have := ld_c0 (d := q * v t - p * u t) h1 h2
    show 0 ≤ ld_g L u v p q t + ld_c L (q * v t - p * u t)
    omega
theorem ld_gb {L : Int} (u v : Nat → Int) (p q : Int) (D : Int) (h1 : 1 ≤ L) (h2 : L ≤ 3) (hd : ∀ t, -D ≤ q * v t - p * u t ∧ q * v t - p * u t ≤ D) : ∀ n : Nat, ld_g L u v p q n ≤ 3 * D * n
  | 0 => by show (0 : Int) ≤ 3 * D * (0 : Nat); simp
  | t + 1 => by
    have a := ld_gb u v p q D h1 h2 hd t
    have b := ld_cb D h1 h2 (hd t).1 (hd t).2
    show ld_g L u v p q t + ld_c L (q * v t - p * u t) ≤ 3 * D * ((t + 1 : Nat) : Int)
    have e : 3 * D * ((t + 1 : Nat) : Int) = 3 * D * t + 3 * D := by
      rw [Int.natCast_add, Int.mul_add]; simp
    omega
theorem ld_glin {L : Int} (u v : Nat → Int) (p q : Int) : ∀ n, (∀ t, t < n → (v t ≤ 0 → q * v t - p * u t ≤ 0) ∧ (0 < v t → 0 ≤ q * v t - p * u t)) → ld_g L u v p q n = q * ld_g L u v 0 1 n - p * ld_D L u v n
  | 0, _ => by simp [ld_g, ld_D]
  | t + 1, h => by
    have a := ld_glin (L := L) u v p q t (fun s hs => h s (by omega))
    obtain ⟨h1, h2⟩ := h t (by omega)
    show ld_g L u v p q t + ld_c L (q * v t - p * u t) = q * (ld_g L u v 0 1 t + ld_c L (1 * v t - 0 * u t)) - p * (ld_D L u v t + (if v t ≤ 0 then L - 4 else L) * u t)
    have e : (1 : Int) * v t - 0 * u t = v t := by simp
    rw [e]
    by_cases hv : v t ≤ 0
    · have hc : ld_c L (q * v t - p * u t) = (L - 4) * (q * v t - p * u t) := if_pos (h1 hv)
      have hc' : ld_c L (v t) = (L - 4) * v t := if_pos hv
      rw [hc, hc', if_pos hv, a]
      grind
    · have hw : 0 ≤ q * v t - p * u t := h2 (by omega)
      have hc : ld_c L (q * v t - p * u t) = L * (q * v t - p * u t) := by
        by_cases hz : q * v t - p * u t ≤ 0
        · have : q * v t - p * u t = 0 := by omega
          rw [this]; simp [ld_c]
        · exact if_neg hz
      have hc' : ld_c L (v t) = L * v t := if_neg hv
      rw [hc, hc', if_neg hv, a]
      grind
theorem ld_min (w z : Nat → Int) (Q : Nat → Prop) (hz : ∀ t, Q t → 0 < z t) : ∀ n : Nat, (∃ t, t < n ∧ Q t) → ∃ j, j < n ∧ Q j ∧ ∀ t, t < n → Q t → w j * z t ≤ w t * z j
  | 0, ⟨t, ht, _⟩ => absurd ht (Nat.not_lt_zero t)
  | n + 1, ⟨t, ht, hQ⟩ => by
    by_cases hn : Q n
    · by_cases he : ∃ s, s < n ∧ Q s
      · obtain ⟨j, hj, hQj, hm⟩ := ld_min w z Q hz n he
        by_cases hc : w j * z n ≤ w n * z j
        · refine ⟨j, by omega, hQj, fun s hs hQs => ?_⟩
          by_cases hsn : s = n
          · subst hsn; exact hc
          · exact hm s (by omega) hQs
        · refine ⟨n, by omega, hn, fun s hs hQs => ?_⟩
          by_cases hsn : s = n
          · subst hsn; exact Int.le_refl _
          · have zn := hz n hn
            have zj := hz j hQj
            have zs := hz s hQs
            exact ld_tr (c := w j) (d := z j) (by omega) zj (by omega) (by omega) (hm s (by omega) hQs)
      · refine ⟨n, by omega, hn, fun s hs hQs => ?_⟩
        by_cases hsn : s = n
        · subst hsn; exact Int.le_refl _
        · exact absurd ⟨s, by omega, hQs⟩ he
    · have htn : t ≠ n := fun e => hn (e ▸ hQ)
      obtain ⟨j, hj, hQj, hm⟩ := ld_min w z Q hz n ⟨t, by omega, hQ⟩
      refine ⟨j, by omega, hQj, fun s hs hQs => ?_⟩
      have hsn : s ≠ n := fun e => hn (e ▸ hQs)
      exact hm s (by omega) hQs
def ld_a (x : Int) : Int := if x < 0 then -x else x
theorem ld_ap {x : Int} (h : 0 < x) : ld_a x = x := if_neg (by omega)
theorem ld_an {x : Int} (h : x < 0) : ld_a x = -x := if_pos h
theorem ld_Dneg {L : Int} (u v : Nat → Int) : ∀ n, ld_D L (fun t => -u t) v n = -ld_D L u v n
  | 0 => rfl
  | t + 1 => by
    have a := ld_Dneg (L := L) u v t
    show ld_D L (fun t => -u t) v t + (if v t ≤ 0 then L - 4 else L) * -u t = -(ld_D L u v t + (if v t ≤ 0 then L - 4 else L) * u t)
    rw [a, Int.mul_neg]; omega
theorem ld_gneg {L : Int} (u v : Nat → Int) (p q : Int) : ∀ n, ld_g L (fun t => -u t) v p q n = ld_g L u v (-p) q n
  | 0 => rfl
  | t + 1 => by
    have a := ld_gneg (L := L) u v p q t
    show ld_g L (fun t => -u t) v p q t + ld_c L (q * v t - p * -u t) = ld_g L u v (-p) q t + ld_c L (q * v t - -p * u t)
    rw [a, Int.mul_neg, Int.neg_mul]
/-- no point of a rising slope: the sum of the drifts is below 0 -/
theorem ld_Dlt {L : Int} (h1 : 1 ≤ L) (h2 : L ≤ 3) (u v : Nat → Int) : ∀ n, (∀ t, t < n → u t ≠ 0 → v t ≠ 0) → (∀ t, t < n → ¬ ((0 < u t ∧ 0 < v t) ∨ (u t < 0 ∧ v t < 0))) → ld_D L u v n ≤ 0 ∧ ((∃ t, t < n ∧ u t ≠ 0) → ld_D L u v n < 0)
  | 0, _, _ => ⟨Int.le_refl 0, fun ⟨t, ht, _⟩ => absurd ht (Nat.not_lt_zero t)⟩
  | n + 1, hv, hn => by
    obtain ⟨a, b⟩ := ld_Dlt h1 h2 u v n (fun t ht => hv t (by omega)) (fun t ht => hn t (by omega))
    have hvn := hv n (by omega)
    have hnn := hn n (by omega)
    have k : (if v n ≤ 0 then L - 4 else L) * u n ≤ 0 ∧ (u n ≠ 0 → (if v n ≤ 0 then L - 4 else L) * u n < 0) := by
      by_cases hz : v n ≤ 0
      · rw [if_pos hz]
        have hu : 0 ≤ u n := by omega
        have e : (4 - L) * u n = -((L - 4) * u n) := by grind
        refine ⟨?_, fun hne => ?_⟩
        · have := Int.mul_nonneg (a := 4 - L) (b := u n) (by omega) hu
          omega
        · have := Int.mul_pos (a := 4 - L) (b := u n) (by omega) (by omega)
          omega
      · rw [if_neg hz]
        have hu : u n ≤ 0 := by omega
        have e : L * -u n = -(L * u n) := by grind
        refine ⟨?_, fun hne => ?_⟩
        · have := Int.mul_nonneg (a := L) (b := -u n) (by omega) (by omega)
          omega
        · have := Int.mul_pos (a := L) (b := -u n) (by omega) (by omega)
          omega
    show ld_D L u v n + (if v n ≤ 0 then L - 4 else L) * u n ≤ 0 ∧ (_ → ld_D L u v n + (if v n ≤ 0 then L - 4 else L) * u n < 0)
    refine ⟨by omega, fun ⟨t, ht, hu⟩ => ?_⟩
    by_cases htn : t = n
    · subst htn
      have := k.2 hu
      omega
    · have := b ⟨t, by omega, hu⟩
      omega
theorem ld_conv1 {L : Int} (h1 : 1 ≤ L) (h2 : L ≤ 3) (u v : Nat → Int) (n : Nat) (hv : ∀ t, t < n → u t ≠ 0 → v t ≠ 0) (hu : ∃ t, t < n ∧ u t ≠ 0) (hD : 0 ≤ ld_D L u v n) : ∃ j, j < n ∧ ((0 < u j ∧ ld_g L u v (v j) (u j) n ≤ ld_g L u v 0 1 n * u j) ∨ (u j < 0 ∧ ld_g L u v (-v j) (-u j) n ≤ ld_g L u v 0 1 n * -u j)) := by
  have hq : ∃ t, t < n ∧ ((0 < u t ∧ 0 < v t) ∨ (u t < 0 ∧ v t < 0)) := by
    apply Classical.byContradiction
    intro hc
    have := (ld_Dlt h1 h2 u v n hv (fun t ht hh => hc ⟨t, ht, hh⟩)).2 hu
    omega
  obtain ⟨j, hj, hQ, hm⟩ := ld_min (fun t => ld_a (v t)) (fun t => ld_a (u t)) (fun t => (0 < u t ∧ 0 < v t) ∨ (u t < 0 ∧ v t < 0)) (by
    intro t ht
    show 0 < ld_a (u t)
    rcases ht with ⟨a, _⟩ | ⟨a, _⟩
    · rw [ld_ap a]; exact a
    · rw [ld_an a]; omega) n hq
  have key : ∀ p q : Int, 0 < p → 0 < q → p = ld_a (v j) → q = ld_a (u j) → ld_g L u v p q n ≤ ld_g L u v 0 1 n * q := by
    intro p q hp hq0 ep eq
    have lin := ld_glin (L := L) u v p q n (by
      intro t ht
      have hvt := hv t ht
      have hmt := hm t ht
      rw [← ep, ← eq] at hmt
      refine ⟨fun hz => ?_, fun hz => ?_⟩
      · by_cases hut : u t < 0
        · have hvn : v t < 0 := by omega
          have := hmt (Or.inr ⟨hut, hvn⟩)
          rw [ld_an hut, ld_an hvn] at this
          have e1 : p * -u t = -(p * u t) := by grind
          have e2 : -v t * q = -(q * v t) := by grind
          omega
        · have k1 := Int.mul_nonneg (a := q) (b := -v t) (by omega) (by omega)
          have k2 := Int.mul_nonneg (a := p) (b := u t) (by omega) (by omega)
          have e1 : q * -v t = -(q * v t) := by grind
          omega
      · by_cases hut : 0 < u t
        · have := hmt (Or.inl ⟨hut, hz⟩)
          rw [ld_ap hut, ld_ap hz] at this
          have e2 : v t * q = q * v t := by grind
          omega
        · have k1 := Int.mul_nonneg (a := q) (b := v t) (by omega) (by omega)
          have k2 := Int.mul_nonneg (a := p) (b := -u t) (by omega) (by omega)
          have e1 : p * -u t = -(p * u t) := by grind
          omega)
    have k := Int.mul_nonneg (a := p) (b := ld_D L u v n) (by omega) hD
    have e : ld_g L u v 0 1 n * q = q * ld_g L u v 0 1 n := Int.mul_comm _ _
    omega
  refine ⟨j, hj, ?_⟩
  rcases hQ with ⟨a, b⟩ | ⟨a, b⟩
  · exact Or.inl ⟨a, key _ _ b a (ld_ap b).symm (ld_ap a).symm⟩
  · exact Or.inr ⟨a, key _ _ (by omega) (by omega) (ld_an b).symm (ld_an a).symm⟩
/-- through one point: some line through another of another x costs no more than the level one -/
theorem ld_conv {L : Int} (h1 : 1 ≤ L) (h2 : L ≤ 3) (u v : Nat → Int) (n : Nat) (hu : ∃ t, t < n ∧ u t ≠ 0) : ∃ j, j < n ∧ ((0 < u j ∧ ld_g L u v (v j) (u j) n ≤ ld_g L u v 0 1 n * u j) ∨ (u j < 0 ∧ ld_g L u v (-v j) (-u j) n ≤ ld_g L u v 0 1 n * -u j)) := by
  by_cases hv : ∀ t, t < n → u t ≠ 0 → v t ≠ 0
  · by_cases hD : 0 ≤ ld_D L u v n
    · exact ld_conv1 h1 h2 u v n hv hu hD
    · obtain ⟨t, ht, hut⟩ := hu
      obtain ⟨j, hj, h⟩ := ld_conv1 h1 h2 (fun t => -u t) v n (fun t ht hh => hv t ht (fun z => hh (by omega))) ⟨t, ht, by omega⟩ (by rw [ld_Dneg]; omega)
      refine ⟨j, hj, ?_⟩
      rw [ld_gneg, ld_gneg, ld_gneg] at h
      simp only [Int.neg_neg, Int.neg_zero] at h
      rcases h with ⟨a, b⟩ | ⟨a, b⟩
      · exact Or.inr ⟨by omega, b⟩
      · exact Or.inl ⟨by omega, b⟩
  · have hw : ∃ t, t < n ∧ u t ≠ 0 ∧ v t = 0 := by
      apply Classical.byContradiction
      intro hc
      exact hv (fun t ht hne hz => hc ⟨t, ht, hne, hz⟩)
    obtain ⟨j, hj, hne, hz⟩ := hw
    refine ⟨j, hj, ?_⟩
    have key : ∀ q : Int, 0 < q → ld_g L u v 0 q n = ld_g L u v 0 1 n * q := by
      intro q hq
      have lin := ld_glin (L := L) u v 0 q n (by
        intro t _
        refine ⟨fun hz => ?_, fun hz => ?_⟩
        · have k1 := Int.mul_nonneg (a := q) (b := -v t) (by omega) (by omega)
          have e1 : q * -v t = -(q * v t) := by grind
          omega
        · have k1 := Int.mul_nonneg (a := q) (b := v t) (by omega) (by omega)
          omega)
      have e : ld_g L u v 0 1 n * q = q * ld_g L u v 0 1 n := Int.mul_comm _ _
      omega
    rw [hz]
    by_cases hp : 0 < u j
    · exact Or.inl ⟨hp, by rw [key _ hp]; exact Int.le_refl _⟩
    · refine Or.inr ⟨by omega, ?_⟩
      rw [Int.neg_zero, key (-u j) (by omega)]
      exact Int.le_refl _
end
section
/-! the pictures of the methods -/
def ld_ok (n : Nat) (L : Int) (X Y : Nat → Int) : Prop := n ≤ 8 ∧ 1 ≤ L ∧ L ≤ 3 ∧ (∀ j, -20 ≤ X j ∧ X j ≤ 20) ∧ (∀ j, -20 ≤ Y j ∧ Y j ≤ 20)
def ld_s (L : Int) (X Y : Nat → Int) (i : Nat) (p q : Int) (n : Nat) : Int := ld_g L (fun t => X t - X i) (fun t => Y t - Y i) p q n
theorem ld_ss (L : Int) (X Y : Nat → Int) (i : Nat) (p q : Int) (t : Nat) : ld_s L X Y i p q (t + 1) = ld_s L X Y i p q t + ld_c L (q * (Y t - Y i) - p * (X t - X i)) := rfl
theorem ld_db {n : Nat} {L : Int} {X Y : Nat → Int} (h : ld_ok n L X Y) {p q : Int} (i t : Nat) (hp : -1000 ≤ p) (hp' : p ≤ 1000) (hq : -40 ≤ q) (hq' : q ≤ 40) : -41600 ≤ q * (Y t - Y i) - p * (X t - X i) ∧ q * (Y t - Y i) - p * (X t - X i) ≤ 41600 := by
  obtain ⟨-, -, -, hX, hY⟩ := h
  have := hX i
  have := hX t
  have := hY i
  have := hY t
  have a := ld_mb (a := q) (b := Y t - Y i) 40 40 hq hq' (by omega) (by omega)
  have b := ld_mb (a := p) (b := X t - X i) 1000 40 hp hp' (by omega) (by omega)
  omega
theorem ld_s0 {n : Nat} {L : Int} {X Y : Nat → Int} (h : ld_ok n L X Y) (i : Nat) (p q : Int) (m : Nat) : 0 ≤ ld_s L X Y i p q m := ld_g0 _ _ _ _ h.2.1 h.2.2.1 m
theorem ld_sb {n : Nat} {L : Int} {X Y : Nat → Int} (h : ld_ok n L X Y) (i : Nat) {p q : Int} {m : Nat} (hm : m ≤ 8) (hp : -1000 ≤ p) (hp' : p ≤ 1000) (hq : -40 ≤ q) (hq' : q ≤ 40) : ld_s L X Y i p q m ≤ 998400 := by
  have a : ld_s L X Y i p q m ≤ 3 * 41600 * m := ld_gb _ _ p q 41600 h.2.1 h.2.2.1 (fun t => ld_db h i t hp hp' hq hq') m
  omega
def ld_tp (n : Nat) (L : Int) (X Y : Nat → Int) (i j : Nat) : Int := if X j - X i = 0 then ld_s L X Y i 0 1 n else if 0 ≤ X j - X i then ld_s L X Y i (Y j - Y i) (X j - X i) n else ld_s L X Y i (-(Y j - Y i)) (-(X j - X i)) n
def ld_bt (X : Nat → Int) (i j : Nat) : Int := if X j - X i = 0 then 1 else if 0 ≤ X j - X i then X j - X i else -(X j - X i)
theorem ld_btb {n : Nat} {L : Int} {X Y : Nat → Int} (h : ld_ok n L X Y) (i j : Nat) : 1 ≤ ld_bt X i j ∧ ld_bt X i j ≤ 40 := by
  obtain ⟨-, -, -, hX, -⟩ := h
  have := hX i
  have := hX j
  unfold ld_bt
  split
  · omega
  · split <;> omega
theorem ld_tpb {n : Nat} {L : Int} {X Y : Nat → Int} (h : ld_ok n L X Y) (i j : Nat) : 0 ≤ ld_tp n L X Y i j ∧ ld_tp n L X Y i j ≤ 998400 := by
  have hX := h.2.2.2.1
  have hY := h.2.2.2.2
  have := hX i
  have := hX j
  have := hY i
  have := hY j
  unfold ld_tp
  split
  · exact ⟨ld_s0 h _ _ _ _, ld_sb h _ h.1 (by omega) (by omega) (by omega) (by omega)⟩
  · split
    · exact ⟨ld_s0 h _ _ _ _, ld_sb h _ h.1 (by omega) (by omega) (by omega) (by omega)⟩
    · exact ⟨ld_s0 h _ _ _ _, ld_sb h _ h.1 (by omega) (by omega) (by omega) (by omega)⟩
theorem ld_tp0 {n : Nat} {L : Int} {X Y : Nat → Int} {i j : Nat} (e : X j = X i) : ld_tp n L X Y i j = ld_s L X Y i 0 1 n := if_pos (by omega)
theorem ld_bt0 {X : Nat → Int} {i j : Nat} (e : X j = X i) : ld_bt X i j = 1 := if_pos (by omega)
theorem ld_tpp {n : Nat} {L : Int} {X Y : Nat → Int} {i j : Nat} (e : X i < X j) : ld_tp n L X Y i j = ld_s L X Y i (Y j - Y i) (X j - X i) n := by
  unfold ld_tp
  rw [if_neg (by omega), if_pos (by omega)]
theorem ld_btp {X : Nat → Int} {i j : Nat} (e : X i < X j) : ld_bt X i j = X j - X i := by
  unfold ld_bt
  rw [if_neg (by omega), if_pos (by omega)]
theorem ld_tpn {n : Nat} {L : Int} {X Y : Nat → Int} {i j : Nat} (e : X j < X i) : ld_tp n L X Y i j = ld_s L X Y i (Y i - Y j) (X i - X j) n := by
  unfold ld_tp
  rw [if_neg (by omega), if_neg (by omega), show -(Y j - Y i) = Y i - Y j by omega, show -(X j - X i) = X i - X j by omega]
theorem ld_btn {X : Nat → Int} {i j : Nat} (e : X j < X i) : ld_bt X i j = X i - X j := by
  unfold ld_bt
  rw [if_neg (by omega), if_neg (by omega)]
  omega
/-- the level line through i is never alone the least where some point has another x -/
theorem ld_lev {n : Nat} {L : Int} {X Y : Nat → Int} (h : ld_ok n L X Y) {i : Nat} (he : ∃ t, t < n ∧ X t ≠ X i) : ∃ j, j < n ∧ X j ≠ X i ∧ ld_tp n L X Y i j * 1 ≤ ld_s L X Y i 0 1 n * ld_bt X i j := by
  obtain ⟨t, ht, hne⟩ := he
  obtain ⟨j, hj, hh⟩ := ld_conv h.2.1 h.2.2.1 (fun t => X t - X i) (fun t => Y t - Y i) n ⟨t, ht, by omega⟩
  refine ⟨j, hj, ?_⟩
  rw [Int.mul_one]
  rcases hh with ⟨a, b⟩ | ⟨a, b⟩
  · have a' : X i < X j := by omega
    exact ⟨by omega, by rw [ld_tpp a', ld_btp a']; exact b⟩
  · have a' : X j < X i := by omega
    refine ⟨by omega, ?_⟩
    rw [ld_tpn a', ld_btn a', show Y i - Y j = -(Y j - Y i) by omega, show X i - X j = -(X j - X i) by omega]
    exact b
/-- (T, B) is a least fraction of the set C -/
def ld_lst (C : Int → Int → Prop) (t b : Int) : Prop := C t b ∧ ∀ t' b', C t' b' → t * b' ≤ t' * b
def ld_Cb (C : Int → Int → Prop) : Prop := ∀ t b, C t b → 0 ≤ t ∧ t ≤ 998400 ∧ 1 ≤ b ∧ b ≤ 40
def ld_Ci (n : Nat) (L : Int) (X Y : Nat → Int) (i : Nat) : Int → Int → Prop := fun t b => ∃ j, j < n ∧ t = ld_tp n L X Y i j ∧ b = ld_bt X i j
def ld_Ca (n : Nat) (L : Int) (X Y : Nat → Int) (m : Nat) : Int → Int → Prop := fun t b => ∃ i, i < m ∧ ld_Ci n L X Y i t b
def ld_best (n : Nat) (L : Int) (X Y : Nat → Int) (T B : Nat) : Prop := (n = 0 ∧ T = 0 ∧ B = 1) ∨ (0 < n ∧ ld_lst (ld_Ca n L X Y n) T B)
theorem ld_CiB {n : Nat} {L : Int} {X Y : Nat → Int} (h : ld_ok n L X Y) (i : Nat) : ld_Cb (ld_Ci n L X Y i) := by
  intro t b ⟨j, _, e1, e2⟩
  have := ld_tpb h i j
  have := ld_btb h i j
  subst e1 e2
  omega
theorem ld_CaB {n : Nat} {L : Int} {X Y : Nat → Int} (h : ld_ok n L X Y) (m : Nat) : ld_Cb (ld_Ca n L X Y m) := fun t b ⟨i, _, hi⟩ => ld_CiB h i t b hi
theorem ld_lsteq {C : Int → Int → Prop} {t b t' b' : Int} (h : ld_lst C t b) (h' : ld_lst C t' b') : t * b' = t' * b := by
  have := h.2 _ _ h'.1
  have := h'.2 _ _ h.1
  omega
theorem ld_lstN {C : Int → Int → Prop} (hC : ld_Cb C) {t b : Int} (h : ld_lst C t b) : ∃ T B : Nat, t = T ∧ b = B ∧ T ≤ 998400 ∧ 1 ≤ B ∧ B ≤ 40 := by
  have := hC _ _ h.1
  exact ⟨t.toNat, b.toNat, by omega, by omega, by omega, by omega, by omega⟩
theorem ld_lstred {C : Int → Int → Prop} (hC : ld_Cb C) {T B T' B' : Nat} (h : ld_lst C T B) (h' : ld_lst C T' B') : T / Nat.gcd T B = T' / Nat.gcd T' B' ∧ B / Nat.gcd T B = B' / Nat.gcd T' B' := by
  have a := hC _ _ h.1
  have b := hC _ _ h'.1
  have e := ld_lsteq h h'
  exact ld_red (by omega) (by omega) (by exact_mod_cast e)
theorem ld_bestb {n : Nat} {L : Int} {X Y : Nat → Int} (h : ld_ok n L X Y) {T B : Nat} (hb : ld_best n L X Y T B) : T ≤ 998400 ∧ 1 ≤ B ∧ B ≤ 40 := by
  rcases hb with ⟨_, e1, e2⟩ | ⟨_, hl⟩
  · omega
  · have a := ld_CaB h n _ _ hl.1
    omega
theorem ld_bestred {n : Nat} {L : Int} {X Y : Nat → Int} (h : ld_ok n L X Y) {T B T' B' : Nat} (hb : ld_best n L X Y T B) (hb' : ld_best n L X Y T' B') : T / Nat.gcd T B = T' / Nat.gcd T' B' ∧ B / Nat.gcd T B = B' / Nat.gcd T' B' := by
  rcases hb with ⟨e0, e1, e2⟩ | ⟨e0, hl⟩
  · rcases hb' with ⟨_, e3, e4⟩ | ⟨e5, _⟩
    · subst e1 e2 e3 e4
      exact ⟨rfl, rfl⟩
    · omega
  · rcases hb' with ⟨e5, _⟩ | ⟨_, hl'⟩
    · omega
    · exact ld_lstred (ld_CaB h n) hl hl'
/-- a comparison with a fraction is the same with its lowest terms -/
theorem ld_cmp {T B : Nat} (hB : 1 ≤ B) (W q : Int) : W * ((B / Nat.gcd T B : Nat) : Int) = ((T / Nat.gcd T B : Nat) : Int) * q ↔ W * B = T * q := by
  have g0 : 0 < Nat.gcd T B := Nat.gcd_pos_of_pos_right _ hB
  have e1 : T = T / Nat.gcd T B * Nat.gcd T B := (Nat.div_mul_cancel (Nat.gcd_dvd_left T B)).symm
  have e2 : B = B / Nat.gcd T B * Nat.gcd T B := (Nat.div_mul_cancel (Nat.gcd_dvd_right T B)).symm
  generalize Nat.gcd T B = g at *
  generalize T / g = a at *
  generalize B / g = b at *
  subst e1 e2
  have k1 : W * ((b * g : Nat) : Int) = (W * b) * (g : Int) := by rw [Int.natCast_mul]; grind
  have k2 : ((a * g : Nat) : Int) * q = (a * q) * (g : Int) := by rw [Int.natCast_mul]; grind
  rw [k1, k2]
  refine ⟨fun e => by rw [e], fun e => ?_⟩
  exact Int.eq_of_mul_eq_mul_right (by omega) e
/-- the least cost of a given slope -/
def ld_ws (n : Nat) (L : Int) (X Y : Nat → Int) (p q W : Int) : Prop := (n = 0 ∧ W = 0) ∨ ((∃ i, i < n ∧ W = ld_s L X Y i p q n) ∧ ∀ i, i < n → W ≤ ld_s L X Y i p q n)
theorem ld_wsu {n : Nat} {L : Int} {X Y : Nat → Int} {p q W W' : Int} (h : ld_ws n L X Y p q W) (h' : ld_ws n L X Y p q W') : W = W' := by
  rcases h with ⟨a, b⟩ | ⟨⟨i, hi, e⟩, m⟩
  · rcases h' with ⟨c, d⟩ | ⟨⟨i, hi, e⟩, m⟩
    · omega
    · omega
  · rcases h' with ⟨c, d⟩ | ⟨⟨i', hi', e'⟩, m'⟩
    · omega
    · have := m i' hi'
      have := m' i hi
      omega
theorem ld_wsb {n : Nat} {L : Int} {X Y : Nat → Int} (h : ld_ok n L X Y) {p q W : Int} (hp : -1000 ≤ p) (hp' : p ≤ 1000) (hq : -40 ≤ q) (hq' : q ≤ 40) (hw : ld_ws n L X Y p q W) : 0 ≤ W ∧ W ≤ 998400 := by
  rcases hw with ⟨a, b⟩ | ⟨⟨i, hi, e⟩, m⟩
  · omega
  · have := ld_s0 h i p q n
    have := ld_sb h i h.1 hp hp' hq hq'
    omega
theorem ld_p40 {a b : Int} (h1 : 0 ≤ a) (h2 : a ≤ 998400) (h3 : 0 ≤ b) (h4 : b ≤ 40) : -2147483648 ≤ a * b ∧ a * b ≤ 2147483647 := by
  have := ld_mb (a := a) (b := b) 998400 40 (by omega) h2 (by omega) h4
  omega
end
section
/-! the component's walks -/
theorem ld_cl {j : Nat} (h : j < 8) : (nI j).toNatClampNeg = j := nI_clamp (by omega)
theorem ld_in {j : Nat} (h : j < 8) : vp_in (nI j) 8 := vp_in_nI h (by decide)
theorem ld_xc6 {n : Nat} {L : Int} {X Y : Nat → Int} (h : ld_ok n L X Y) {i : Nat} (hi : i < 8) {p q : Int} (hp : -1000 ≤ p) (hp' : p ≤ 1000) (hq : -40 ≤ q) (hq' : q ≤ 40) (post : Int32 → Prop) (hpost : post (ld_i (ld_s L X Y i p q n))) : ∀ d t : Nat, t + d = n → wX_scaledCost_6 post (nI i) (ld_i p) (ld_i q) (nI n) (ld_i L) (fun j => ld_i (X j)) (fun j => ld_i (Y j)) (d + 1) (ld_i (ld_s L X Y i p q t)) (nI t) := by
  have hn := h.1
  intro d
  induction d with
  | zero =>
    intro t ht
    have ht' : t = n := by omega
    subst ht'
    exact br_t (nI_le (Nat.le_refl _) (by omega)) hpost
  | succ d ih =>
    intro t ht
    have t8 : t < 8 := by omega
    have hd := ld_db h i t hp hp' hq hq'
    have e : ld_i q * ((fun j => ld_i (Y j)) (nI t).toNatClampNeg - (fun j => ld_i (Y j)) (nI i).toNatClampNeg) - ld_i p * ((fun j => ld_i (X j)) (nI t).toNatClampNeg - (fun j => ld_i (X j)) (nI i).toNatClampNeg) = ld_i (q * (Y t - Y i) - p * (X t - X i)) := by
      rw [ld_cl t8, ld_cl hi]
      simp only [ld_isub, ld_imul]
    refine br_f (nI_ge (by omega) (by omega)) ⟨ld_in t8, ld_in hi, ld_in t8, ld_in hi, nm_r e ?_⟩
    have iff : ld_i (q * (Y t - Y i) - p * (X t - X i)) ≤ 0 ↔ q * (Y t - Y i) - p * (X t - X i) ≤ 0 := by
      rw [ld_i0]
      exact ld_ile (by omega) (by omega) (by omega) (by omega)
    have nx := ih (t + 1) (by omega)
    rw [ld_ss] at nx
    by_cases hz : q * (Y t - Y i) - p * (X t - X i) ≤ 0
    · refine br_t (iff.mpr hz) (nm_r ?_ (nm_r (nI_1 t) nx))
      rw [show ld_c L (q * (Y t - Y i) - p * (X t - X i)) = (L - 4) * (q * (Y t - Y i) - p * (X t - X i)) from if_pos hz, ld_i4, ld_isub, ld_imul, ld_iadd]
    · refine br_f (fun hh => hz (iff.mp hh)) (nm_r ?_ (nm_r (nI_1 t) nx))
      rw [show ld_c L (q * (Y t - Y i) - p * (X t - X i)) = L * (q * (Y t - Y i) - p * (X t - X i)) from if_neg hz, ld_imul, ld_iadd]
theorem ld_xc {n : Nat} {L : Int} {X Y : Nat → Int} (h : ld_ok n L X Y) {i : Nat} (hi : i < 8) {p q : Int} (hp : -1000 ≤ p) (hp' : p ≤ 1000) (hq : -40 ≤ q) (hq' : q ≤ 40) {post : Int32 → Prop} {x1 x2 : Int32} (e1 : x1 = ld_i p) (e2 : x2 = ld_i q) (hpost : post (ld_i (ld_s L X Y i p q n))) : wpX_scaledCost post (nI n, ld_i L, fun j => ld_i (X j), fun j => ld_i (Y j)) (nI i) x1 x2 := by
  subst e1 e2
  exact ⟨n + 1, ld_xc6 h hi hp hp' hq hq' post hpost n 0 (by omega)⟩
theorem ld_xt {n : Nat} {L : Int} {X Y : Nat → Int} (h : ld_ok n L X Y) {i j : Nat} (hi : i < 8) (hj : j < 8) {post : Int32 → Prop} (hpost : post (ld_i (ld_tp n L X Y i j))) : wpX_lineTop post (nI n, ld_i L, fun j => ld_i (X j), fun j => ld_i (Y j)) (nI i) (nI j) := by
  have hX := h.2.2.2.1
  have hY := h.2.2.2.2
  have := hX i
  have := hX j
  have := hY i
  have := hY j
  have ey : (fun j => ld_i (Y j)) (nI j).toNatClampNeg - (fun j => ld_i (Y j)) (nI i).toNatClampNeg = ld_i (Y j - Y i) := by
    rw [ld_cl hj, ld_cl hi]
    exact ld_isub _ _
  have ex : (fun j => ld_i (X j)) (nI j).toNatClampNeg - (fun j => ld_i (X j)) (nI i).toNatClampNeg = ld_i (X j - X i) := by
    rw [ld_cl hj, ld_cl hi]
    exact ld_isub _ _
  have i0 : ld_i (X j - X i) = 0 ↔ X j - X i = 0 := by
    rw [ld_i0]
    exact ld_ieq (by omega) (by omega) (by omega) (by omega)
  have il : 0 ≤ ld_i (X j - X i) ↔ 0 ≤ X j - X i := by
    rw [ld_i0]
    exact ld_ile (by omega) (by omega) (by omega) (by omega)
  refine ⟨ld_in hj, ld_in hi, nm_r ey ⟨ld_in hj, ld_in hi, nm_r ex ?_⟩⟩
  unfold ld_tp at hpost
  by_cases hz : X j - X i = 0
  · rw [if_pos hz] at hpost
    exact br_t (i0.mpr hz) (ld_xc h hi (by omega) (by omega) (by omega) (by omega) ld_i0 ld_i1 hpost)
  · rw [if_neg hz] at hpost
    refine br_f (fun hh => hz (i0.mp hh)) ?_
    by_cases hp : 0 ≤ X j - X i
    · rw [if_pos hp] at hpost
      exact br_t (il.mpr hp) (ld_xc h hi (by omega) (by omega) (by omega) (by omega) rfl rfl hpost)
    · rw [if_neg hp] at hpost
      exact br_f (fun hh => hp (il.mp hh)) (ld_xc h hi (by omega) (by omega) (by omega) (by omega) (ld_ineg _) (ld_ineg _) hpost)
theorem ld_xb {n : Nat} {L : Int} {X Y : Nat → Int} (h : ld_ok n L X Y) {i j : Nat} (hi : i < 8) (hj : j < 8) {post : Int32 → Prop} (hpost : post (ld_i (ld_bt X i j))) : wpX_lineBottom post (nI n, ld_i L, fun j => ld_i (X j), fun j => ld_i (Y j)) (nI i) (nI j) := by
  have hX := h.2.2.2.1
  have := hX i
  have := hX j
  have ex : (fun j => ld_i (X j)) (nI j).toNatClampNeg - (fun j => ld_i (X j)) (nI i).toNatClampNeg = ld_i (X j - X i) := by
    rw [ld_cl hj, ld_cl hi]
    exact ld_isub _ _
  have i0 : ld_i (X j - X i) = 0 ↔ X j - X i = 0 := by
    rw [ld_i0]
    exact ld_ieq (by omega) (by omega) (by omega) (by omega)
  have il : 0 ≤ ld_i (X j - X i) ↔ 0 ≤ X j - X i := by
    rw [ld_i0]
    exact ld_ile (by omega) (by omega) (by omega) (by omega)
  refine ⟨ld_in hj, ld_in hi, nm_r ex ?_⟩
  unfold ld_bt at hpost
  by_cases hz : X j - X i = 0
  · rw [if_pos hz] at hpost
    exact br_t (i0.mpr hz) hpost
  · rw [if_neg hz] at hpost
    refine br_f (fun hh => hz (i0.mp hh)) ?_
    by_cases hp : 0 ≤ X j - X i
    · rw [if_pos hp] at hpost
      exact br_t (il.mpr hp) hpost
    · rw [if_neg hp, ← ld_ineg] at hpost
      exact br_f (fun hh => hp (il.mp hh)) hpost
/-- the comparison of two fractions in ints -/
theorem ld_cmpI {a b c d : Int} (ha : 0 ≤ a ∧ a ≤ 998400) (hb : 1 ≤ b ∧ b ≤ 40) (hc : 0 ≤ c ∧ c ≤ 998400) (hd : 1 ≤ d ∧ d ≤ 40) : ld_i a * ld_i d ≤ ld_i c * ld_i b ↔ a * d ≤ c * b := by
  rw [ld_imul, ld_imul]
  have k1 := ld_p40 ha.1 ha.2 (b := d) (by omega) hd.2
  have k2 := ld_p40 hc.1 hc.2 (b := b) (by omega) hb.2
  exact ld_ile k1.1 k1.2 k2.1 k2.2
theorem ld_xp20 {n : Nat} {L : Int} {X Y : Nat → Int} (h : ld_ok n L X Y) {i : Nat} (hi : i < n) (post : Int32 → Prop) (hpost : ∀ b, b < n → (∀ j, j < n → ld_tp n L X Y i b * ld_bt X i j ≤ ld_tp n L X Y i j * ld_bt X i b) → post (nI b)) : ∀ d t b : Nat, t + d = n → b < n → (∀ j, j < t → ld_tp n L X Y i b * ld_bt X i j ≤ ld_tp n L X Y i j * ld_bt X i b) → wX_bestPartner_20 post (nI i) (nI n) (ld_i L) (fun j => ld_i (X j)) (fun j => ld_i (Y j)) (d + 1) (nI b) (ld_i (ld_tp n L X Y i b)) (ld_i (ld_bt X i b)) (nI t) := by
  have hn := h.1
  intro d
  induction d with
  | zero =>
    intro t b ht hb hm
    have ht' : t = n := by omega
    subst ht'
    exact br_t (nI_le (Nat.le_refl _) (by omega)) (hpost b hb hm)
  | succ d ih =>
    intro t b ht hb hm
    refine br_f (nI_ge (by omega) (by omega)) (ld_xt h (by omega) (by omega) (ld_xb h (by omega) (by omega) ?_))
    have iff := ld_cmpI (ld_tpb h i b) (ld_btb h i b) (ld_tpb h i t) (ld_btb h i t)
    by_cases hc : ld_tp n L X Y i b * ld_bt X i t ≤ ld_tp n L X Y i t * ld_bt X i b
    · refine br_t (iff.mpr hc) (nm_r (nI_1 t) (ih (t + 1) b (by omega) hb fun j hj => ?_))
      by_cases hjt : j = t
      · subst hjt; exact hc
      · exact hm j (by omega)
    · refine br_f (fun hh => hc (iff.mp hh)) (nm_r (nI_1 t) (ih (t + 1) t (by omega) (by omega) fun j hj => ?_))
      by_cases hjt : j = t
      · subst hjt; exact Int.le_refl _
      · have := ld_btb h i t
        have := ld_btb h i b
        have := ld_btb h i j
        exact ld_tr (c := ld_tp n L X Y i b) (d := ld_bt X i b) (by omega) (by omega) (by omega) (by omega) (hm j (by omega))
theorem ld_xp {n : Nat} {L : Int} {X Y : Nat → Int} (h : ld_ok n L X Y) {i : Nat} (hi : i < n) {post : Int32 → Prop} (hpost : ∀ b, b < n → (∀ j, j < n → ld_tp n L X Y i b * ld_bt X i j ≤ ld_tp n L X Y i j * ld_bt X i b) → post (nI b)) : wpX_bestPartner post (nI n, ld_i L, fun j => ld_i (X j), fun j => ld_i (Y j)) (nI i) := by
  have hn := h.1
  exact ld_xt h (by omega) (by omega) (ld_xb h (by omega) (by omega) ⟨n + 1, ld_xp20 h hi post hpost n 0 i (by omega) hi (fun j hj => absurd hj (Nat.not_lt_zero j))⟩)
theorem ld_xs26 {n : Nat} {L : Int} {X Y : Nat → Int} (h : ld_ok n L X Y) (post : Int32 → Prop) (hpost : ∀ s b, s < n → b < n → (∀ i j, i < n → j < n → ld_tp n L X Y s b * ld_bt X i j ≤ ld_tp n L X Y i j * ld_bt X s b) → post (nI s)) : ∀ d t s b : Nat, t + d = n → s < n → b < n → (∀ i j, i < t → j < n → ld_tp n L X Y s b * ld_bt X i j ≤ ld_tp n L X Y i j * ld_bt X s b) → wX_bestStart_26 post (nI n) (ld_i L) (fun j => ld_i (X j)) (fun j => ld_i (Y j)) (d + 1) (nI s) (ld_i (ld_tp n L X Y s b)) (ld_i (ld_bt X s b)) (nI t) := by
  have hn := h.1
  intro d
  induction d with
  | zero =>
    intro t s b ht hs hb hm
    have ht' : t = n := by omega
    subst ht'
    exact br_t (nI_le (Nat.le_refl _) (by omega)) (hpost s b hs hb hm)
  | succ d ih =>
    intro t s b ht hs hb hm
    refine br_f (nI_ge (by omega) (by omega)) (ld_xp h (by omega) fun b' hb' hm' => ld_xt h (by omega) (by omega) (ld_xb h (by omega) (by omega) ?_))
    have iff := ld_cmpI (ld_tpb h s b) (ld_btb h s b) (ld_tpb h t b') (ld_btb h t b')
    have p1 := ld_btb h t b'
    have p2 := ld_btb h s b
    by_cases hc : ld_tp n L X Y s b * ld_bt X t b' ≤ ld_tp n L X Y t b' * ld_bt X s b
    · refine br_t (iff.mpr hc) (nm_r (nI_1 t) (ih (t + 1) s b (by omega) hs hb fun i j hi hj => ?_))
      by_cases hit : i = t
      · subst hit
        have p3 := ld_btb h i j
        exact ld_tr (by omega) (by omega) (by omega) hc (hm' j hj)
      · exact hm i j (by omega) hj
    · refine br_f (fun hh => hc (iff.mp hh)) (nm_r (nI_1 t) (ih (t + 1) t b' (by omega) (by omega) hb' fun i j hi hj => ?_))
      by_cases hit : i = t
      · subst hit; exact hm' j hj
      · have p3 := ld_btb h i j
        exact ld_tr (c := ld_tp n L X Y s b) (d := ld_bt X s b) (by omega) (by omega) (by omega) (by omega) (hm i j (by omega) hj)
theorem ld_xs {n : Nat} {L : Int} {X Y : Nat → Int} (h : ld_ok n L X Y) (h0 : 0 < n) {post : Int32 → Prop} (hpost : ∀ s b, s < n → b < n → (∀ i j, i < n → j < n → ld_tp n L X Y s b * ld_bt X i j ≤ ld_tp n L X Y i j * ld_bt X s b) → post (nI s)) : wpX_bestStart post (nI n, ld_i L, fun j => ld_i (X j), fun j => ld_i (Y j)) := by
  have hn := h.1
  refine ld_xp (i := 0) h h0 fun b hb hm => ld_xt (i := 0) h (by omega) (by omega) (ld_xb (i := 0) h (by omega) (by omega) ⟨n, ?_⟩)
  have := ld_xs26 h post hpost (n - 1) 1 0 b (by omega) h0 hb (by
    intro i j hi hj
    have hi0 : i = 0 := by omega
    subst hi0
    exact hm j hj)
  rw [show n - 1 + 1 = n by omega] at this
  exact this
theorem ld_xg2 {T B : Nat} (hT : T ≤ 998400) (hB : 1 ≤ B) (hB' : B ≤ 40) (a : Int32) (b : Int32) (c d : Nat → Int32) (post : Int32 → Prop) (hpost : post (nI (Nat.gcd T B))) : ∀ g : Nat, g ≤ B → Nat.gcd T B ≤ g → wX_commonDivisor_2 post (nI T) (nI B) a b c d (g + 1) (nI g) := by
  have g0 : 0 < Nat.gcd T B := Nat.gcd_pos_of_pos_right _ hB
  intro g
  induction g with
  | zero => intro _ h; omega
  | succ g ih =>
    intro hgB hg
    by_cases h1 : g = 0
    · subst h1
      have e : Nat.gcd T B = 1 := by omega
      rw [e] at hpost
      exact br_t (nI_le (b := 1) (by omega) (by decide)) hpost
    · have ne : ¬ nI (g + 1) = 0 := nI_ne0 (by omega) (by omega)
      refine br_f (nI_ge (a := 1) (by omega) (by omega)) ⟨ne, ?_⟩
      have e1 : nI T - nI T / nI (g + 1) * nI (g + 1) = nI (T % (g + 1)) := pk_rem (by omega) (by omega) (by omega)
      have e2 : nI B - nI B / nI (g + 1) * nI (g + 1) = nI (B % (g + 1)) := pk_rem (by omega) (by omega) (by omega)
      have m1 : T % (g + 1) < g + 1 := Nat.mod_lt _ (by omega)
      have m2 : B % (g + 1) < g + 1 := Nat.mod_lt _ (by omega)
      have z1 : nI T - nI T / nI (g + 1) * nI (g + 1) = 0 ↔ T % (g + 1) = 0 := by
        rw [e1, ← nI_0]; exact nI_eq (by omega) (by omega)
      have z2 : nI B - nI B / nI (g + 1) * nI (g + 1) = 0 ↔ B % (g + 1) = 0 := by
        rw [e2, ← nI_0]; exact nI_eq (by omega) (by omega)
      by_cases c1 : T % (g + 1) = 0
      · refine br_t (z1.mpr c1) ⟨ne, ?_⟩
        by_cases c2 : B % (g + 1) = 0
        · have dv : g + 1 ∣ Nat.gcd T B := Nat.dvd_gcd (Nat.dvd_of_mod_eq_zero c1) (Nat.dvd_of_mod_eq_zero c2)
          have le := Nat.le_of_dvd g0 dv
          rw [show Nat.gcd T B = g + 1 by omega] at hpost
          exact br_t (z2.mpr c2) hpost
        · refine br_f (fun hh => c2 (z2.mp hh)) (nm_r (pk_m1 g) (ih (by omega) ?_))
          have : Nat.gcd T B ≠ g + 1 := fun e => c2 (Nat.mod_eq_zero_of_dvd (e ▸ Nat.gcd_dvd_right T B))
          omega
      · refine br_f (fun hh => c1 (z1.mp hh)) (nm_r (pk_m1 g) (ih (by omega) ?_))
        have : Nat.gcd T B ≠ g + 1 := fun e => c1 (Nat.mod_eq_zero_of_dvd (e ▸ Nat.gcd_dvd_left T B))
        omega
theorem ld_xg {T B : Nat} (hT : T ≤ 998400) (hB : 1 ≤ B) (hB' : B ≤ 40) {u : SX} {post : Int32 → Prop} (hpost : post (nI (Nat.gcd T B))) : wpX_commonDivisor post u (nI T) (nI B) := by
  obtain ⟨a, b, c, d⟩ := u
  exact ⟨B + 1, ld_xg2 hT hB hB' a b c d post hpost B (Nat.le_refl _) (Nat.le_of_dvd hB (Nat.gcd_dvd_right T B))⟩
theorem ld_xrt {n : Nat} {L : Int} {X Y : Nat → Int} (h : ld_ok n L X Y) {i j T B : Nat} (hi : i < 8) (hj : j < 8) (eT : (T : Int) = ld_tp n L X Y i j) (eB : (B : Int) = ld_bt X i j) {post : Int32 → Prop} (hpost : post (nI (T / Nat.gcd T B))) : wpX_reducedTop post (nI n, ld_i L, fun j => ld_i (X j), fun j => ld_i (Y j)) (nI i) (nI j) := by
  have b1 := ld_tpb h i j
  have b2 := ld_btb h i j
  have g0 : 0 < Nat.gcd T B := Nat.gcd_pos_of_pos_right _ (by omega)
  have gl : Nat.gcd T B ≤ B := Nat.le_of_dvd (by omega) (Nat.gcd_dvd_right T B)
  refine ld_xt h hi hj (ld_xb h hi hj ?_)
  rw [← eT, ← eB, ld_iN, ld_iN]
  refine ld_xg (by omega) (by omega) (by omega) ⟨nI_ne0 g0 (by omega), ?_⟩
  rw [pk_div (by omega) g0 (by omega)]
  exact hpost
theorem ld_xrb {n : Nat} {L : Int} {X Y : Nat → Int} (h : ld_ok n L X Y) {i j T B : Nat} (hi : i < 8) (hj : j < 8) (eT : (T : Int) = ld_tp n L X Y i j) (eB : (B : Int) = ld_bt X i j) {post : Int32 → Prop} (hpost : post (nI (B / Nat.gcd T B))) : wpX_reducedBottom post (nI n, ld_i L, fun j => ld_i (X j), fun j => ld_i (Y j)) (nI i) (nI j) := by
  have b1 := ld_tpb h i j
  have b2 := ld_btb h i j
  have g0 : 0 < Nat.gcd T B := Nat.gcd_pos_of_pos_right _ (by omega)
  have gl : Nat.gcd T B ≤ B := Nat.le_of_dvd (by omega) (Nat.gcd_dvd_right T B)
  refine ld_xt h hi hj (ld_xb h hi hj ?_)
  rw [← eT, ← eB, ld_iN, ld_iN]
  refine ld_xg (by omega) (by omega) (by omega) ⟨nI_ne0 g0 (by omega), ?_⟩
  rw [pk_div (by omega) g0 (by omega)]
  exact hpost
/-- the fraction of a best partner is a least one through i -/
theorem ld_lstI {n : Nat} {L : Int} {X Y : Nat → Int} (h : ld_ok n L X Y) {i b : Nat} (hb : b < n) (hm : ∀ j, j < n → ld_tp n L X Y i b * ld_bt X i j ≤ ld_tp n L X Y i j * ld_bt X i b) : ∃ T B : Nat, (T : Int) = ld_tp n L X Y i b ∧ (B : Int) = ld_bt X i b ∧ ld_lst (ld_Ci n L X Y i) T B := by
  have l : ld_lst (ld_Ci n L X Y i) (ld_tp n L X Y i b) (ld_bt X i b) := ⟨⟨b, hb, rfl, rfl⟩, fun t' b' ⟨j, hj, e1, e2⟩ => by subst e1 e2; exact hm j hj⟩
  obtain ⟨T, B, e1, e2, _⟩ := ld_lstN (ld_CiB h i) l
  exact ⟨T, B, e1.symm, e2.symm, by rw [e1, e2] at l; exact l⟩
theorem ld_lstA {n : Nat} {L : Int} {X Y : Nat → Int} (h : ld_ok n L X Y) {i b : Nat} (hi : i < n) (hb : b < n) (hm : ∀ i' j, i' < n → j < n → ld_tp n L X Y i b * ld_bt X i' j ≤ ld_tp n L X Y i' j * ld_bt X i b) : ∃ T B : Nat, (T : Int) = ld_tp n L X Y i b ∧ (B : Int) = ld_bt X i b ∧ ld_best n L X Y T B := by
  have l : ld_lst (ld_Ca n L X Y n) (ld_tp n L X Y i b) (ld_bt X i b) := ⟨⟨i, hi, b, hb, rfl, rfl⟩, fun t' b' ⟨i', hi', j, hj, e1, e2⟩ => by subst e1 e2; exact hm i' j hi' hj⟩
  obtain ⟨T, B, e1, e2, _⟩ := ld_lstN (ld_CaB h n) l
  exact ⟨T, B, e1.symm, e2.symm, Or.inr ⟨by omega, by rw [e1, e2] at l; exact l⟩⟩
theorem ld_merge {n : Nat} {L : Int} {X Y : Nat → Int} (h : ld_ok n L X Y) {s b b' : Nat} (hb : b < n) (h1 : ∀ i j, i < n → j < n → ld_tp n L X Y s b * ld_bt X i j ≤ ld_tp n L X Y i j * ld_bt X s b) (h2 : ∀ j, j < n → ld_tp n L X Y s b' * ld_bt X s j ≤ ld_tp n L X Y s j * ld_bt X s b') (i j : Nat) (hi : i < n) (hj : j < n) : ld_tp n L X Y s b' * ld_bt X i j ≤ ld_tp n L X Y i j * ld_bt X s b' := by
  have p1 := ld_btb h s b
  have p2 := ld_btb h s b'
  have p3 := ld_btb h i j
  exact ld_tr (by omega) (by omega) (by omega) (h2 b hb) (h1 i j hi hj)
theorem ld_xlt {n : Nat} {L : Int} {X Y : Nat → Int} (h : ld_ok n L X Y) {post : Int32 → Prop} (hpost : ∀ T B : Nat, ld_best n L X Y T B → post (nI (T / Nat.gcd T B))) : wpX_leastTop post (nI n, ld_i L, fun j => ld_i (X j), fun j => ld_i (Y j)) := by
  have hn := h.1
  by_cases h0 : n = 0
  · subst h0
    exact br_t nI_0 (hpost 0 1 (Or.inl ⟨rfl, rfl, rfl⟩))
  · refine br_f (nI_ne0 (by omega) (by omega)) (ld_xs h (by omega) fun s b hs hb hm => ld_xp h hs fun b' hb' hm' => ?_)
    obtain ⟨T, B, e1, e2, l⟩ := ld_lstA h hs hb' (ld_merge h hb hm hm')
    exact ld_xrt h (by omega) (by omega) e1 e2 (hpost T B l)
theorem ld_xlb {n : Nat} {L : Int} {X Y : Nat → Int} (h : ld_ok n L X Y) {post : Int32 → Prop} (hpost : ∀ T B : Nat, ld_best n L X Y T B → post (nI (B / Nat.gcd T B))) : wpX_leastBottom post (nI n, ld_i L, fun j => ld_i (X j), fun j => ld_i (Y j)) := by
  have hn := h.1
  by_cases h0 : n = 0
  · subst h0
    exact br_t nI_0 (hpost 0 1 (Or.inl ⟨rfl, rfl, rfl⟩))
  · refine br_f (nI_ne0 (by omega) (by omega)) (ld_xs h (by omega) fun s b hs hb hm => ld_xp h hs fun b' hb' hm' => ?_)
    obtain ⟨T, B, e1, e2, l⟩ := ld_lstA h hs hb' (ld_merge h hb hm hm')
    exact ld_xrb h (by omega) (by omega) e1 e2 (hpost T B l)
theorem ld_xw20 {n : Nat} {L : Int} {X Y : Nat → Int} (h : ld_ok n L X Y) {p q : Int} (hp : -1000 ≤ p) (hp' : p ≤ 1000) (hq : -40 ≤ q) (hq' : q ≤ 40) (post : Int32 → Prop) (hpost : ∀ W, ld_ws n L X Y p q W → post (ld_i W)) : ∀ d t : Nat, ∀ W : Int, t + d = n → (∃ i, i < n ∧ W = ld_s L X Y i p q n) → (∀ i, i < t → W ≤ ld_s L X Y i p q n) → wX_leastWithSlope_20 post (ld_i p) (ld_i q) (nI n) (ld_i L) (fun j => ld_i (X j)) (fun j => ld_i (Y j)) (d + 1) (ld_i W) (nI t) := by
  have hn := h.1
  intro d
  induction d with
  | zero =>
    intro t W ht hW hm
    have ht' : t = n := by omega
    subst ht'
    exact br_t (nI_le (Nat.le_refl _) (by omega)) (hpost W (Or.inr ⟨hW, hm⟩))
  | succ d ih =>
    intro t W ht hW hm
    refine br_f (nI_ge (by omega) (by omega)) (ld_xc h (by omega) hp hp' hq hq' rfl rfl ?_)
    have b1 := ld_s0 h t p q n
    have b2 := ld_sb h t hn hp hp' hq hq'
    have b3 : 0 ≤ W ∧ W ≤ 998400 := by
      obtain ⟨i, _, e⟩ := hW
      rw [e]
      exact ⟨ld_s0 h i p q n, ld_sb h i hn hp hp' hq hq'⟩
    have iff : ld_i W ≤ ld_i (ld_s L X Y t p q n) ↔ W ≤ ld_s L X Y t p q n := ld_ile (by omega) (by omega) (by omega) (by omega)
    by_cases hc : W ≤ ld_s L X Y t p q n
    · refine br_t (iff.mpr hc) (nm_r (nI_1 t) (ih (t + 1) W (by omega) hW fun i hi => ?_))
      by_cases hit : i = t
      · subst hit; exact hc
      · exact hm i (by omega)
    · refine br_f (fun hh => hc (iff.mp hh)) (nm_r (nI_1 t) (ih (t + 1) _ (by omega) ⟨t, by omega, rfl⟩ fun i hi => ?_))
      by_cases hit : i = t
      · subst hit; exact Int.le_refl _
      · have := hm i (by omega)
        omega
theorem ld_xw {n : Nat} {L : Int} {X Y : Nat → Int} (h : ld_ok n L X Y) {p q : Int} (hp : -1000 ≤ p) (hp' : p ≤ 1000) (hq : -40 ≤ q) (hq' : q ≤ 40) {post : Int32 → Prop} (hpost : ∀ W, ld_ws n L X Y p q W → post (ld_i W)) : wpX_leastWithSlope post (nI n, ld_i L, fun j => ld_i (X j), fun j => ld_i (Y j)) (ld_i p) (ld_i q) := by
  have hn := h.1
  by_cases h0 : n = 0
  · subst h0
    exact br_t nI_0 (hpost 0 (Or.inl ⟨rfl, rfl⟩))
  · refine br_f (nI_ne0 (by omega) (by omega)) (ld_xc (i := 0) h (by omega) hp hp' hq hq' rfl rfl ⟨n, ?_⟩)
    have := ld_xw20 h hp hp' hq hq' post hpost (n - 1) 1 (ld_s L X Y 0 p q n) (by omega) ⟨0, by omega, rfl⟩ (by
      intro i hi
      have hi0 : i = 0 := by omega
      subst hi0
      exact Int.le_refl _)
    rw [show n - 1 + 1 = n by omega] at this
    exact this
end
section
/-! the reference's walks -/
theorem ld_yk {n : Nat} {L : Int} {X Y : Nat → Int} (h : ld_ok n L X Y) {f_top f_bottom : Int64} {f_found : Int32} {d : Int} (hd : -41600 ≤ d ∧ d ≤ 41600) {post : Int64 → Prop} {x : Int64} (hx : x = ld_l d) (hpost : post (ld_l (ld_c L d))) : wpY_cost post (nI n, ld_i L, f_top, f_bottom, f_found, fun j => ld_i (X j), fun j => ld_i (Y j)) x := by
  subst hx
  have h1 := h.2.1
  have h2 := h.2.2.1
  have iff : ld_l d ≤ 0 ↔ d ≤ 0 := by
    rw [ld_l0]
    exact ld_lle (by omega) (by omega) (by omega) (by omega)
  by_cases hz : d ≤ 0
  · refine br_t (iff.mpr hz) ?_
    rw [show ld_c L d = (L - 4) * d from if_pos hz, ← ld_lmul, ← ld_il (a := L - 4) (by omega) (by omega), ← ld_isub, ← ld_i4] at hpost
    exact hpost
  · refine br_f (fun hh => hz (iff.mp hh)) ?_
    rw [show ld_c L d = L * d from if_neg hz, ← ld_lmul, ← ld_il (a := L) (by omega) (by omega)] at hpost
    exact hpost
theorem ld_yc6 {n : Nat} {L : Int} {X Y : Nat → Int} (h : ld_ok n L X Y) {f_top f_bottom : Int64} {f_found : Int32} {i : Nat} (hi : i < 8) {p q : Int} (hp : -1000 ≤ p) (hp' : p ≤ 1000) (hq : -40 ≤ q) (hq' : q ≤ 40) (post : Int64 → Prop) (hpost : post (ld_l (ld_s L X Y i p q n))) : ∀ d t : Nat, t + d = n → wY_costOf_6 post (nI i) (ld_i p) (ld_i q) (nI n) (ld_i L) f_top f_bottom f_found (fun j => ld_i (X j)) (fun j => ld_i (Y j)) (d + 1) (ld_l (ld_s L X Y i p q t)) (nI t) := by
  have hn := h.1
  have hX := h.2.2.2.1
  have hY := h.2.2.2.2
  intro d
  induction d with
  | zero =>
    intro t ht
    have ht' : t = n := by omega
    subst ht'
    exact br_t (nI_le (Nat.le_refl _) (by omega)) hpost
  | succ d ih =>
    intro t ht
    have t8 : t < 8 := by omega
    have x1 := hX i
    have x2 := hX t
    have y1 := hY i
    have y2 := hY t
    have e : (ld_i q).toInt64 * ((fun j => ld_i (Y j)) (nI t).toNatClampNeg - (fun j => ld_i (Y j)) (nI i).toNatClampNeg).toInt64 - (ld_i p).toInt64 * ((fun j => ld_i (X j)) (nI t).toNatClampNeg - (fun j => ld_i (X j)) (nI i).toNatClampNeg).toInt64 = ld_l (q * (Y t - Y i) - p * (X t - X i)) := by
      rw [ld_cl t8, ld_cl hi]
      simp only [ld_isub]
      rw [ld_il (by omega) (by omega), ld_il (by omega) (by omega), ld_il (by omega) (by omega), ld_il (by omega) (by omega), ld_lmul, ld_lmul, ld_lsub]
    refine br_f (nI_ge (by omega) (by omega)) ⟨ld_in t8, ld_in hi, ld_in t8, ld_in hi, ld_yk h (ld_db h i t hp hp' hq hq') e ?_⟩
    have nx := ih (t + 1) (by omega)
    rw [ld_ss] at nx
    exact nm_r (ld_ladd _ _) (nm_r (nI_1 t) nx)
theorem ld_yc {n : Nat} {L : Int} {X Y : Nat → Int} (h : ld_ok n L X Y) {f_top f_bottom : Int64} {f_found : Int32} {i : Nat} (hi : i < 8) {p q : Int} (hp : -1000 ≤ p) (hp' : p ≤ 1000) (hq : -40 ≤ q) (hq' : q ≤ 40) {post : Int64 → Prop} {x1 x2 : Int32} (e1 : x1 = ld_i p) (e2 : x2 = ld_i q) (hpost : post (ld_l (ld_s L X Y i p q n))) : wpY_costOf post (nI n, ld_i L, f_top, f_bottom, f_found, fun j => ld_i (X j), fun j => ld_i (Y j)) (nI i) x1 x2 := by
  subst e1 e2
  exact ⟨n + 1, ld_yc6 h hi hp hp' hq hq' post hpost n 0 (by omega)⟩
theorem ld_yle {n : Nat} {L : Int} {X Y : Nat → Int} (h : ld_ok n L X Y) (i j : Nat) : ld_i (X j) ≤ ld_i (X i) ↔ X j ≤ X i := by
  have hX := h.2.2.2.1
  have := hX i
  have := hX j
  exact ld_ile (by omega) (by omega) (by omega) (by omega)
theorem ld_yeq {n : Nat} {L : Int} {X Y : Nat → Int} (h : ld_ok n L X Y) (i j : Nat) : ld_i (X j) = ld_i (X i) ↔ X j = X i := by
  have hX := h.2.2.2.1
  have := hX i
  have := hX j
  exact ld_ieq (by omega) (by omega) (by omega) (by omega)
/-- rise, run and cost of the line through two points of different x, as the reference calls them -/
theorem ld_yrise {n : Nat} {L : Int} {X Y : Nat → Int} (h : ld_ok n L X Y) {f_top f_bottom : Int64} {f_found : Int32} {i j : Nat} (hi : i < 8) (hj : j < 8) {post : Int32 → Prop} (hpost : post (ld_i (if X j ≤ X i then Y i - Y j else Y j - Y i))) : wpY_rise post (nI n, ld_i L, f_top, f_bottom, f_found, fun j => ld_i (X j), fun j => ld_i (Y j)) (nI i) (nI j) := by
  have a := ld_cl hj
  have b := ld_cl hi
  refine ⟨ld_in hj, ld_in hi, ?_⟩
  rw [a, b]
  by_cases hc : X j ≤ X i
  · rw [if_pos hc, ← ld_isub] at hpost
    exact br_t ((ld_yle h i j).mpr hc) ⟨ld_in hi, ld_in hj, hpost⟩
  · rw [if_neg hc, ← ld_isub] at hpost
    exact br_f (fun hh => hc ((ld_yle h i j).mp hh)) ⟨ld_in hj, ld_in hi, hpost⟩
theorem ld_yrun {n : Nat} {L : Int} {X Y : Nat → Int} (h : ld_ok n L X Y) {f_top f_bottom : Int64} {f_found : Int32} {i j : Nat} (hi : i < 8) (hj : j < 8) {post : Int32 → Prop} (hpost : post (ld_i (if X j ≤ X i then X i - X j else X j - X i))) : wpY_run post (nI n, ld_i L, f_top, f_bottom, f_found, fun j => ld_i (X j), fun j => ld_i (Y j)) (nI i) (nI j) := by
  have a := ld_cl hj
  have b := ld_cl hi
  refine ⟨ld_in hj, ld_in hi, ?_⟩
  rw [a, b]
  by_cases hc : X j ≤ X i
  · rw [if_pos hc, ← ld_isub] at hpost
    exact br_t ((ld_yle h i j).mpr hc) ⟨ld_in hi, ld_in hj, hpost⟩
  · rw [if_neg hc, ← ld_isub] at hpost
    exact br_f (fun hh => hc ((ld_yle h i j).mp hh)) ⟨ld_in hj, ld_in hi, hpost⟩
theorem ld_yline {n : Nat} {L : Int} {X Y : Nat → Int} (h : ld_ok n L X Y) {f_top f_bottom : Int64} {f_found : Int32} {i j : Nat} (hi : i < 8) (hj : j < 8) (hne : X j ≠ X i) {post : Int64 → Int32 → Prop} (hpost : post (ld_l (ld_tp n L X Y i j)) (ld_i (ld_bt X i j))) : wpY_rise (fun r => wpY_run (fun s => wpY_costOf (fun c => post c s) (nI n, ld_i L, f_top, f_bottom, f_found, fun j => ld_i (X j), fun j => ld_i (Y j)) (nI i) r s) (nI n, ld_i L, f_top, f_bottom, f_found, fun j => ld_i (X j), fun j => ld_i (Y j)) (nI i) (nI j)) (nI n, ld_i L, f_top, f_bottom, f_found, fun j => ld_i (X j), fun j => ld_i (Y j)) (nI i) (nI j) := by
  have hX := h.2.2.2.1
  have hY := h.2.2.2.2
  have := hX i
  have := hX j
  have := hY i
  have := hY j
  refine ld_yrise h hi hj (ld_yrun h hi hj ?_)
  by_cases hc : X j ≤ X i
  · have hl : X j < X i := by omega
    rw [if_pos hc, if_pos hc]
    rw [ld_tpn hl, ld_btn hl] at hpost
    exact ld_yc h hi (by omega) (by omega) (by omega) (by omega) rfl rfl hpost
  · have hl : X i < X j := by omega
    rw [if_neg hc, if_neg hc]
    rw [ld_tpp hl, ld_btp hl] at hpost
    exact ld_yc h hi (by omega) (by omega) (by omega) (by omega) rfl rfl hpost
/-- what the reference has found of the set C -/
def ld_J (C : Int → Int → Prop) (T B : Int64) (f : Int32) : Prop := (f = 0 ∧ T = ld_l 0 ∧ B = ld_l 1 ∧ ∀ t b, ¬ C t b) ∨ (f = 1 ∧ ∃ t b, T = ld_l t ∧ B = ld_l b ∧ ld_lst C t b)
theorem ld_cmpL {a b c d : Int} (ha : 0 ≤ a ∧ a ≤ 998400) (hb : 1 ≤ b ∧ b ≤ 40) (hc : 0 ≤ c ∧ c ≤ 998400) (hd : 1 ≤ d ∧ d ≤ 40) : ld_l a * ld_l d ≤ ld_l c * ld_l b ↔ a * d ≤ c * b := by
  rw [ld_lmul, ld_lmul]
  have k1 := ld_p40 ha.1 ha.2 (b := d) (by omega) hd.2
  have k2 := ld_p40 hc.1 hc.2 (b := b) (by omega) hb.2
  exact ld_lle k1.1 k1.2 k2.1 k2.2
theorem ld_ylook {n L : Int32} {X Y : Nat → Int32} {C C' : Int → Int → Prop} (hC : ld_Cb C) {r s : Int} (hr : 0 ≤ r ∧ r ≤ 998400) (hs : 1 ≤ s ∧ s ≤ 40) (hC' : ∀ t b, C' t b ↔ C t b ∨ (t = r ∧ b = s)) {T B : Int64} {f : Int32} (hJ : ld_J C T B f) {post : SY → Prop} {x1 x2 : Int64} (e1 : x1 = ld_l r) (e2 : x2 = ld_l s) (hpost : ∀ T' B' : Int64, ∀ f' : Int32, ld_J C' T' B' f' → post (n, L, T', B', f', X, Y)) : wpY_look post (n, L, T, B, f, X, Y) x1 x2 := by
  subst e1 e2
  rcases hJ with ⟨ef, eT, eB, hno⟩ | ⟨ef, t, b, eT, eB, hl⟩
  · refine br_t ef (hpost _ _ _ (Or.inr ⟨rfl, r, s, rfl, rfl, (hC' r s).mpr (Or.inr ⟨rfl, rfl⟩), fun t' b' hc => ?_⟩))
    rcases (hC' t' b').mp hc with hc | ⟨e1, e2⟩
    · exact absurd hc (hno _ _)
    · subst e1 e2; exact Int.le_refl _
  · subst ef eT eB
    have hb := hC _ _ hl.1
    have iff := ld_cmpL (a := t) (b := b) (c := r) (d := s) ⟨hb.1, hb.2.1⟩ hb.2.2 hr hs
    refine br_f (by decide) ?_
    by_cases hc : t * s ≤ r * b
    · refine br_t (iff.mpr hc) (hpost _ _ _ (Or.inr ⟨rfl, t, b, rfl, rfl, (hC' t b).mpr (Or.inl hl.1), fun t' b' hc' => ?_⟩))
      rcases (hC' t' b').mp hc' with hc' | ⟨e1, e2⟩
      · exact hl.2 _ _ hc'
      · subst e1 e2; exact hc
    · refine br_f (fun hh => hc (iff.mp hh)) (hpost _ _ _ (Or.inr ⟨rfl, r, s, rfl, rfl, (hC' r s).mpr (Or.inr ⟨rfl, rfl⟩), fun t' b' hc' => ?_⟩))
      rcases (hC' t' b').mp hc' with hc' | ⟨e1, e2⟩
      · have hb' := hC _ _ hc'
        exact ld_tr (c := t) (d := b) (by omega) (by omega) (by omega) (by omega) (hl.2 _ _ hc')
      · subst e1 e2; exact Int.le_refl _
/-- what lookThrough has seen ahead of its turn m -/
def ld_Cm (C : Int → Int → Prop) (n : Nat) (L : Int) (X Y : Nat → Int) (i m : Nat) : Int → Int → Prop := fun t b => C t b ∨ ∃ j, j < m ∧ X j ≠ X i ∧ t = ld_tp n L X Y i j ∧ b = ld_bt X i j
theorem ld_CmB {n : Nat} {L : Int} {X Y : Nat → Int} (h : ld_ok n L X Y) {C : Int → Int → Prop} (hC : ld_Cb C) (i m : Nat) : ld_Cb (ld_Cm C n L X Y i m) := by
  intro t b hc
  rcases hc with hc | ⟨j, _, _, e1, e2⟩
  · exact hC _ _ hc
  · have := ld_tpb h i j
    have := ld_btb h i j
    subst e1 e2
    omega
def ld_Cp (C : Int → Int → Prop) (n : Nat) (L : Int) (X Y : Nat → Int) (i : Nat) : Int → Int → Prop := fun t b => C t b ∨ ld_Ci n L X Y i t b
theorem ld_JCp {n : Nat} {L : Int} {X Y : Nat → Int} (h : ld_ok n L X Y) {C : Int → Int → Prop} (hC : ld_Cb C) {i : Nat} {T B : Int64} {f : Int32} (he : ∃ t, t < n ∧ X t ≠ X i) (hJ : ld_J (ld_Cm C n L X Y i n) T B f) : ld_J (ld_Cp C n L X Y i) T B f := by
  obtain ⟨j0, hj0, hne0, hlev⟩ := ld_lev h he
  rcases hJ with ⟨_, _, _, hno⟩ | ⟨ef, t, b, eT, eB, hl⟩
  · exact absurd (Or.inr ⟨j0, hj0, hne0, rfl, rfl⟩) (hno (ld_tp n L X Y i j0) (ld_bt X i j0))
  · refine Or.inr ⟨ef, t, b, eT, eB, ?_, fun t' b' hc => ?_⟩
    · rcases hl.1 with hc | ⟨j, hj, _, e1, e2⟩
      · exact Or.inl hc
      · exact Or.inr ⟨j, hj, e1, e2⟩
    · rcases hc with hc | ⟨j, hj, e1, e2⟩
      · exact hl.2 _ _ (Or.inl hc)
      · by_cases hx : X j = X i
        · rw [ld_tp0 hx] at e1
          rw [ld_bt0 hx] at e2
          subst e1 e2
          have b1 := (ld_CmB h hC i n) _ _ hl.1
          have b2 := ld_btb h i j0
          exact ld_tr (by omega) (by omega) (by omega) (hl.2 _ _ (Or.inr ⟨j0, hj0, hne0, rfl, rfl⟩)) hlev
        · exact hl.2 _ _ (Or.inr ⟨j, hj, hx, e1, e2⟩)
theorem ld_yt4 {n : Nat} {L : Int} {X Y : Nat → Int} (h : ld_ok n L X Y) {C : Int → Int → Prop} (hC : ld_Cb C) {i : Nat} (hi : i < n) (post : SY → Prop) (hpost : ∀ T' B' : Int64, ∀ f' : Int32, ld_J (ld_Cp C n L X Y i) T' B' f' → post (nI n, ld_i L, T', B', f', fun j => ld_i (X j), fun j => ld_i (Y j))) : ∀ d t : Nat, ∀ a : Int32, ∀ T B : Int64, ∀ f : Int32, t + d = n → ((a = 1 ∧ ∀ j, j < t → X j = X i) ∨ (a = 0 ∧ ∃ j, j < t ∧ X j ≠ X i)) → ld_J (ld_Cm C n L X Y i t) T B f → wY_lookThrough_4 post (nI i) (d + 1) a (nI t) (nI n) (ld_i L) T B f (fun j => ld_i (X j)) (fun j => ld_i (Y j)) := by
  have hn := h.1
  intro d
  induction d with
  | zero =>
    intro t a T B f ht ha hJ
    have ht' : t = n := by omega
    subst ht'
    refine br_t (nI_le (Nat.le_refl _) (by omega)) (ld_yc h (by omega) (by omega) (by omega) (by omega) (by omega) ld_i0 ld_i1 ?_)
    rcases ha with ⟨ea, hall⟩ | ⟨ea, hex⟩
    · subst ea
      refine br_f (by decide) (ld_ylook (ld_CmB h hC i t) (C' := ld_Cp C t L X Y i) ⟨ld_s0 h i 0 1 t, ld_sb h i hn (by omega) (by omega) (by omega) (by omega)⟩ (s := 1) (by omega) ?_ hJ rfl ld_l1 hpost)
      intro r s
      constructor
      · intro hc
        rcases hc with hc | ⟨j, hj, e1, e2⟩
        · exact Or.inl (Or.inl hc)
        · rw [ld_tp0 (hall j hj)] at e1
          rw [ld_bt0 (hall j hj)] at e2
          exact Or.inr ⟨e1, e2⟩
      · intro hc
        rcases hc with (hc | ⟨j, hj, hx, _⟩) | ⟨e1, e2⟩
        · exact Or.inl hc
        · exact absurd (hall j hj) hx
        · exact Or.inr ⟨i, hi, by rw [ld_tp0 rfl]; exact e1, by rw [ld_bt0 rfl]; exact e2⟩
    · subst ea
      exact br_t rfl (hpost _ _ _ (ld_JCp h hC hex hJ))
  | succ d ih =>
    intro t a T B f ht ha hJ
    have t8 : t < 8 := by omega
    have i8 : i < 8 := by omega
    refine br_f (nI_ge (by omega) (by omega)) ⟨ld_in t8, ld_in i8, ?_⟩
    have c1 := ld_cl t8
    have c2 := ld_cl i8
    rw [c1, c2]
    by_cases hx : X t = X i
    · refine br_t ((ld_yeq h i t).mpr hx) (nm_r (nI_1 t) (ih (t + 1) a T B f (by omega) ?_ ?_))
      · rcases ha with ⟨ea, hall⟩ | ⟨ea, j, hj, hne⟩
        · refine Or.inl ⟨ea, fun j hj => ?_⟩
          by_cases hjt : j = t
          · subst hjt; exact hx
          · exact hall j (by omega)
        · exact Or.inr ⟨ea, j, by omega, hne⟩
      · have eC : ld_Cm C n L X Y i (t + 1) = ld_Cm C n L X Y i t := by
          funext r s
          apply propext
          constructor
          · intro hc
            rcases hc with hc | ⟨j, hj, hne, e⟩
            · exact Or.inl hc
            · have hjt : j ≠ t := fun e => hne (e ▸ hx)
              exact Or.inr ⟨j, by omega, hne, e⟩
          · intro hc
            rcases hc with hc | ⟨j, hj, hne, e⟩
            · exact Or.inl hc
            · exact Or.inr ⟨j, by omega, hne, e⟩
        rw [eC]
        exact hJ
    · have bt := ld_btb h i t
      refine br_f (fun hh => hx ((ld_yeq h i t).mp hh)) (ld_yline h i8 t8 hx (ld_ylook (ld_CmB h hC i t) (C' := ld_Cm C n L X Y i (t + 1)) (ld_tpb h i t) bt ?_ hJ rfl (ld_il (by omega) (by omega)) ?_))
      · intro r s
        constructor
        · intro hc
          rcases hc with hc | ⟨j, hj, hne, e⟩
          · exact Or.inl (Or.inl hc)
          · by_cases hjt : j = t
            · subst hjt; exact Or.inr e
            · exact Or.inl (Or.inr ⟨j, by omega, hne, e⟩)
        · intro hc
          rcases hc with (hc | ⟨j, hj, hne, e⟩) | e
          · exact Or.inl hc
          · exact Or.inr ⟨j, by omega, hne, e⟩
          · exact Or.inr ⟨t, by omega, hx, e⟩
      · intro T' B' f' hJ'
        exact nm_r (nI_1 t) (ih (t + 1) 0 T' B' f' (by omega) (Or.inr ⟨rfl, t, by omega, hx⟩) hJ')
theorem ld_yt {n : Nat} {L : Int} {X Y : Nat → Int} (h : ld_ok n L X Y) {C : Int → Int → Prop} (hC : ld_Cb C) {i : Nat} (hi : i < n) {T B : Int64} {f : Int32} (hJ : ld_J C T B f) {post : SY → Prop} (hpost : ∀ T' B' : Int64, ∀ f' : Int32, ld_J (ld_Cp C n L X Y i) T' B' f' → post (nI n, ld_i L, T', B', f', fun j => ld_i (X j), fun j => ld_i (Y j))) : wpY_lookThrough post (nI n, ld_i L, T, B, f, fun j => ld_i (X j), fun j => ld_i (Y j)) (nI i) := by
  have eC : ld_Cm C n L X Y i 0 = C := by
    funext r s
    apply propext
    constructor
    · intro hc
      rcases hc with hc | ⟨j, hj, _⟩
      · exact hc
      · exact absurd hj (Nat.not_lt_zero j)
    · exact Or.inl
  exact ⟨n + 1, ld_yt4 h hC hi post hpost n 0 1 T B f (by omega) (Or.inl ⟨rfl, fun j hj => absurd hj (Nat.not_lt_zero j)⟩) (by rw [eC]; exact hJ)⟩
theorem ld_yl6 {n : Nat} {L : Int} {X Y : Nat → Int} (h : ld_ok n L X Y) (post : SY → Prop) (hpost : ∀ T' B' : Int64, ∀ f' : Int32, ld_J (ld_Ca n L X Y n) T' B' f' → post (nI n, ld_i L, T', B', f', fun j => ld_i (X j), fun j => ld_i (Y j))) : ∀ d t : Nat, ∀ T B : Int64, ∀ f : Int32, t + d = n → ld_J (ld_Ca n L X Y t) T B f → wY_least_6 post (d + 1) (nI t) (nI n) (ld_i L) T B f (fun j => ld_i (X j)) (fun j => ld_i (Y j)) := by
  have hn := h.1
  intro d
  induction d with
  | zero =>
    intro t T B f ht hJ
    have ht' : t = n := by omega
    subst ht'
    exact br_t (nI_le (Nat.le_refl _) (by omega)) (hpost T B f hJ)
  | succ d ih =>
    intro t T B f ht hJ
    refine br_f (nI_ge (by omega) (by omega)) (ld_yt h (ld_CaB h t) (by omega) hJ fun T' B' f' hJ' => ?_)
    have eC : ld_Cp (ld_Ca n L X Y t) n L X Y t = ld_Ca n L X Y (t + 1) := by
      funext r s
      apply propext
      constructor
      · intro hc
        rcases hc with ⟨i, hi, e⟩ | e
        · exact ⟨i, by omega, e⟩
        · exact ⟨t, by omega, e⟩
      · intro ⟨i, hi, e⟩
        by_cases hit : i = t
        · subst hit; exact Or.inr e
        · exact Or.inl ⟨i, by omega, e⟩
    rw [eC] at hJ'
    exact nm_r (nI_1 t) (ih (t + 1) T' B' f' (by omega) hJ')
theorem ld_yl {n : Nat} {L : Int} {X Y : Nat → Int} (h : ld_ok n L X Y) {T B : Int64} {f : Int32} {post : SY → Prop} (hpost : ∀ T' B' : Nat, ∀ f' : Int32, ld_best n L X Y T' B' → post (nI n, ld_i L, lN T', lN B', f', fun j => ld_i (X j), fun j => ld_i (Y j))) : wpY_least post (nI n, ld_i L, T, B, f, fun j => ld_i (X j), fun j => ld_i (Y j)) := by
  refine ⟨n + 1, ld_yl6 h post ?_ n 0 0 1 0 (by omega) (Or.inl ⟨rfl, ld_l0, ld_l1, fun t b ⟨i, hi, _⟩ => absurd hi (Nat.not_lt_zero i)⟩)⟩
  intro T' B' f' hJ
  rcases hJ with ⟨_, eT, eB, hno⟩ | ⟨_, t, b, eT, eB, hl⟩
  · have h0 : n = 0 := by
      apply Classical.byContradiction
      intro hne
      exact hno _ _ ⟨0, by omega, 0, by omega, rfl, rfl⟩
    subst eT eB
    exact hpost 0 1 f' (Or.inl ⟨h0, rfl, rfl⟩)
  · obtain ⟨t', b', e1, e2, _⟩ := ld_lstN (ld_CaB h n) hl
    subst e1 e2 eT eB
    rw [ld_lN, ld_lN]
    refine hpost t' b' f' (Or.inr ⟨?_, hl⟩)
    obtain ⟨i, hi, _⟩ := hl.1
    omega
theorem ld_yg13 {T B : Nat} (hT : T ≤ 998400) (hB : 1 ≤ B) (hB' : B ≤ 40) (n L : Int32) (f_top f_bottom : Int64) (f : Int32) (X Y : Nat → Int32) (post : Int64 → Prop) (hpost : post (lN (Nat.gcd T B))) : ∀ d k a b : Nat, k + d = 90 → a ≤ 998400 → b ≤ 998400 → 0 < a + b → Nat.gcd a b = Nat.gcd T B → ((k = 0 ∧ b ≤ 40) ∨ a + k ≤ 41 ∨ a = 0) → wY_common_13 post n L f_top f_bottom f X Y (d + 1) (lN a) (lN b) (nI k) := by
  intro d
  induction d with
  | zero =>
    intro k a b hk ha hb hab hg hm
    have a0 : a = 0 := by omega
    subst a0
    rw [Nat.gcd_zero_left] at hg
    refine br_t (nI_le (a := 90) (by omega) (by omega)) (br_t ((lN_le (a := 1) (by omega) (by omega)).mpr (by omega)) ?_)
    rw [hg]
    exact hpost
  | succ d ih =>
    intro k a b hk ha hb hab hg hm
    refine br_f (nI_ge (b := 90) (by omega) (by omega)) ?_
    by_cases a0 : a = 0
    · subst a0
      exact br_t rfl (nm_r (nI_1 k) (ih (k + 1) 0 b (by omega) ha hb hab hg (Or.inr (Or.inr rfl))))
    · have ne : ¬ lN a = 0 := fun e => a0 ((lN_eq (a := a) (b := 0) (by omega) (by omega)).mp e)
      have lt : b % a < a := Nat.mod_lt _ (by omega)
      have le : b % a ≤ b := Nat.mod_le _ _
      refine br_f ne (br_f ne ⟨ne, nm_r (pk_lRem (by omega) (by omega) (by omega)) (nm_r (nI_1 k) (ih (k + 1) (b % a) a (by omega) (by omega) ha (by omega) ?_ (by omega)))⟩)
      rw [← hg, Nat.gcd_rec a b]
theorem ld_yg {T B : Nat} (hT : T ≤ 998400) (hB : 1 ≤ B) (hB' : B ≤ 40) {n L f : Int32} {X Y : Nat → Int32} {post : Int64 → Prop} (hpost : post (lN (Nat.gcd T B))) : wpY_common post (n, L, lN T, lN B, f, X, Y) :=
  ⟨91, ld_yg13 hT hB hB' n L (lN T) (lN B) f X Y post hpost 90 0 T B (by omega) hT (by omega) (by omega) rfl (Or.inl ⟨rfl, hB'⟩)⟩
theorem ld_yu {T B : Nat} (hT : T ≤ 998400) (hB : 1 ≤ B) (hB' : B ≤ 40) {n L f : Int32} {X Y : Nat → Int32} {post : Int32 → Prop} (hpost : post (nI (T / Nat.gcd T B))) : wpY_upper post (n, L, lN T, lN B, f, X, Y) := by
  have g0 : 0 < Nat.gcd T B := Nat.gcd_pos_of_pos_right _ (by omega)
  have gl : Nat.gcd T B ≤ B := Nat.le_of_dvd (by omega) (Nat.gcd_dvd_right T B)
  refine ld_yg hT hB hB' ⟨fun e => ?_, ?_⟩
  · have := (lN_eq (a := Nat.gcd T B) (b := 0) (by omega) (by omega)).mp e
    omega
  · rw [pk_lDiv (by omega) g0 (by omega), lN_i]
    exact hpost
theorem ld_yd {T B : Nat} (hT : T ≤ 998400) (hB : 1 ≤ B) (hB' : B ≤ 40) {n L f : Int32} {X Y : Nat → Int32} {post : Int32 → Prop} (hpost : post (nI (B / Nat.gcd T B))) : wpY_lower post (n, L, lN T, lN B, f, X, Y) := by
  have g0 : 0 < Nat.gcd T B := Nat.gcd_pos_of_pos_right _ (by omega)
  have gl : Nat.gcd T B ≤ B := Nat.le_of_dvd (by omega) (Nat.gcd_dvd_right T B)
  refine ld_yg hT hB hB' ⟨fun e => ?_, ?_⟩
  · have := (lN_eq (a := Nat.gcd T B) (b := 0) (by omega) (by omega)).mp e
    omega
  · rw [pk_lDiv (by omega) g0 (by omega), lN_i]
    exact hpost
theorem ld_yw7 {n : Nat} {L : Int} {X Y : Nat → Int} (h : ld_ok n L X Y) {f_top f_bottom : Int64} {f_found : Int32} {p q : Int} (hp : -1000 ≤ p) (hp' : p ≤ 1000) (hq : -40 ≤ q) (hq' : q ≤ 40) (post : Int64 → Prop) (hpost : ∀ W, ld_ws n L X Y p q W → post (ld_l W)) : ∀ d t : Nat, ∀ W : Int, t + d = n → ((t = 0 ∧ W = -1) ∨ ((∃ i, i < n ∧ W = ld_s L X Y i p q n) ∧ (∀ i, i < t → W ≤ ld_s L X Y i p q n))) → wY_with_7 post (ld_i p) (ld_i q) (nI n) (ld_i L) f_top f_bottom f_found (fun j => ld_i (X j)) (fun j => ld_i (Y j)) (d + 1) (ld_l W) (nI t) := by
  have hn := h.1
  intro d
  induction d with
  | zero =>
    intro t W ht hW
    have ht' : t = n := by omega
    subst ht'
    refine br_t (nI_le (Nat.le_refl _) (by omega)) ?_
    rcases hW with ⟨e0, eW⟩ | hW
    · subst eW
      exact br_f (by decide) (hpost 0 (Or.inl ⟨e0, rfl⟩))
    · have hw : ld_ws t L X Y p q W := Or.inr hW
      have b3 := ld_wsb h hp hp' hq hq' hw
      have iff : ld_l 0 ≤ ld_l W ↔ 0 ≤ W := ld_lle (by omega) (by omega) (by omega) (by omega)
      exact br_t (iff.mpr b3.1) (hpost W hw)
  | succ d ih =>
    intro t W ht hW
    refine br_f (nI_ge (by omega) (by omega)) (ld_yc h (by omega) hp hp' hq hq' rfl rfl ?_)
    have b1 := ld_s0 h t p q n
    have b2 := ld_sb h t hn hp hp' hq hq'
    rcases hW with ⟨e0, eW⟩ | ⟨hW, hm⟩
    · subst e0 eW
      refine br_t (by decide) (nm_r (nI_1 0) (ih 1 _ (by omega) (Or.inr ⟨⟨0, by omega, rfl⟩, fun i hi => ?_⟩)))
      have hi0 : i = 0 := by omega
      subst hi0
      exact Int.le_refl _
    · have b3 : 0 ≤ W ∧ W ≤ 998400 := by
        obtain ⟨i, _, e⟩ := hW
        rw [e]
        exact ⟨ld_s0 h i p q n, ld_sb h i hn hp hp' hq hq'⟩
      have i0 : ld_l W < ld_l 0 ↔ W < 0 := ld_llt (by omega) (by omega) (by omega) (by omega)
      have iff : ld_l W ≤ ld_l (ld_s L X Y t p q n) ↔ W ≤ ld_s L X Y t p q n := ld_lle (by omega) (by omega) (by omega) (by omega)
      refine br_f (fun hh => by have := i0.mp hh; omega) ?_
      by_cases hc : W ≤ ld_s L X Y t p q n
      · refine br_t (iff.mpr hc) (nm_r (nI_1 t) (ih (t + 1) W (by omega) (Or.inr ⟨hW, fun i hi => ?_⟩)))
        by_cases hit : i = t
        · subst hit; exact hc
        · exact hm i (by omega)
      · refine br_f (fun hh => hc (iff.mp hh)) (nm_r (nI_1 t) (ih (t + 1) _ (by omega) (Or.inr ⟨⟨t, by omega, rfl⟩, fun i hi => ?_⟩)))
        by_cases hit : i = t
        · subst hit; exact Int.le_refl _
        · have := hm i (by omega)
          omega
theorem ld_yw {n : Nat} {L : Int} {X Y : Nat → Int} (h : ld_ok n L X Y) {f_top f_bottom : Int64} {f_found : Int32} {p q : Int} (hp : -1000 ≤ p) (hp' : p ≤ 1000) (hq : -40 ≤ q) (hq' : q ≤ 40) {post : Int64 → Prop} (hpost : ∀ W, ld_ws n L X Y p q W → post (ld_l W)) : wpY_with post (nI n, ld_i L, f_top, f_bottom, f_found, fun j => ld_i (X j), fun j => ld_i (Y j)) (ld_i p) (ld_i q) :=
  ⟨n + 1, ld_yw7 h hp hp' hq hq' post hpost n 0 (-1) (by omega) (Or.inl ⟨rfl, rfl⟩)⟩
end
section
/-! refusals, both sides alike -/
theorem ld_slope (v1 v2 : Int32) : ((∀ (post : Int32 → Prop) (u : SX), post 0 → wpX_isSlope post u v1 v2) ∧ (∀ (post : Int32 → Prop) (v : SY), post 0 → wpY_isSlope post v v1 v2)) ∨ ((∀ (post : Int32 → Prop) (u : SX), post 1 → wpX_isSlope post u v1 v2) ∧ (∀ (post : Int32 → Prop) (v : SY), post 1 → wpY_isSlope post v v1 v2) ∧ ∃ p q : Int, v1 = ld_i p ∧ v2 = ld_i q ∧ -1000 ≤ p ∧ p ≤ 1000 ∧ 1 ≤ q ∧ q ≤ 40) := by
  by_cases a1 : v1 < (-1000)
  · exact Or.inl ⟨fun _ _ hp => br_t a1 hp, fun _ _ hp => br_t a1 hp⟩
  · by_cases a2 : 1000 < v1
    · exact Or.inl ⟨fun _ _ hp => br_f a1 (br_t a2 hp), fun _ _ hp => br_f a1 (br_t a2 hp)⟩
    · by_cases a3 : v2 < 1
      · exact Or.inl ⟨fun _ _ hp => br_f a1 (br_f a2 (br_t a3 hp)), fun _ _ hp => br_f a1 (br_f a2 (br_t a3 hp))⟩
      · by_cases a4 : 40 < v2
        · exact Or.inl ⟨fun _ _ hp => br_f a1 (br_f a2 (br_f a3 (br_t a4 hp))), fun _ _ hp => br_f a1 (br_f a2 (br_f a3 (br_t a4 hp)))⟩
        · refine Or.inr ⟨fun _ _ hp => br_f a1 (br_f a2 (br_f a3 (br_f a4 hp))), fun _ _ hp => br_f a1 (br_f a2 (br_f a3 (br_f a4 hp))), v1.toInt, v2.toInt, ld_iof v1, ld_iof v2, ?_⟩
          have e1 : (-1000 : Int32).toInt = -1000 := by decide
          have e2 : (1000 : Int32).toInt = 1000 := by decide
          have e3 : (1 : Int32).toInt = 1 := by decide
          have e4 : (40 : Int32).toInt = 40 := by decide
          rw [Int32.lt_iff_toInt_lt] at a1 a2 a3 a4
          omega
theorem ld_point {n : Nat} (hn : n ≤ 8) (v1 : Int32) : ((∀ (post : Int32 → Prop) (L : Int32) (a b : Nat → Int32), post 0 → wpX_isPoint post (nI n, L, a, b) v1) ∧ (∀ (post : Int32 → Prop) (L : Int32) (T B : Int64) (f : Int32) (a b : Nat → Int32), post 0 → wpY_isPoint post (nI n, L, T, B, f, a, b) v1)) ∨ (∃ j : Nat, j < n ∧ v1 = nI j ∧ (∀ (post : Int32 → Prop) (L : Int32) (a b : Nat → Int32), post 1 → wpX_isPoint post (nI n, L, a, b) v1) ∧ (∀ (post : Int32 → Prop) (L : Int32) (T B : Int64) (f : Int32) (a b : Nat → Int32), post 1 → wpY_isPoint post (nI n, L, T, B, f, a, b) v1)) := by
  by_cases a1 : v1 < 0
  · exact Or.inl ⟨fun _ _ _ _ hp => br_t a1 hp, fun _ _ _ _ _ _ _ hp => br_t a1 hp⟩
  · by_cases a2 : nI n ≤ v1
    · exact Or.inl ⟨fun _ _ _ _ hp => br_f a1 (br_t a2 hp), fun _ _ _ _ _ _ _ hp => br_f a1 (br_t a2 hp)⟩
    · rcases pk_ix v1 (n := n) (by omega) with c | c | ⟨j, hj, e⟩
      · exact absurd c a1
      · exact absurd c a2
      · exact Or.inr ⟨j, hj, e, fun _ _ _ _ hp => br_f a1 (br_f a2 hp), fun _ _ _ _ _ _ _ hp => br_f a1 (br_f a2 hp)⟩
/-! stores -/
def ld_up (X : Nat → Int) (n : Nat) (z : Int) : Nat → Int := fun j => if j = n then z else X j
theorem ld_upd {X : Nat → Int} {n : Nat} (hn : n < 8) {x : Int32} {z : Int} (hx : x = ld_i z) : upd (fun j => ld_i (X j)) (nI n).toNatClampNeg x = fun j => ld_i (ld_up X n z j) := by
  rw [ld_cl hn, hx]
  funext j
  show (if j = n then ld_i z else ld_i (X j)) = ld_i (if j = n then z else X j)
  split <;> rfl
def ld_bd (X : Nat → Int) : Prop := ∀ j, -20 ≤ X j ∧ X j ≤ 20
theorem ld_upb {X : Nat → Int} (hX : ld_bd X) {n : Nat} {z : Int} (h1 : -20 ≤ z) (h2 : z ≤ 20) : ld_bd (ld_up X n z) := by
  intro j
  show -20 ≤ (if j = n then z else X j) ∧ (if j = n then z else X j) ≤ 20
  split
  · exact ⟨h1, h2⟩
  · exact hX j
theorem ld_drop {m : Nat} (hm : m < 8) (L : Int32) (T B : Int64) (f : Int32) : ∀ d t : Nat, ∀ X Y : Nat → Int, ld_bd X → ld_bd Y → t + d = m → ∃ X' Y' : Nat → Int, ld_bd X' ∧ ld_bd Y' ∧ (∀ post : Int32 → SX → Prop, post (nI m) (nI m, L, fun j => ld_i (X' j), fun j => ld_i (Y' j)) → wX_drop_12 post (nI (m + 1)) L (d + 1) (nI t) (fun j => ld_i (X j)) (fun j => ld_i (Y j))) ∧ (∀ post : Int32 → SY → Prop, post (nI m) (nI m, L, T, B, f, fun j => ld_i (X' j), fun j => ld_i (Y' j)) → wY_drop_12 post (nI (m + 1)) L T B f (d + 1) (nI t) (fun j => ld_i (X j)) (fun j => ld_i (Y j))) := by
  intro d
  induction d with
  | zero =>
    intro t X Y hX hY ht
    have ht' : t = m := by omega
    subst ht'
    have c1 : nI (t + 1) ≤ nI t + 1 := by rw [nI_1]; exact nI_le (Nat.le_refl _) (by omega)
    have c2 : nI (t + 1) - 1 ≤ nI t := by rw [nI_pred]; exact nI_le (Nat.le_refl _) (by omega)
    exact ⟨X, Y, hX, hY, fun post hp => br_t c1 (nm_r (nI_pred t) hp), fun post hp => br_t c2 (nm_r (nI_pred t) hp)⟩
  | succ d ih =>
    intro t X Y hX hY ht
    have c1 : ¬ nI (m + 1) ≤ nI t + 1 := by rw [nI_1]; exact nI_ge (by omega) (by omega)
    have c2 : ¬ nI (m + 1) - 1 ≤ nI t := by rw [nI_pred]; exact nI_ge (by omega) (by omega)
    have i1 : vp_in (nI t + 1) 8 := by rw [nI_1]; exact ld_in (by omega)
    have i2 : vp_in (nI t) 8 := ld_in (by omega)
    have ex : upd (fun j => ld_i (X j)) (nI t).toNatClampNeg ((fun j => ld_i (X j)) (nI t + 1).toNatClampNeg) = fun j => ld_i (ld_up X t (X (t + 1)) j) := ld_upd (by omega) (by rw [nI_1, ld_cl (by omega)])
    have ey : upd (fun j => ld_i (Y j)) (nI t).toNatClampNeg ((fun j => ld_i (Y j)) (nI t + 1).toNatClampNeg) = fun j => ld_i (ld_up Y t (Y (t + 1)) j) := ld_upd (by omega) (by rw [nI_1, ld_cl (by omega)])
    obtain ⟨X', Y', hX', hY', hx, hy⟩ := ih (t + 1) (ld_up X t (X (t + 1))) (ld_up Y t (Y (t + 1))) (ld_upb hX (hX _).1 (hX _).2) (ld_upb hY (hY _).1 (hY _).2) (by omega)
    exact ⟨X', Y', hX', hY', fun post hp => br_f c1 ⟨i1, i2, nm_r ex ⟨i1, i2, nm_r ey (nm_r (nI_1 t) (hx post hp))⟩⟩, fun post hp => br_f c2 ⟨i1, i2, nm_r ex ⟨i1, i2, nm_r ey (nm_r (nI_1 t) (hy post hp))⟩⟩⟩
/-! what the questions share -/
theorem ld_cX {W q : Int} {a b : Nat} (hW : 0 ≤ W ∧ W ≤ 998400) (hq : 1 ≤ q ∧ q ≤ 40) (ha : a ≤ 998400) (hb : b ≤ 40) : ld_i W * nI b = nI a * ld_i q ↔ W * b = a * q := by
  rw [← ld_iN, ← ld_iN, ld_imul, ld_imul]
  have k1 := ld_p40 hW.1 hW.2 (b := (b : Int)) (by omega) (by omega)
  have k2 := ld_p40 (a := (a : Int)) (by omega) (by omega) (b := q) (by omega) hq.2
  exact ld_ieq k1.1 k1.2 k2.1 k2.2
theorem ld_cY {W q : Int} {a b : Nat} (hW : 0 ≤ W ∧ W ≤ 998400) (hq : 1 ≤ q ∧ q ≤ 40) (ha : a ≤ 998400) (hb : b ≤ 40) : ld_l W * lN b = lN a * (ld_i q).toInt64 ↔ W * b = a * q := by
  rw [ld_il (by omega) (by omega), ← ld_lN, ← ld_lN, ld_lmul, ld_lmul]
  have k1 := ld_p40 hW.1 hW.2 (b := (b : Int)) (by omega) (by omega)
  have k2 := ld_p40 (a := (a : Int)) (by omega) (by omega) (b := q) (by omega) hq.2
  exact ld_leq k1.1 k1.2 k2.1 k2.2
/-- the two comparisons with the least cost: by lowest terms, and by the fraction found -/
theorem ld_cXY {n : Nat} {L : Int} {X Y : Nat → Int} (h : ld_ok n L X Y) {W q : Int} (hW : 0 ≤ W ∧ W ≤ 998400) (hq : 1 ≤ q ∧ q ≤ 40) {T B T2 B2 T3 B3 : Nat} (h1 : ld_best n L X Y T B) (h2 : ld_best n L X Y T2 B2) (h3 : ld_best n L X Y T3 B3) : ld_i W * nI (B2 / Nat.gcd T2 B2) = nI (T / Nat.gcd T B) * ld_i q ↔ ld_l W * lN B3 = lN T3 * (ld_i q).toInt64 := by
  have b1 := ld_bestb h h1
  have b2 := ld_bestb h h2
  have b3 := ld_bestb h h3
  have l1 : T / Nat.gcd T B ≤ T := Nat.div_le_self _ _
  have l2 : B2 / Nat.gcd T2 B2 ≤ B2 := Nat.div_le_self _ _
  rw [ld_cX hW hq (by omega) (by omega), ld_cY hW hq b3.1 b3.2.2, (ld_bestred h h1 h3).1, (ld_bestred h h2 h3).2]
  exact ld_cmp b3.2.1 W q
theorem ld_yth {n : Nat} {L : Int} {X Y : Nat → Int} (h : ld_ok n L X Y) {i : Nat} (hi : i < n) {post : SY → Prop} (hpost : ∀ T' B' : Nat, ∀ f' : Int32, T' ≤ 998400 → 1 ≤ B' → B' ≤ 40 → ld_lst (ld_Ci n L X Y i) T' B' → post (nI n, ld_i L, lN T', lN B', f', fun j => ld_i (X j), fun j => ld_i (Y j))) : wpY_lookThrough post (nI n, ld_i L, 0, 1, 0, fun j => ld_i (X j), fun j => ld_i (Y j)) (nI i) := by
  refine ld_yt h (C := fun _ _ => False) (fun t b hc => hc.elim) hi (Or.inl ⟨rfl, ld_l0, ld_l1, fun t b hc => hc⟩) fun T' B' f' hJ => ?_
  have eC : ld_Cp (fun _ _ => False) n L X Y i = ld_Ci n L X Y i := by
    funext r s
    apply propext
    constructor
    · intro hc
      rcases hc with hc | hc
      · exact hc.elim
      · exact hc
    · exact Or.inr
  rw [eC] at hJ
  rcases hJ with ⟨_, _, _, hno⟩ | ⟨_, t, b, eT, eB, hl⟩
  · exact absurd ⟨i, hi, rfl, rfl⟩ (hno (ld_tp n L X Y i i) (ld_bt X i i))
  · obtain ⟨t', b', e1, e2, k1, k2, k3⟩ := ld_lstN (ld_CiB h i) hl
    subst e1 e2 eT eB
    rw [ld_lN, ld_lN]
    exact hpost t' b' f' k1 k2 k3 hl
end
section
/-- equal counts, leans and points, all within the document's bounds; what the reference found last is free -/
def i_Rel (_ : Nat) (u : SX) (v : SY) : Prop := ∃ (n : Nat) (L : Int) (X Y : Nat → Int) (T B : Int64) (f : Int32), ld_ok n L X Y ∧ u = (nI n, ld_i L, fun j => ld_i (X j), fun j => ld_i (Y j)) ∧ v = (nI n, ld_i L, T, B, f, fun j => ld_i (X j), fun j => ld_i (Y j))
theorem i_up {k : Nat} {u : SX} {v : SY} (h : i_Rel k u v) : i_Rel (k + 3) u v := h
theorem i_vc0 : wpX_init (fun u => wpY_init (fun v => i_Rel 0 u v)) := by
  have e0 : (0 : Int32) = ld_i 0 := ld_i0
  have e2 : (2 : Int32) = ld_i 2 := by decide
  refine ⟨0, 2, fun _ => 0, fun _ => 0, 0, 0, 0, ⟨by omega, by omega, by omega, fun _ => by dsimp only; omega, fun _ => by dsimp only; omega⟩, ?_, ?_⟩
  · dsimp only; rw [nI_0, ← e0, ← e2]
  · dsimp only; rw [nI_0, ← e0, ← e2]
theorem i_vc_add {k : Nat} {u : SX} {v : SY} (I : i_Rel k u v) (hk : k + 3 ≤ 1536) (v1 : Int32) (v2 : Int32) : wpX_add (fun r u' => wpY_add (fun r' v' => r' = r ∧ i_Rel (k + 3) u' v') v v1 v2) u v1 v2 := by
  obtain ⟨n, L, X, Y, T, B, f, h, rfl, rfl⟩ := I
  have hn := h.1
  have R : i_Rel (k + 3) (nI n, ld_i L, fun j => ld_i (X j), fun j => ld_i (Y j)) (nI n, ld_i L, T, B, f, fun j => ld_i (X j), fun j => ld_i (Y j)) := ⟨n, L, X, Y, T, B, f, h, rfl, rfl⟩
  by_cases h8 : n = 8
  · have c1 : ¬ nI n < 8 := nI_nlt (b := 8) (by omega) (by omega)
    have c2 : nI n = 8 := (nI_eq (b := 8) (by omega) (by omega)).mpr h8
    exact br_f c1 (br_t c2 ⟨rfl, R⟩)
  · have n8 : n < 8 := by omega
    have c1 : nI n < 8 := nI_lt (b := 8) n8 (by omega)
    have c2 : ¬ nI n = 8 := fun e => h8 ((nI_eq (b := 8) (by omega) (by omega)).mp e)
    have d1 : ¬ (1 : Int32) = 0 := by decide
    refine br_t c1 ?_
    by_cases a1 : v1 < (-20)
    · exact br_t a1 (br_t rfl (br_f c2 (br_t a1 ⟨rfl, R⟩)))
    · by_cases a2 : 20 < v1
      · exact br_f a1 (br_t a2 (br_t rfl (br_f c2 (br_f a1 (br_t a2 ⟨rfl, R⟩)))))
      · refine br_f a1 (br_f a2 (br_f d1 ?_))
        by_cases a3 : v2 < (-20)
        · exact br_t a3 (br_t rfl (br_f c2 (br_f a1 (br_f a2 (br_t a3 ⟨rfl, R⟩)))))
        · by_cases a4 : v2 ≤ 20
          · have a4' : ¬ 20 < v2 := Int32.not_lt.mpr a4
            have e1 : (-20 : Int32).toInt = -20 := by decide
            have e2 : (20 : Int32).toInt = 20 := by decide
            have b1 := a1
            have b2 := a2
            have b3 := a3
            have b4 := a4'
            rw [Int32.lt_iff_toInt_lt] at b1 b2 b3 b4
            have ok : ld_ok (n + 1) L (ld_up X n v1.toInt) (ld_up Y n v2.toInt) := ⟨by omega, h.2.1, h.2.2.1, ld_upb h.2.2.2.1 (by omega) (by omega), ld_upb h.2.2.2.2 (by omega) (by omega)⟩
            exact br_f a3 (br_f a4' (br_f d1 ⟨ld_in n8, nm_r (ld_upd n8 (ld_iof v1)) ⟨ld_in n8, nm_r (ld_upd n8 (ld_iof v2)) (nm_r (nI_1 n) (br_f c2 (br_f a1 (br_f a2 (br_f a3 (br_t a4 ⟨ld_in n8, nm_r (ld_upd n8 (ld_iof v1)) ⟨ld_in n8, nm_r (ld_upd n8 (ld_iof v2)) (nm_r (nI_1 n) ⟨rfl, n + 1, L, _, _, T, B, f, ok, rfl, rfl⟩)⟩⟩))))))⟩⟩))
          · have a4' : 20 < v2 := Int32.not_le.mp a4
            exact br_f a3 (br_t a4' (br_t rfl (br_f c2 (br_f a1 (br_f a2 (br_f a3 (br_f a4 ⟨rfl, R⟩)))))))
theorem i_vc_drop {k : Nat} {u : SX} {v : SY} (I : i_Rel k u v) (hk : k + 3 ≤ 1536) (v1 : Int32) : wpX_drop (fun r u' => wpY_drop (fun r' v' => r' = r ∧ i_Rel (k + 3) u' v') v v1) u v1 := by
  obtain ⟨n, L, X, Y, T, B, f, h, rfl, rfl⟩ := I
  have hn := h.1
  have d1 : ¬ (1 : Int32) = 0 := by decide
  unfold wpX_drop wpY_drop
  rcases ld_point hn v1 with ⟨px, py⟩ | ⟨j, hj, e, px, py⟩
  · exact px _ _ _ _ (br_t rfl (py _ _ _ _ _ _ _ (br_t rfl ⟨rfl, n, L, X, Y, T, B, f, h, rfl, rfl⟩)))
  · obtain ⟨m, rfl⟩ : ∃ m, n = m + 1 := ⟨n - 1, by omega⟩
    subst e
    obtain ⟨X', Y', hX', hY', hx, hy⟩ := ld_drop (m := m) (by omega) (ld_i L) T B f (m - j) j X Y h.2.2.2.1 h.2.2.2.2 (by omega)
    exact px _ _ _ _ (br_f d1 ⟨_, hx _ (py _ _ _ _ _ _ _ (br_f d1 ⟨_, hy _ ⟨rfl, m, L, X', Y', T, B, f, ⟨by omega, h.2.1, h.2.2.1, hX', hY'⟩, rfl, rfl⟩⟩))⟩)
theorem i_vc_lean {k : Nat} {u : SX} {v : SY} (I : i_Rel k u v) (hk : k + 3 ≤ 1536) (v1 : Int32) : wpX_lean (fun r u' => wpY_lean (fun r' v' => r' = r ∧ i_Rel (k + 3) u' v') v v1) u v1 := by
  obtain ⟨n, L, X, Y, T, B, f, h, rfl, rfl⟩ := I
  have R : i_Rel (k + 3) (nI n, ld_i L, fun j => ld_i (X j), fun j => ld_i (Y j)) (nI n, ld_i L, T, B, f, fun j => ld_i (X j), fun j => ld_i (Y j)) := ⟨n, L, X, Y, T, B, f, h, rfl, rfl⟩
  by_cases a1 : v1 < 1
  · exact br_t a1 (br_t a1 ⟨rfl, R⟩)
  · by_cases a2 : v1 ≤ 3
    · have e1 : (1 : Int32).toInt = 1 := by decide
      have e2 : (3 : Int32).toInt = 3 := by decide
      have b1 := a1
      have b2 := a2
      rw [Int32.lt_iff_toInt_lt] at b1
      rw [Int32.le_iff_toInt_le] at b2
      refine br_f a1 (br_t a2 (br_f a1 (br_t a2 ⟨rfl, n, v1.toInt, X, Y, T, B, f, ⟨h.1, by omega, by omega, h.2.2.2.1, h.2.2.2.2⟩, ?_, ?_⟩)))
      · rw [← ld_iof v1]
      · rw [← ld_iof v1]
    · exact br_f a1 (br_f a2 (br_f a1 (br_f a2 ⟨rfl, R⟩)))
theorem i_vc_leastTop {k : Nat} {u : SX} {v : SY} (I : i_Rel k u v) (hk : k + 3 ≤ 1536) : wpX_leastTop (fun r => wpY_leastTop (fun r' v' => r' = r ∧ i_Rel (k + 3) u v') v) u := by
  obtain ⟨n, L, X, Y, T, B, f, h, rfl, rfl⟩ := I
  refine ld_xlt h fun T1 B1 h1 => ?_
  unfold wpY_leastTop
  refine ld_yl h fun T2 B2 f2 h2 => ?_
  have b2 := ld_bestb h h2
  exact ld_yu b2.1 b2.2.1 b2.2.2 ⟨by rw [(ld_bestred h h1 h2).1], n, L, X, Y, _, _, f2, h, rfl, rfl⟩
theorem i_vc_leastBottom {k : Nat} {u : SX} {v : SY} (I : i_Rel k u v) (hk : k + 3 ≤ 1536) : wpX_leastBottom (fun r => wpY_leastBottom (fun r' v' => r' = r ∧ i_Rel (k + 3) u v') v) u := by
  obtain ⟨n, L, X, Y, T, B, f, h, rfl, rfl⟩ := I
  refine ld_xlb h fun T1 B1 h1 => ?_
  unfold wpY_leastBottom
  refine ld_yl h fun T2 B2 f2 h2 => ?_
  have b2 := ld_bestb h h2
  exact ld_yd b2.1 b2.2.1 b2.2.2 ⟨by rw [(ld_bestred h h1 h2).2], n, L, X, Y, _, _, f2, h, rfl, rfl⟩
theorem i_vc_withSlope {k : Nat} {u : SX} {v : SY} (I : i_Rel k u v) (hk : k + 3 ≤ 1536) (v1 : Int32) (v2 : Int32) : wpX_withSlope (fun r => wpY_withSlope (fun r' => r' = r ∧ i_Rel (k + 3) u v) v v1 v2) u v1 v2 := by
  obtain ⟨n, L, X, Y, T, B, f, h, rfl, rfl⟩ := I
  have R : i_Rel (k + 3) (nI n, ld_i L, fun j => ld_i (X j), fun j => ld_i (Y j)) (nI n, ld_i L, T, B, f, fun j => ld_i (X j), fun j => ld_i (Y j)) := ⟨n, L, X, Y, T, B, f, h, rfl, rfl⟩
  have d1 : ¬ (1 : Int32) = 0 := by decide
  unfold wpX_withSlope wpY_withSlope
  rcases ld_slope v1 v2 with ⟨px, py⟩ | ⟨px, py, p, q, rfl, rfl, hp, hp', hq, hq'⟩
  · exact px _ _ (br_t rfl (py _ _ (br_t rfl ⟨rfl, R⟩)))
  · refine px _ _ (br_f d1 (ld_xw h hp hp' (by omega) hq' fun W hW => py _ _ (br_f d1 (ld_yw h hp hp' (by omega) hq' fun W' hW' => ⟨?_, R⟩))))
    rw [ld_li, ld_wsu hW hW']
theorem i_vc_bestSlope {k : Nat} {u : SX} {v : SY} (I : i_Rel k u v) (hk : k + 3 ≤ 1536) (v1 : Int32) (v2 : Int32) : wpX_bestSlope (fun r => wpY_bestSlope (fun r' v' => r' = r ∧ i_Rel (k + 3) u v') v v1 v2) u v1 v2 := by
  obtain ⟨n, L, X, Y, T, B, f, h, rfl, rfl⟩ := I
  have d1 : ¬ (1 : Int32) = 0 := by decide
  unfold wpX_bestSlope wpY_bestSlope
  rcases ld_slope v1 v2 with ⟨px, py⟩ | ⟨px, py, p, q, rfl, rfl, hp, hp', hq, hq'⟩
  · exact px _ _ (br_t rfl (py _ _ (br_t rfl ⟨rfl, n, L, X, Y, T, B, f, h, rfl, rfl⟩)))
  · refine px _ _ (br_f d1 (ld_xw h hp hp' (by omega) hq' fun W hW => ld_xlt h fun T1 B1 h1 => ld_xlb h fun T2 B2 h2 => ?_))
    have bW := ld_wsb h hp hp' (by omega) hq' hW
    refine br_c (fun hc => py _ _ (br_f d1 (ld_yl h fun T3 B3 f3 h3 => ld_yw h hp hp' (by omega) hq' fun W' hW' => ?_))) (fun hc => py _ _ (br_f d1 (ld_yl h fun T3 B3 f3 h3 => ld_yw h hp hp' (by omega) hq' fun W' hW' => ?_)))
    · have iff := ld_cXY h bW ⟨hq, hq'⟩ h1 h2 h3
      rw [ld_wsu hW' hW]
      exact br_t (iff.mp hc) ⟨rfl, n, L, X, Y, _, _, f3, h, rfl, rfl⟩
    · have iff := ld_cXY h bW ⟨hq, hq'⟩ h1 h2 h3
      rw [ld_wsu hW' hW]
      exact br_f (fun hh => hc (iff.mpr hh)) ⟨rfl, n, L, X, Y, _, _, f3, h, rfl, rfl⟩
theorem i_vc_bestPair {k : Nat} {u : SX} {v : SY} (I : i_Rel k u v) (hk : k + 3 ≤ 1536) (v1 : Int32) (v2 : Int32) : wpX_bestPair (fun r => wpY_bestPair (fun r' v' => r' = r ∧ i_Rel (k + 3) u v') v v1 v2) u v1 v2 := by
  obtain ⟨n, L, X, Y, T, B, f, h, rfl, rfl⟩ := I
  have hn := h.1
  have R : i_Rel (k + 3) (nI n, ld_i L, fun j => ld_i (X j), fun j => ld_i (Y j)) (nI n, ld_i L, T, B, f, fun j => ld_i (X j), fun j => ld_i (Y j)) := ⟨n, L, X, Y, T, B, f, h, rfl, rfl⟩
  have d1 : ¬ (1 : Int32) = 0 := by decide
  unfold wpX_bestPair wpY_bestPair
  rcases ld_point hn v1 with ⟨px, py⟩ | ⟨i, hi, e1, px, py⟩
  · exact px _ _ _ _ (br_t rfl (py _ _ _ _ _ _ _ (br_t rfl ⟨rfl, R⟩)))
  · rcases ld_point hn v2 with ⟨qx, qy⟩ | ⟨j, hj, e2, qx, qy⟩
    · exact px _ _ _ _ (br_f d1 (qx _ _ _ _ (br_t rfl (py _ _ _ _ _ _ _ (br_f d1 (qy _ _ _ _ _ _ _ (br_t rfl ⟨rfl, R⟩)))))))
    · subst e1 e2
      have i8 : i < 8 := by omega
      have j8 : j < 8 := by omega
      have ex : ((fun j => ld_i (X j)) (nI i).toNatClampNeg = (fun j => ld_i (X j)) (nI j).toNatClampNeg) ↔ X i = X j := by
        rw [ld_cl i8, ld_cl j8]
        exact ld_yeq h j i
      refine px _ _ _ _ (br_f d1 (qx _ _ _ _ (br_f d1 ⟨ld_in i8, ld_in j8, ?_⟩)))
      by_cases hx : X i = X j
      · exact br_t (ex.mpr hx) (py _ _ _ _ _ _ _ (br_f d1 (qy _ _ _ _ _ _ _ (br_f d1 ⟨ld_in i8, ld_in j8, br_t (ex.mpr hx) ⟨rfl, R⟩⟩))))
      · have hx' : X j ≠ X i := fun e => hx e.symm
        have nx := fun hh => hx (ex.mp hh)
        refine br_f nx (ld_xt h i8 j8 (ld_xb h i8 j8 (ld_xlt h fun T1 B1 h1 => ld_xlb h fun T2 B2 h2 => ?_)))
        have bW := ld_tpb h i j
        have bq := ld_btb h i j
        refine br_c (fun hc => py _ _ _ _ _ _ _ (br_f d1 (qy _ _ _ _ _ _ _ (br_f d1 ⟨ld_in i8, ld_in j8, br_f nx (ld_yl h fun T3 B3 f3 h3 => ld_yline h i8 j8 hx' ?_)⟩)))) (fun hc => py _ _ _ _ _ _ _ (br_f d1 (qy _ _ _ _ _ _ _ (br_f d1 ⟨ld_in i8, ld_in j8, br_f nx (ld_yl h fun T3 B3 f3 h3 => ld_yline h i8 j8 hx' ?_)⟩))))
        · have iff := ld_cXY h bW bq h1 h2 h3
          exact br_t (iff.mp hc) ⟨rfl, n, L, X, Y, _, _, f3, h, rfl, rfl⟩
        · have iff := ld_cXY h bW bq h1 h2 h3
          exact br_f (fun hh => hc (iff.mpr hh)) ⟨rfl, n, L, X, Y, _, _, f3, h, rfl, rfl⟩
theorem i_vc_throughTop {k : Nat} {u : SX} {v : SY} (I : i_Rel k u v) (hk : k + 3 ≤ 1536) (v1 : Int32) : wpX_throughTop (fun r => wpY_throughTop (fun r' v' => r' = r ∧ i_Rel (k + 3) u v') v v1) u v1 := by
  obtain ⟨n, L, X, Y, T, B, f, h, rfl, rfl⟩ := I
  have hn := h.1
  have d1 : ¬ (1 : Int32) = 0 := by decide
  unfold wpX_throughTop wpY_throughTop
  rcases ld_point hn v1 with ⟨px, py⟩ | ⟨i, hi, e1, px, py⟩
  · exact px _ _ _ _ (br_t rfl (py _ _ _ _ _ _ _ (br_t rfl ⟨rfl, n, L, X, Y, T, B, f, h, rfl, rfl⟩)))
  · subst e1
    refine px _ _ _ _ (br_f d1 (ld_xp h hi fun b hb hm => ?_))
    obtain ⟨T1, B1, e1, e2, l1⟩ := ld_lstI h hb hm
    refine ld_xrt h (by omega) (by omega) e1 e2 (py _ _ _ _ _ _ _ (br_f d1 ?_))
    unfold wpY_begin
    refine ld_yth h hi fun T2 B2 f2 k1 k2 k3 l2 => ?_
    exact ld_yu k1 k2 k3 ⟨by rw [(ld_lstred (ld_CiB h i) l1 l2).1], n, L, X, Y, _, _, f2, h, rfl, rfl⟩
theorem i_vc_throughBottom {k : Nat} {u : SX} {v : SY} (I : i_Rel k u v) (hk : k + 3 ≤ 1536) (v1 : Int32) : wpX_throughBottom (fun r => wpY_throughBottom (fun r' v' => r' = r ∧ i_Rel (k + 3) u v') v v1) u v1 := by
  obtain ⟨n, L, X, Y, T, B, f, h, rfl, rfl⟩ := I
  have hn := h.1
  have d1 : ¬ (1 : Int32) = 0 := by decide
  unfold wpX_throughBottom wpY_throughBottom
  rcases ld_point hn v1 with ⟨px, py⟩ | ⟨i, hi, e1, px, py⟩
  · exact px _ _ _ _ (br_t rfl (py _ _ _ _ _ _ _ (br_t rfl ⟨rfl, n, L, X, Y, T, B, f, h, rfl, rfl⟩)))
  · subst e1
    refine px _ _ _ _ (br_f d1 (ld_xp h hi fun b hb hm => ?_))
    obtain ⟨T1, B1, e1, e2, l1⟩ := ld_lstI h hb hm
    refine ld_xrb h (by omega) (by omega) e1 e2 (py _ _ _ _ _ _ _ (br_f d1 ?_))
    unfold wpY_begin
    refine ld_yth h hi fun T2 B2 f2 k1 k2 k3 l2 => ?_
    exact ld_yd k1 k2 k3 ⟨by rw [(ld_lstred (ld_CiB h i) l1 l2).2], n, L, X, Y, _, _, f2, h, rfl, rfl⟩
theorem i_vc_points {k : Nat} {u : SX} {v : SY} (I : i_Rel k u v) (hk : k + 3 ≤ 1536) : wpX_points (fun r => wpY_points (fun r' => r' = r ∧ i_Rel (k + 3) u v) v) u := by
  obtain ⟨n, L, X, Y, T, B, f, h, rfl, rfl⟩ := I
  exact ⟨rfl, n, L, X, Y, T, B, f, h, rfl, rfl⟩
end
