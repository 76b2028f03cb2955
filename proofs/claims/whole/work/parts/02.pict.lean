/-! the pictures of the methods -/
def ld_ok (n : Nat) (L : Int) (X Y : Nat → Int) : Prop := n ≤ 8 ∧ 1 ≤ L ∧ L ≤ 3 ∧ (∀ j, -20 ≤ X j ∧ X j ≤ 20) ∧ (∀ j, -20 ≤ Y j ∧ Y j ≤ 20)
def ld_s (L : Int) (X Y : Nat → Int) (i : Nat) (p q : Int) (n : Nat) : Int := ld_g L (fun t => X t - X i) (fun t => Y t - Y i) p q n
theorem ld_ss (L : Int) (X Y : Nat → Int) (i : Nat) (p q : Int) (t : Nat) : ld_s L X Y i p q (t + 1) = ld_s L X Y i p q t + ld_c L (q * (Y t - Y i) - p * (X t - X i)) := rfl
theorem ld_db {n : Nat} {L : Int} {X Y : Nat → Int} (h : ld_ok n L X Y) {p q : Int} (i t : Nat) (hp : -1000 ≤ p) (hp' : p ≤ 1000) (hq : -40 ≤ q) (hq' : q ≤ 40) : -41600 ≤ q * (Y t - Y i) - p * (X t - X i) ∧ q * (Y t - Y i) - p * (X t - X i) ≤ 41600 := by
  obtain ⟨-, -, -, hX, hY⟩ := h
  have := hX i
  have := hX t
  have := hY i
  have := hY t
  have a := ld_mb (a := q) (b := Y t - Y i) 40 40 hq hq' (by omega) (by omega)
  have b := ld_mb (a := p) (b := X t - X i) 1000 40 hp hp' (by omega) (by omega)
  omega
theorem ld_s0 {n : Nat} {L : Int} {X Y : Nat → Int} (h : ld_ok n L X Y) (i : Nat) (p q : Int) (m : Nat) : 0 ≤ ld_s L X Y i p q m := ld_g0 _ _ _ _ h.2.1 h.2.2.1 m
theorem ld_sb {n : Nat} {L : Int} {X Y : Nat → Int} (h : ld_ok n L X Y) (i : Nat) {p q : Int} {m : Nat} (hm : m ≤ 8) (hp : -1000 ≤ p) (hp' : p ≤ 1000) (hq : -40 ≤ q) (hq' : q ≤ 40) : ld_s L X Y i p q m ≤ 998400 := by
  have a : ld_s L X Y i p q m ≤ 3 * 41600 * m := ld_gb _ _ p q 41600 h.2.1 h.2.2.1 (fun t => ld_db h i t hp hp' hq hq') m
  omega
def ld_tp (n : Nat) (L : Int) (X Y : Nat → Int) (i j : Nat) : Int := if X j - X i = 0 then ld_s L X Y i 0 1 n else if 0 ≤ X j - X i then ld_s L X Y i (Y j - Y i) (X j - X i) n else ld_s L X Y i (-(Y j - Y i)) (-(X j - X i)) n
def ld_bt (X : Nat → Int) (i j : Nat) : Int := if X j - X i = 0 then 1 else if 0 ≤ X j - X i then X j - X i else -(X j - X i)
theorem ld_btb {n : Nat} {L : Int} {X Y : Nat → Int} (h : ld_ok n L X Y) (i j : Nat) : 1 ≤ ld_bt X i j ∧ ld_bt X i j ≤ 40 := by
  obtain ⟨-, -, -, hX, -⟩ := h
  have := hX i
  have := hX j
  unfold ld_bt
  split
  · omega
  · split <;> omega
theorem ld_tpb {n : Nat} {L : Int} {X Y : Nat → Int} (h : ld_ok n L X Y) (i j : Nat) : 0 ≤ ld_tp n L X Y i j ∧ ld_tp n L X Y i j ≤ 998400 := by
  have hX := h.2.2.2.1
  have hY := h.2.2.2.2
  have := hX i
  have := hX j
  have := hY i
  have := hY j
  unfold ld_tp
  split
  · exact ⟨ld_s0 h _ _ _ _, ld_sb h _ h.1 (by omega) (by omega) (by omega) (by omega)⟩
  · split
    · exact ⟨ld_s0 h _ _ _ _, ld_sb h _ h.1 (by omega) (by omega) (by omega) (by omega)⟩
    · exact ⟨ld_s0 h _ _ _ _, ld_sb h _ h.1 (by omega) (by omega) (by omega) (by omega)⟩
theorem ld_tp0 {n : Nat} {L : Int} {X Y : Nat → Int} {i j : Nat} (e : X j = X i) : ld_tp n L X Y i j = ld_s L X Y i 0 1 n := if_pos (by omega)
theorem ld_bt0 {X : Nat → Int} {i j : Nat} (e : X j = X i) : ld_bt X i j = 1 := if_pos (by omega)
theorem ld_tpp {n : Nat} {L : Int} {X Y : Nat → Int} {i j : Nat} (e : X i < X j) : ld_tp n L X Y i j = ld_s L X Y i (Y j - Y i) (X j - X i) n := by
  unfold ld_tp
  rw [if_neg (by omega), if_pos (by omega)]
theorem ld_btp {X : Nat → Int} {i j : Nat} (e : X i < X j) : ld_bt X i j = X j - X i := by
  unfold ld_bt
  rw [if_neg (by omega), if_pos (by omega)]
theorem ld_tpn {n : Nat} {L : Int} {X Y : Nat → Int} {i j : Nat} (e : X j < X i) : ld_tp n L X Y i j = ld_s L X Y i (Y i - Y j) (X i - X j) n := by
  unfold ld_tp
  rw [if_neg (by omega), if_neg (by omega), show -(Y j - Y i) = Y i - Y j by omega, show -(X j - X i) = X i - X j by omega]
theorem ld_btn {X : Nat → Int} {i j : Nat} (e : X j < X i) : ld_bt X i j = X i - X j := by
  unfold ld_bt
  rw [if_neg (by omega), if_neg (by omega)]
  omega
/-- the level line through i is never alone the least where some point has another x -/
theorem ld_lev {n : Nat} {L : Int} {X Y : Nat → Int} (h : ld_ok n L X Y) {i : Nat} (he : ∃ t, t < n ∧ X t ≠ X i) : ∃ j, j < n ∧ X j ≠ X i ∧ ld_tp n L X Y i j * 1 ≤ ld_s L X Y i 0 1 n * ld_bt X i j := by
  obtain ⟨t, ht, hne⟩ := he
  obtain ⟨j, hj, hh⟩ := ld_conv h.2.1 h.2.2.1 (fun t => X t - X i) (fun t => Y t - Y i) n ⟨t, ht, by omega⟩
  refine ⟨j, hj, ?_⟩
  rw [Int.mul_one]
  rcases hh with ⟨a, b⟩ | ⟨a, b⟩
  · have a' : X i < X j := by omega
    exact ⟨by omega, by rw [ld_tpp a', ld_btp a']; exact b⟩
  · have a' : X j < X i := by omega
    refine ⟨by omega, ?_⟩
    rw [ld_tpn a', ld_btn a', show Y i - Y j = -(Y j - Y i) by omega, show X i - X j = -(X j - X i) by omega]
    exact b
/-- (T, B) is a least fraction of the set C -/
def ld_lst (C : Int → Int → Prop) (t b : Int) : Prop := C t b ∧ ∀ t' b', C t' b' → t * b' ≤ t' * b
def ld_Cb (C : Int → Int → Prop) : Prop := ∀ t b, C t b → 0 ≤ t ∧ t ≤ 998400 ∧ 1 ≤ b ∧ b ≤ 40
def ld_Ci (n : Nat) (L : Int) (X Y : Nat → Int) (i : Nat) : Int → Int → Prop := fun t b => ∃ j, j < n ∧ t = ld_tp n L X Y i j ∧ b = ld_bt X i j
def ld_Ca (n : Nat) (L : Int) (X Y : Nat → Int) (m : Nat) : Int → Int → Prop := fun t b => ∃ i, i < m ∧ ld_Ci n L X Y i t b
def ld_best (n : Nat) (L : Int) (X Y : Nat → Int) (T B : Nat) : Prop := (n = 0 ∧ T = 0 ∧ B = 1) ∨ (0 < n ∧ ld_lst (ld_Ca n L X Y n) T B)
theorem ld_CiB {n : Nat} {L : Int} {X Y : Nat → Int} (h : ld_ok n L X Y) (i : Nat) : ld_Cb (ld_Ci n L X Y i) := by
  intro t b ⟨j, _, e1, e2⟩
  have := ld_tpb h i j
  have := ld_btb h i j
  subst e1 e2
  omega
theorem ld_CaB {n : Nat} {L : Int} {X Y : Nat → Int} (h : ld_ok n L X Y) (m : Nat) : ld_Cb (ld_Ca n L X Y m) := fun t b ⟨i, _, hi⟩ => ld_CiB h i t b hi
theorem ld_lsteq {C : Int → Int → Prop} {t b t' b' : Int} (h : ld_lst C t b) (h' : ld_lst C t' b') : t * b' = t' * b := by
  have := h.2 _ _ h'.1
  have := h'.2 _ _ h.1
  omega
theorem ld_lstN {C : Int → Int → Prop} (hC : ld_Cb C) {t b : Int} (h : ld_lst C t b) : ∃ T B : Nat, t = T ∧ b = B ∧ T ≤ 998400 ∧ 1 ≤ B ∧ B ≤ 40 := by
  have := hC _ _ h.1
  exact ⟨t.toNat, b.toNat, by omega, by omega, by omega, by omega, by omega⟩
theorem ld_lstred {C : Int → Int → Prop} (hC : ld_Cb C) {T B T' B' : Nat} (h : ld_lst C T B) (h' : ld_lst C T' B') : T / Nat.gcd T B = T' / Nat.gcd T' B' ∧ B / Nat.gcd T B = B' / Nat.gcd T' B' := by
  have a := hC _ _ h.1
  have b := hC _ _ h'.1
  have e := ld_lsteq h h'
  exact ld_red (by omega) (by omega) (by exact_mod_cast e)
theorem ld_bestb {n : Nat} {L : Int} {X Y : Nat → Int} (h : ld_ok n L X Y) {T B : Nat} (hb : ld_best n L X Y T B) : T ≤ 998400 ∧ 1 ≤ B ∧ B ≤ 40 := by
  rcases hb with ⟨_, e1, e2⟩ | ⟨_, hl⟩
  · omega
  · have a := ld_CaB h n _ _ hl.1
    omega
theorem ld_bestred {n : Nat} {L : Int} {X Y : Nat → Int} (h : ld_ok n L X Y) {T B T' B' : Nat} (hb : ld_best n L X Y T B) (hb' : ld_best n L X Y T' B') : T / Nat.gcd T B = T' / Nat.gcd T' B' ∧ B / Nat.gcd T B = B' / Nat.gcd T' B' := by
  rcases hb with ⟨e0, e1, e2⟩ | ⟨e0, hl⟩
  · rcases hb' with ⟨_, e3, e4⟩ | ⟨e5, _⟩
    · subst e1 e2 e3 e4
      exact ⟨rfl, rfl⟩
    · omega
  · rcases hb' with ⟨e5, _⟩ | ⟨_, hl'⟩
    · omega
    · exact ld_lstred (ld_CaB h n) hl hl'
/-- a comparison with a fraction is the same with its lowest terms -/
theorem ld_cmp {T B : Nat} (hB : 1 ≤ B) (W q : Int) : W * ((B / Nat.gcd T B : Nat) : Int) = ((T / Nat.gcd T B : Nat) : Int) * q ↔ W * B = T * q := by
  have g0 : 0 < Nat.gcd T B := Nat.gcd_pos_of_pos_right _ hB
  have e1 : T = T / Nat.gcd T B * Nat.gcd T B := (Nat.div_mul_cancel (Nat.gcd_dvd_left T B)).symm
  have e2 : B = B / Nat.gcd T B * Nat.gcd T B := (Nat.div_mul_cancel (Nat.gcd_dvd_right T B)).symm
  generalize Nat.gcd T B = g at *
  generalize T / g = a at *
  generalize B / g = b at *
  subst e1 e2
  have k1 : W * ((b * g : Nat) : Int) = (W * b) * (g : Int) := by rw [Int.natCast_mul]; grind
  have k2 : ((a * g : Nat) : Int) * q = (a * q) * (g : Int) := by rw [Int.natCast_mul]; grind
  rw [k1, k2]
  refine ⟨fun e => by rw [e], fun e => ?_⟩
  exact Int.eq_of_mul_eq_mul_right (by omega) e
/-- the least cost of a given slope -/
def ld_ws (n : Nat) (L : Int) (X Y : Nat → Int) (p q W : Int) : Prop := (n = 0 ∧ W = 0) ∨ ((∃ i, i < n ∧ W = ld_s L X Y i p q n) ∧ ∀ i, i < n → W ≤ ld_s L X Y i p q n)
theorem ld_wsu {n : Nat} {L : Int} {X Y : Nat → Int} {p q W W' : Int} (h : ld_ws n L X Y p q W) (h' : ld_ws n L X Y p q W') : W = W' := by
  rcases h with ⟨a, b⟩ | ⟨⟨i, hi, e⟩, m⟩
  · rcases h' with ⟨c, d⟩ | ⟨⟨i, hi, e⟩, m⟩
    · omega
    · omega
  · rcases h' with ⟨c, d⟩ | ⟨⟨i', hi', e'⟩, m'⟩
    · omega
    · have := m i' hi'
      have := m' i hi
      omega
theorem ld_wsb {n : Nat} {L : Int} {X Y : Nat → Int} (h : ld_ok n L X Y) {p q W : Int} (hp : -1000 ≤ p) (hp' : p ≤ 1000) (hq : -40 ≤ q) (hq' : q ≤ 40) (hw : ld_ws n L X Y p q W) : 0 ≤ W ∧ W ≤ 998400 := by
  rcases hw with ⟨a, b⟩ | ⟨⟨i, hi, e⟩, m⟩
  · omega
  · have := ld_s0 h i p q n
    have := ld_sb h i h.1 hp hp' hq hq'
    omega
theorem ld_p40 {a b : Int} (h1 : 0 ≤ a) (h2 : a ≤ 998400) (h3 : 0 ≤ b) (h4 : b ≤ 40) : -2147483648 ≤ a * b ∧ a * b ≤ 2147483647 := by
  have := ld_mb (a := a) (b := b) 998400 40 (by omega) h2 (by omega) h4
  omega
