/-! words as letter functions, their codes, swaps and moves -/
theorem kw_or (a b : Nat) : nI a ||| nI b = nI (a ||| b) := by
  apply Int32.toBitVec_inj.1
  show BitVec.ofNat 32 a ||| BitVec.ofNat 32 b = BitVec.ofNat 32 (a ||| b)
  apply BitVec.eq_of_getLsbD_eq
  intro i hi
  simp [hi]
theorem kw_or8 {c x : Nat} (hx : x < 8) : nI (c * 8) ||| nI x = nI (8 * c + x) := by
  rw [kw_or]
  have h := Nat.shiftLeft_add_eq_or_of_lt (i := 3) (b := x) (by omega) c
  rw [Nat.shiftLeft_eq] at h
  have e : c * 2 ^ 3 = c * 8 := by omega
  rw [e] at h
  rw [← h, Nat.mul_comm c 8]
def kw_cd (l : Nat → Nat) : Nat → Nat
  | 0 => 0
  | n + 1 => 8 * kw_cd l n + l n
def kw_dg (n c : Nat) : Nat → Nat := fun i => c / 8 ^ (n - 1 - i) % 8
def kw_sw (l : Nat → Nat) (i : Nat) : Nat → Nat := fun j => if j = i then l (i + 1) else if j = i + 1 then l i else l j
def kw_mm (l : Nat → Nat) (n i : Nat) : Prop :=
  (0 < i ∧ ((l i < l (i - 1) ∧ l (i - 1) ≤ l (i + 1)) ∨ (l (i + 1) < l (i - 1) ∧ l (i - 1) ≤ l i))) ∨
  (i + 2 < n ∧ ((l i ≤ l (i + 2) ∧ l (i + 2) < l (i + 1)) ∨ (l (i + 1) ≤ l (i + 2) ∧ l (i + 2) < l i)))
theorem kw_cd_congr {l l' : Nat → Nat} : ∀ {n : Nat}, (∀ i, i < n → l i = l' i) → kw_cd l n = kw_cd l' n
  | 0, _ => rfl
  | n + 1, h => by
    show 8 * kw_cd l n + l n = 8 * kw_cd l' n + l' n
    rw [kw_cd_congr (n := n) (fun i hi => h i (by omega)), h n (by omega)]
theorem kw_cd_lt {l : Nat → Nat} : ∀ {n : Nat}, (∀ i, i < n → l i < 8) → kw_cd l n < 8 ^ n
  | 0, _ => Nat.zero_lt_one
  | n + 1, h => by
    show 8 * kw_cd l n + l n < 8 ^ (n + 1)
    have h1 := kw_cd_lt (n := n) (fun i hi => h i (by omega))
    have h2 := h n (by omega)
    rw [Nat.pow_succ]
    omega
theorem kw_dig {l : Nat → Nat} : ∀ {n i : Nat}, (∀ j, j < n → l j < 8) → i < n → kw_cd l n / 8 ^ (n - 1 - i) % 8 = l i
  | 0, _, _, h => absurd h (by omega)
  | n + 1, i, hl, hi => by
    show (8 * kw_cd l n + l n) / 8 ^ (n + 1 - 1 - i) % 8 = l i
    have hn := hl n (by omega)
    by_cases h : i = n
    · subst h
      have e : i + 1 - 1 - i = 0 := by omega
      rw [e]
      show (8 * kw_cd l i + l i) / 1 % 8 = l i
      rw [Nat.div_one]
      omega
    · have e : n + 1 - 1 - i = (n - 1 - i) + 1 := by omega
      rw [e, Nat.pow_succ, Nat.mul_comm (8 ^ _) 8, ← Nat.div_div_eq_div_mul]
      have e2 : (8 * kw_cd l n + l n) / 8 = kw_cd l n := by omega
      rw [e2]
      exact kw_dig (n := n) (fun j hj => hl j (by omega)) (by omega)
theorem kw_dg_cd {l : Nat → Nat} {n i : Nat} (hl : ∀ j, j < n → l j < 8) (hi : i < n) : kw_dg n (kw_cd l n) i = l i := kw_dig hl hi
theorem kw_dg_lt (n c i : Nat) : kw_dg n c i < 8 := Nat.mod_lt _ (by decide)
theorem kw_dg_s {n c i : Nat} (hi : i < n) : kw_dg (n + 1) c i = kw_dg n (c / 8) i := by
  show c / 8 ^ (n + 1 - 1 - i) % 8 = c / 8 / 8 ^ (n - 1 - i) % 8
  have e : n + 1 - 1 - i = (n - 1 - i) + 1 := by omega
  rw [e, Nat.pow_succ, Nat.mul_comm (8 ^ _) 8, ← Nat.div_div_eq_div_mul]
theorem kw_cd_dg : ∀ {n c : Nat}, c < 8 ^ n → kw_cd (kw_dg n c) n = c
  | 0, c, h => by
    have : c = 0 := by simpa using h
    subst this; rfl
  | n + 1, c, h => by
    show 8 * kw_cd (kw_dg (n + 1) c) n + kw_dg (n + 1) c n = c
    rw [kw_cd_congr (l' := kw_dg n (c / 8)) (fun i hi => kw_dg_s hi), kw_cd_dg (n := n) (by rw [Nat.pow_succ] at h; omega)]
    have e : kw_dg (n + 1) c n = c % 8 := by
      show c / 8 ^ (n + 1 - 1 - n) % 8 = c % 8
      have e : n + 1 - 1 - n = 0 := by omega
      rw [e]
      show c / 1 % 8 = c % 8
      rw [Nat.div_one]
    rw [e]
    omega
theorem kw_split (l : Nat → Nat) (m : Nat) : ∀ k : Nat, kw_cd l (m + k) = kw_cd l m * 8 ^ k + kw_cd (fun j => l (m + j)) k
  | 0 => by show kw_cd l m = kw_cd l m * 1 + 0; omega
  | k + 1 => by
    show 8 * kw_cd l (m + k) + l (m + k) = kw_cd l m * 8 ^ (k + 1) + (8 * kw_cd (fun j => l (m + j)) k + l (m + k))
    rw [kw_split l m k, Nat.pow_succ]
    generalize kw_cd l m = a
    generalize 8 ^ k = b
    have : a * (b * 8) = 8 * (a * b) := by rw [← Nat.mul_assoc, Nat.mul_comm]
    omega
theorem kw_pre {l : Nat → Nat} {n m : Nat} (hl : ∀ j, j < n → l j < 8) (hm : m ≤ n) : kw_cd l n / 8 ^ (n - m) = kw_cd l m := by
  obtain ⟨k, rfl⟩ : ∃ k, n = m + k := ⟨n - m, by omega⟩
  have e : m + k - m = k := by omega
  rw [e, kw_split]
  have h : kw_cd (fun j => l (m + j)) k < 8 ^ k := kw_cd_lt (fun i hi => hl _ (by omega))
  have hp : 0 < 8 ^ k := Nat.pow_pos (by decide)
  rw [Nat.mul_comm, Nat.mul_add_div hp, Nat.div_eq_of_lt h]
  rfl
theorem kw_xs {A B T m : Nat} (h : T < 2 ^ m) : (A * 2 ^ m + T) ^^^ (B * 2 ^ m) = (A ^^^ B) * 2 ^ m + T := by
  have hp : 0 < 2 ^ m := Nat.pow_pos (by decide)
  have d : ((A * 2 ^ m + T) ^^^ (B * 2 ^ m)) / 2 ^ m = A ^^^ B := by
    rw [Nat.xor_div_two_pow, Nat.mul_comm A, Nat.mul_add_div hp, Nat.div_eq_of_lt h, Nat.mul_div_cancel _ hp]
    rfl
  have r : ((A * 2 ^ m + T) ^^^ (B * 2 ^ m)) % 2 ^ m = T := by
    rw [Nat.xor_mod_two_pow, Nat.mul_comm A, Nat.mul_add_mod, Nat.mod_eq_of_lt h, Nat.mul_mod_left, Nat.xor_zero]
  have := Nat.div_add_mod ((A * 2 ^ m + T) ^^^ (B * 2 ^ m)) (2 ^ m)
  rw [d, r] at this
  rw [← this, Nat.mul_comm]
theorem kw_x64 : ∀ x, x < 8 → ∀ y, y < 8 → ((x * 8 + y) ^^^ (9 * (x ^^^ y))) = y * 8 + x ∧ 9 * (x ^^^ y) < 64 ∧ x ^^^ y < 8 ∧ ((x ^^^ y) ^^^ ((x ^^^ y) * 8)) = 9 * (x ^^^ y) := by decide +kernel
theorem kw_xx {a x y T m : Nat} (hT : T < 2 ^ m) (hx : x < 8) (hy : y < 8) :
    ((((8 * (8 * a + x) + y) * 2 ^ m + T) ^^^ ((x ^^^ y) * 2 ^ m)) ^^^ ((x ^^^ y) * 2 ^ (m + 3))) = (8 * (8 * a + y) + x) * 2 ^ m + T := by
  obtain ⟨h1, h2, h3, h4⟩ := kw_x64 x hx y hy
  have e : (x ^^^ y) * 2 ^ (m + 3) = ((x ^^^ y) * 8) * 2 ^ m := by
    rw [Nat.pow_add, Nat.mul_assoc]
    congr 1
    rw [Nat.mul_comm]
  rw [e, kw_xs hT, kw_xs hT, Nat.xor_assoc, h4]
  have s : (8 * (8 * a + x) + y) ^^^ (9 * (x ^^^ y)) = 8 * (8 * a + y) + x := by
    have e1 : 8 * (8 * a + x) + y = a * 2 ^ 6 + (x * 8 + y) := by omega
    rw [e1, Nat.xor_comm]
    have e2 : 9 * (x ^^^ y) = 0 * 2 ^ 6 + 9 * (x ^^^ y) := by omega
    have q : (a * 2 ^ 6 + (x * 8 + y)) ^^^ (9 * (x ^^^ y)) = a * 2 ^ 6 + ((x * 8 + y) ^^^ (9 * (x ^^^ y))) := by
      have hb : (x * 8 + y) < 2 ^ 6 := by omega
      have hr : ((x * 8 + y) ^^^ (9 * (x ^^^ y))) < 2 ^ 6 := by rw [h1]; omega
      have d : ((a * 2 ^ 6 + (x * 8 + y)) ^^^ (9 * (x ^^^ y))) / 2 ^ 6 = a := by
        rw [Nat.xor_div_two_pow, Nat.div_eq_of_lt (a := 9 * (x ^^^ y)) (by omega), Nat.xor_zero]
        omega
      have r : ((a * 2 ^ 6 + (x * 8 + y)) ^^^ (9 * (x ^^^ y))) % 2 ^ 6 = ((x * 8 + y) ^^^ (9 * (x ^^^ y))) := by
        rw [Nat.xor_mod_two_pow, Nat.mod_eq_of_lt (a := 9 * (x ^^^ y)) (by omega)]
        congr 1
        omega
      have := Nat.div_add_mod ((a * 2 ^ 6 + (x * 8 + y)) ^^^ (9 * (x ^^^ y))) (2 ^ 6)
      rw [d, r] at this
      rw [← this, Nat.mul_comm]
    rw [Nat.xor_comm, q, h1]
    omega
  rw [s]
theorem kw_8p (k : Nat) : (8 : Nat) ^ k = 2 ^ (3 * k) := by rw [Nat.pow_mul]
theorem kw_swap_code {l : Nat → Nat} {n i : Nat} (hl : ∀ j, j < n → l j < 8) (hi : i + 1 < n) :
    ((kw_cd l n ^^^ ((l i ^^^ l (i + 1)) * 2 ^ (3 * (n - 2 - i)))) ^^^ ((l i ^^^ l (i + 1)) * 2 ^ (3 * (n - 2 - i) + 3))) = kw_cd (kw_sw l i) n := by
  obtain ⟨k, rfl⟩ : ∃ k, n = (i + 2) + k := ⟨n - (i + 2), by omega⟩
  have e : i + 2 + k - 2 - i = k := by omega
  rw [e, kw_split, kw_split (kw_sw l i)]
  have t : kw_cd (fun j => kw_sw l i (i + 2 + j)) k = kw_cd (fun j => l (i + 2 + j)) k := by
    apply kw_cd_congr
    intro j _
    show (if i + 2 + j = i then _ else if i + 2 + j = i + 1 then _ else _) = _
    rw [if_neg (by omega), if_neg (by omega)]
  have u : kw_cd (kw_sw l i) (i + 2) = 8 * (8 * kw_cd l i + l (i + 1)) + l i := by
    show 8 * (8 * kw_cd (kw_sw l i) i + kw_sw l i i) + kw_sw l i (i + 1) = _
    have a : kw_cd (kw_sw l i) i = kw_cd l i := by
      apply kw_cd_congr
      intro j hj
      show (if j = i then _ else if j = i + 1 then _ else _) = _
      rw [if_neg (by omega), if_neg (by omega)]
    have b : kw_sw l i i = l (i + 1) := if_pos rfl
    have c : kw_sw l i (i + 1) = l i := by
      show (if i + 1 = i then _ else if i + 1 = i + 1 then _ else _) = _
      rw [if_neg (by omega), if_pos rfl]
    rw [a, b, c]
  rw [t, u]
  have hT : kw_cd (fun j => l (i + 2 + j)) k < 2 ^ (3 * k) := by
    rw [← kw_8p]
    exact kw_cd_lt (fun j hj => hl _ (by omega))
  rw [kw_8p]
  exact kw_xx hT (hl i (by omega)) (hl (i + 1) (by omega))
theorem kw_sw_lt {l : Nat → Nat} {n i : Nat} {P : Nat → Prop} (hl : ∀ j, j < n → P (l j)) (hi : i + 1 < n) : ∀ j, j < n → P (kw_sw l i j) := by
  intro j hj
  show P (if j = i then l (i + 1) else if j = i + 1 then l i else l j)
  by_cases h : j = i
  · rw [if_pos h]; exact hl _ (by omega)
  · rw [if_neg h]
    by_cases h2 : j = i + 1
    · rw [if_pos h2]; exact hl _ (by omega)
    · rw [if_neg h2]; exact hl _ hj
theorem kw_mm_congr {l l' : Nat → Nat} {n i : Nat} (h : ∀ j, j < n → l j = l' j) (hi : i + 1 < n) (m : kw_mm l n i) : kw_mm l' n i := by
  unfold kw_mm at m ⊢
  rw [← h i (by omega), ← h (i + 1) hi, ← h (i - 1) (by omega)]
  rcases m with m | ⟨m0, m⟩
  · exact Or.inl m
  · rw [← h (i + 2) m0]
    exact Or.inr ⟨m0, m⟩
theorem kw_sw_congr {l l' : Nat → Nat} {n i : Nat} (h : ∀ j, j < n → l j = l' j) (hi : i + 1 < n) : ∀ j, j < n → kw_sw l i j = kw_sw l' i j := by
  intro j hj
  show (if j = i then l (i + 1) else if j = i + 1 then l i else l j) = (if j = i then l' (i + 1) else if j = i + 1 then l' i else l' j)
  rw [h i (by omega), h (i + 1) hi, h j hj]
