section
theorem pk_us {f : Nat → Int32} {k : Nat} {x : Int32} : upd f k x k = x := if_pos rfl
theorem pk_un {f : Nat → Int32} {k j : Nat} {x : Int32} (h : j ≠ k) : upd f k x j = f j := if_neg h
theorem pk_sub {a b : Nat} (h : b ≤ a) : nI a - nI b = nI (a - b) := by
  obtain ⟨c, rfl⟩ : ∃ c, a = c + b := ⟨a - b, by omega⟩
  rw [← nI_add, Int32.add_sub_cancel, Nat.add_sub_cancel]
theorem pk_m1 (n : Nat) : nI (n + 1) + (-1) = nI n := by
  rw [← nI_1, Int32.add_assoc, show (1 : Int32) + (-1) = 0 from rfl, Int32.add_zero]
theorem pk_mul (a b : Nat) : nI a * nI b = nI (a * b) := (Int32.ofNat_mul a b).symm
theorem pk_div {a d : Nat} (ha : a < 2 ^ 31) (h0 : 0 < d) (hd : d < 2 ^ 31) : nI a / nI d = nI (a / d) := by
  apply Int32.toInt_inj.mp
  rw [lg_idiv_nonneg (by rw [nI_toInt ha]; omega) (by rw [nI_toInt hd]; omega), nI_toInt ha, nI_toInt hd, nI_toInt (Nat.lt_of_le_of_lt (Nat.div_le_self a d) ha)]
  first | rfl | exact (Int.natCast_ediv _ _).symm
theorem pk_rem {a d : Nat} (ha : a < 2 ^ 31) (h0 : 0 < d) (hd : d < 2 ^ 31) : nI a - nI a / nI d * nI d = nI (a % d) := by
  rw [pk_div ha h0 hd, pk_mul, pk_sub (Nat.div_mul_le_self a d)]
  exact congrArg nI (by have := Nat.div_add_mod' a d; omega)
theorem pk_sub_toInt {a b : Nat} (ha : a < 2 ^ 30) (hb : b < 2 ^ 30) : (nI a - nI b).toInt = (a : Int) - b := by
  rw [Int32.toInt_sub, nI_toInt (by omega), nI_toInt (by omega)]
  exact Int.bmod_eq_of_le (by omega) (by omega)
theorem pk_sneg {a b : Nat} (hb : b < 2 ^ 30) (h : a < b) : nI a - nI b < 0 := by
  rw [Int32.lt_iff_toInt_lt, pk_sub_toInt (by omega) hb, show (0 : Int32).toInt = 0 from by decide]
  omega
theorem pk_ix (x : Int32) {n : Nat} (hn : n < 2 ^ 31) : x < 0 ∨ nI n ≤ x ∨ ∃ j : Nat, j < n ∧ x = nI j := by
  by_cases h : x < 0
  · exact Or.inl h
  · obtain ⟨j, hj, rfl⟩ := nI_of h
    by_cases h2 : j < n
    · exact Or.inr (Or.inr ⟨j, h2, rfl⟩)
    · exact Or.inr (Or.inl (nI_le (by omega) hj))
theorem pk_le {x y : Int32} {A B : Prop} (a b : Nat) (f : a ≤ b → A) (g : b < a → B) (hx : x = nI a := by rfl) (hy : y = nI b := by rfl) (ha : a < 2 ^ 31 := by omega) (hb : b < 2 ^ 31 := by omega) : (x ≤ y → A) ∧ (¬ x ≤ y → B) := by
  subst hx hy
  rw [nI_leI ha hb]
  exact ⟨f, fun z => g (by omega)⟩
theorem pk_lt {x y : Int32} {A B : Prop} (a b : Nat) (f : a < b → A) (g : b ≤ a → B) (hx : x = nI a := by rfl) (hy : y = nI b := by rfl) (ha : a < 2 ^ 31 := by omega) (hb : b < 2 ^ 31 := by omega) : (x < y → A) ∧ (¬ x < y → B) := by
  subst hx hy
  rw [nI_ltI ha hb]
  exact ⟨f, fun z => g (by omega)⟩
theorem pk_eq {x y : Int32} {A B : Prop} (a b : Nat) (f : a = b → A) (g : a ≠ b → B) (hx : x = nI a := by rfl) (hy : y = nI b := by rfl) (ha : a < 2 ^ 31 := by omega) (hb : b < 2 ^ 31 := by omega) : (x = y → A) ∧ (¬ x = y → B) := by
  subst hx hy
  rw [nI_eq ha hb]
  exact ⟨f, g⟩
theorem pk_in {x : Int32} (n N : Nat) (h : n < N) (hx : x = nI n := by rfl) (hN : N < 2 ^ 31 := by omega) : vp_in x N := by
  subst hx
  exact vp_in_nI h hN
theorem pk_cl {x : Int32} (n : Nat) (hx : x = nI n := by rfl) (h : n < 2 ^ 31 := by omega) : x.toNatClampNeg = n := by
  subst hx
  exact nI_clamp h
theorem pk_tn {n : Nat} (h : n < 2 ^ 32) : (nI n).toBitVec.toNat = n := Nat.mod_eq_of_lt h
theorem pk_and (x : Int32) {m : Int32} (k : Nat) (hm : m.toBitVec.toNat = 2 ^ k - 1) : x &&& m = nI (x.toBitVec.toNat % 2 ^ k) := by
  apply Int32.toBitVec_inj.mp
  apply BitVec.eq_of_toNat_eq
  rw [Int32.toBitVec_and, BitVec.toNat_and, hm, Nat.and_two_pow_sub_one_eq_mod]
  show _ = (BitVec.ofNat 32 _).toNat
  rw [BitVec.toNat_ofNat]
  exact (Nat.mod_eq_of_lt (Nat.lt_of_le_of_lt (Nat.mod_le _ _) x.toBitVec.isLt)).symm
theorem pk_andN {n : Nat} (h : n < 2 ^ 32) {m : Int32} (k : Nat) (hm : m.toBitVec.toNat = 2 ^ k - 1) : nI n &&& m = nI (n % 2 ^ k) := by
  rw [pk_and _ k hm, pk_tn h]
theorem pk_andE (x : Int32) {m : Int32} (k : Nat) (hm : m.toBitVec.toNat = 2 ^ k - 1) : ∃ j : Nat, j < 2 ^ k ∧ x &&& m = nI j := ⟨_, Nat.mod_lt _ (Nat.two_pow_pos k), pk_and x k hm⟩
theorem pk_andIn (x : Int32) {m : Int32} (k : Nat) (hm : m.toBitVec.toNat = 2 ^ k - 1) (hk : k ≤ 30) : vp_in (x &&& m) (2 ^ k) := by
  obtain ⟨j, hj, e⟩ := pk_andE x k hm
  rw [e]
  exact vp_in_nI hj (Nat.lt_of_le_of_lt (Nat.pow_le_pow_right (by decide) hk) (by decide))
theorem pk_shl (a s : Int32) (k : Nat) (hs : (s.toBitVec.smod 32).toNat = k) : (a <<< s).toBitVec.toNat = a.toBitVec.toNat * 2 ^ k % 2 ^ 32 := by
  show (a.toBitVec <<< (s.toBitVec.smod 32).toNat).toNat = _
  rw [hs, BitVec.toNat_shiftLeft, Nat.shiftLeft_eq]
theorem pk_shlN {n : Nat} (s : Int32) (k : Nat) (hs : (s.toBitVec.smod 32).toNat = k) (h : n * 2 ^ k < 2 ^ 32) : nI n <<< s = nI (n * 2 ^ k) := by
  apply Int32.toBitVec_inj.mp
  apply BitVec.eq_of_toNat_eq
  have hn : n < 2 ^ 32 := Nat.lt_of_le_of_lt (Nat.le_mul_of_pos_right n (Nat.two_pow_pos k)) h
  rw [pk_shl _ _ k hs, pk_tn hn, pk_tn h, Nat.mod_eq_of_lt h]
theorem pk_shr (a s : Int32) (k : Nat) (hs : (s.toBitVec.smod 32).toNat = k) : (a >>> s).toInt = a.toInt >>> k := by
  show (a.toBitVec.sshiftRight (s.toBitVec.smod 32).toNat).toInt = _
  rw [hs, BitVec.toInt_sshiftRight]
  rfl
theorem pk_shrN {n : Nat} (h : n < 2 ^ 31) (s : Int32) (k : Nat) (hs : (s.toBitVec.smod 32).toNat = k) : nI n >>> s = nI (n / 2 ^ k) := by
  apply Int32.toInt_inj.mp
  have h2 : n / 2 ^ k ≤ n := Nat.div_le_self _ _
  rw [pk_shr _ _ k hs, nI_toInt h, nI_toInt (by omega), Int.shiftRight_eq_div_pow]
  rfl
theorem pk_loop {σ : Type} (W : Nat → Nat → σ → Prop) (I : Nat → σ → Prop) (e i0 : Nat) (s : σ) (hi : i0 ≤ e) (h0 : I i0 s) (hx : ∀ n s, I e s → W (n + 1) e s)
    (hs : ∀ n i s, i < e → I i s → (∀ s', I (i + 1) s' → W n (i + 1) s') → W (n + 1) i s) : ∃ n, W n i0 s :=
  ⟨e + 1, loop_i W I e hx hs (e + 1) i0 s hi (by omega) h0⟩
theorem pk_loopD {σ : Type} (W : Nat → Nat → σ → Prop) (I : Nat → σ → Prop) (hx : ∀ n s, I 0 s → W (n + 1) 0 s)
    (hs : ∀ n i s, I (i + 1) s → (∀ s', I i s' → W n i s') → W (n + 1) (i + 1) s) : ∀ (e : Nat) (s : σ), I e s → W (e + 1) e s := by
  intro e
  induction e with
  | zero => exact fun s h => hx 0 s h
  | succ e ih => exact fun s h => hs (e + 1) e s h (fun s' h' => ih s' h')
theorem s_l : ∀ n, n < 32 → ((nI n &&& 31).toBitVec.smod 32).toNat = n := by decide +kernel
theorem nx_and (a b : Nat) : nI a &&& nI b = nI (a &&& b) := by
  apply Int32.toBitVec_inj.1
  show BitVec.ofNat 32 a &&& BitVec.ofNat 32 b = BitVec.ofNat 32 (a &&& b)
  apply BitVec.eq_of_getLsbD_eq
  intro i hi
  simp [hi]
theorem nx_xor (a b : Nat) : nI a ^^^ nI b = nI (a ^^^ b) := by
  apply Int32.toBitVec_inj.1
  show BitVec.ofNat 32 a ^^^ BitVec.ofNat 32 b = BitVec.ofNat 32 (a ^^^ b)
  apply BitVec.eq_of_getLsbD_eq
  intro i hi
  simp [hi]
end
section
/-! words as letter functions, their codes, swaps and moves -/
theorem kw_or (a b : Nat) : nI a ||| nI b = nI (a ||| b) := by
  apply Int32.toBitVec_inj.1
  show BitVec.ofNat 32 a ||| BitVec.ofNat 32 b = BitVec.ofNat 32 (a ||| b)
  apply BitVec.eq_of_getLsbD_eq
  intro i hi
  simp [hi]
theorem kw_or8 {c x : Nat} (hx : x < 8) : nI (c * 8) ||| nI x = nI (8 * c + x) := by
  rw [kw_or]
  have h := Nat.shiftLeft_add_eq_or_of_lt (i := 3) (b := x) (by omega) c
  rw [Nat.shiftLeft_eq] at h
  have e : c * 2 ^ 3 = c * 8 := by omega
  rw [e] at h
  rw [← h, Nat.mul_comm c 8]
def kw_cd (l : Nat → Nat) : Nat → Nat
  | 0 => 0
  | n + 1 => 8 * kw_cd l n + l n
def kw_dg (n c : Nat) : Nat → Nat := fun i => c / 8 ^ (n - 1 - i) % 8
def kw_sw (l : Nat → Nat) (i : Nat) : Nat → Nat := fun j => if j = i then l (i + 1) else if j = i + 1 then l i else l j
def kw_mm (l : Nat → Nat) (n i : Nat) : Prop :=
  (0 < i ∧ ((l i < l (i - 1) ∧ l (i - 1) ≤ l (i + 1)) ∨ (l (i + 1) < l (i - 1) ∧ l (i - 1) ≤ l i))) ∨
  (i + 2 < n ∧ ((l i ≤ l (i + 2) ∧ l (i + 2) < l (i + 1)) ∨ (l (i + 1) ≤ l (i + 2) ∧ l (i + 2) < l i)))
theorem kw_cd_congr {l l' : Nat → Nat} : ∀ {n : Nat}, (∀ i, i < n → l i = l' i) → kw_cd l n = kw_cd l' n
  | 0, _ => rfl
  | n + 1, h => by
    show 8 * kw_cd l n + l n = 8 * kw_cd l' n + l' n
    rw [kw_cd_congr (n := n) (fun i hi => h i (by omega)), h n (by omega)]
theorem kw_cd_lt {l : Nat → Nat} : ∀ {n : Nat}, (∀ i, i < n → l i < 8) → kw_cd l n < 8 ^ n
  | 0, _ => Nat.zero_lt_one
  | n + 1, h => by
    show 8 * kw_cd l n + l n < 8 ^ (n + 1)
    have h1 := kw_cd_lt (n := n) (fun i hi => h i (by omega))
    have h2 := h n (by omega)
    rw [Nat.pow_succ]
    omega
theorem kw_dig {l : Nat → Nat} : ∀ {n i : Nat}, (∀ j, j < n → l j < 8) → i < n → kw_cd l n / 8 ^ (n - 1 - i) % 8 = l i
  | 0, _, _, h => absurd h (by omega)
  | n + 1, i, hl, hi => by
    show (8 * kw_cd l n + l n) / 8 ^ (n + 1 - 1 - i) % 8 = l i
    have hn := hl n (by omega)
    by_cases h : i = n
    · subst h
      have e : i + 1 - 1 - i = 0 := by omega
      rw [e]
      show (8 * kw_cd l i + l i) / 1 % 8 = l i
      rw [Nat.div_one]
      omega
    · have e : n + 1 - 1 - i = (n - 1 - i) + 1 := by omega
      rw [e, Nat.pow_succ, Nat.mul_comm (8 ^ _) 8, ← Nat.div_div_eq_div_mul]
      have e2 : (8 * kw_cd l n + l n) / 8 = kw_cd l n := by omega
      rw [e2]
      exact kw_dig (n := n) (fun j hj => hl j (by omega)) (by omega)
theorem kw_dg_cd {l : Nat → Nat} {n i : Nat} (hl : ∀ j, j < n → l j < 8) (hi : i < n) : kw_dg n (kw_cd l n) i = l i := kw_dig hl hi
theorem kw_dg_lt (n c i : Nat) : kw_dg n c i < 8 := Nat.mod_lt _ (by decide)
theorem kw_dg_s {n c i : Nat} (hi : i < n) : kw_dg (n + 1) c i = kw_dg n (c / 8) i := by
  show c / 8 ^ (n + 1 - 1 - i) % 8 = c / 8 / 8 ^ (n - 1 - i) % 8
  have e : n + 1 - 1 - i = (n - 1 - i) + 1 := by omega
  rw [e, Nat.pow_succ, Nat.mul_comm (8 ^ _) 8, ← Nat.div_div_eq_div_mul]
theorem kw_cd_dg : ∀ {n c : Nat}, c < 8 ^ n → kw_cd (kw_dg n c) n = c
  | 0, c, h => by
    have : c = 0 := by simpa using h
    subst this; rfl
  | n + 1, c, h => by
    show 8 * kw_cd (kw_dg (n + 1) c) n + kw_dg (n + 1) c n = c
    rw [kw_cd_congr (l' := kw_dg n (c / 8)) (fun i hi => kw_dg_s hi), kw_cd_dg (n := n) (by rw [Nat.pow_succ] at h; omega)]
    have e : kw_dg (n + 1) c n = c % 8 := by
      show c / 8 ^ (n + 1 - 1 - n) % 8 = c % 8
      have e : n + 1 - 1 - n = 0 := by omega
      rw [e]
      show c / 1 % 8 = c % 8
      rw [Nat.div_one]
    rw [e]
    omega
theorem kw_split (l : Nat → Nat) (m : Nat) : ∀ k : Nat, kw_cd l (m + k) = kw_cd l m * 8 ^ k + kw_cd (fun j => l (m + j)) k
  | 0 => by show kw_cd l m = kw_cd l m * 1 + 0; omega
  | k + 1 => by
    show 8 * kw_cd l (m + k) + l (m + k) = kw_cd l m * 8 ^ (k + 1) + (8 * kw_cd (fun j => l (m + j)) k + l (m + k))
    rw [kw_split l m k, Nat.pow_succ]
    generalize kw_cd l m = a
    generalize 8 ^ k = b
    have : a * (b * 8) = 8 * (a * b) := by rw [← Nat.mul_assoc, Nat.mul_comm]
    omega
theorem kw_pre {l : Nat → Nat} {n m : Nat} (hl : ∀ j, j < n → l j < 8) (hm : m ≤ n) : kw_cd l n / 8 ^ (n - m) = kw_cd l m := by
  obtain ⟨k, rfl⟩ : ∃ k, n = m + k := ⟨n - m, by omega⟩
  have e : m + k - m = k := by omega
  rw [e, kw_split]
  have h : kw_cd (fun j => l (m + j)) k < 8 ^ k := kw_cd_lt (fun i hi => hl _ (by omega))
  have hp : 0 < 8 ^ k := Nat.pow_pos (by decide)
  rw [Nat.mul_comm, Nat.mul_add_div hp, Nat.div_eq_of_lt h]
  rfl
theorem kw_xs {A B T m : Nat} (h : T < 2 ^ m) : (A * 2 ^ m + T) ^^^ (B * 2 ^ m) = (A ^^^ B) * 2 ^ m + T := by
  have hp : 0 < 2 ^ m := Nat.pow_pos (by decide)
  have d : ((A * 2 ^ m + T) ^^^ (B * 2 ^ m)) / 2 ^ m = A ^^^ B := by
    rw [Nat.xor_div_two_pow, Nat.mul_comm A, Nat.mul_add_div hp, Nat.div_eq_of_lt h, Nat.mul_div_cancel _ hp]
    rfl
  have r : ((A * 2 ^ m + T) ^^^ (B * 2 ^ m)) % 2 ^ m = T := by
    rw [Nat.xor_mod_two_pow, Nat.mul_comm A, Nat.mul_add_mod, Nat.mod_eq_of_lt h, Nat.mul_mod_left, Nat.xor_zero]
  have := Nat.div_add_mod ((A * 2 ^ m + T) ^^^ (B * 2 ^ m)) (2 ^ m)
  rw [d, r] at this
  rw [← this, Nat.mul_comm]
theorem kw_x64 : ∀ x, x < 8 → ∀ y, y < 8 → ((x * 8 + y) ^^^ (9 * (x ^^^ y))) = y * 8 + x ∧ 9 * (x ^^^ y) < 64 ∧ x ^^^ y < 8 ∧ ((x ^^^ y) ^^^ ((x ^^^ y) * 8)) = 9 * (x ^^^ y) := by decide +kernel
theorem kw_xx {a x y T m : Nat} (hT : T < 2 ^ m) (hx : x < 8) (hy : y < 8) :
    ((((8 * (8 * a + x) + y) * 2 ^ m + T) ^^^ ((x ^^^ y) * 2 ^ m)) ^^^ ((x ^^^ y) * 2 ^ (m + 3))) = (8 * (8 * a + y) + x) * 2 ^ m + T := by
  obtain ⟨h1, h2, h3, h4⟩ := kw_x64 x hx y hy
  have e : (x ^^^ y) * 2 ^ (m + 3) = ((x ^^^ y) * 8) * 2 ^ m := by
    rw [Nat.pow_add, Nat.mul_assoc]
    congr 1
    rw [Nat.mul_comm]
  rw [e, kw_xs hT, kw_xs hT, Nat.xor_assoc, h4]
  have s : (8 * (8 * a + x) + y) ^^^ (9 * (x ^^^ y)) = 8 * (8 * a + y) + x := by
    have e1 : 8 * (8 * a + x) + y = a * 2 ^ 6 + (x * 8 + y) := by omega
    rw [e1, Nat.xor_comm]
    have e2 : 9 * (x ^^^ y) = 0 * 2 ^ 6 + 9 * (x ^^^ y) := by omega
    have q : (a * 2 ^ 6 + (x * 8 + y)) ^^^ (9 * (x ^^^ y)) = a * 2 ^ 6 + ((x * 8 + y) ^^^ (9 * (x ^^^ y))) := by
      have hb : (x * 8 + y) < 2 ^ 6 := by omega
      have hr : ((x * 8 + y) ^^^ (9 * (x ^^^ y))) < 2 ^ 6 := by rw [h1]; omega
      have d : ((a * 2 ^ 6 + (x * 8 + y)) ^^^ (9 * (x ^^^ y))) / 2 ^ 6 = a := by
        rw [Nat.xor_div_two_pow, Nat.div_eq_of_lt (a := 9 * (x ^^^ y)) (by omega), Nat.xor_zero]
        omega
      have r : ((a * 2 ^ 6 + (x * 8 + y)) ^^^ (9 * (x ^^^ y))) % 2 ^ 6 = ((x * 8 + y) ^^^ (9 * (x ^^^ y))) := by
        rw [Nat.xor_mod_two_pow, Nat.mod_eq_of_lt (a := 9 * (x ^^^ y)) (by omega)]
        congr 1
        omega
      have := Nat.div_add_mod ((a * 2 ^ 6 + (x * 8 + y)) ^^^ (9 * (x ^^^ y))) (2 ^ 6)
      rw [d, r] at this
      rw [← this, Nat.mul_comm]
    rw [Nat.xor_comm, q, h1]
    omega
  rw [s]
theorem kw_8p (k : Nat) : (8 : Nat) ^ k = 2 ^ (3 * k) := by rw [Nat.pow_mul]
theorem kw_swap_code {l : Nat → Nat} {n i : Nat} (hl : ∀ j, j < n → l j < 8) (hi : i + 1 < n) :
    ((kw_cd l n ^^^ ((l i ^^^ l (i + 1)) * 2 ^ (3 * (n - 2 - i)))) ^^^ ((l i ^^^ l (i + 1)) * 2 ^ (3 * (n - 2 - i) + 3))) = kw_cd (kw_sw l i) n := by
  obtain ⟨k, rfl⟩ : ∃ k, n = (i + 2) + k := ⟨n - (i + 2), by omega⟩
  have e : i + 2 + k - 2 - i = k := by omega
  rw [e, kw_split, kw_split (kw_sw l i)]
  have t : kw_cd (fun j => kw_sw l i (i + 2 + j)) k = kw_cd (fun j => l (i + 2 + j)) k := by
    apply kw_cd_congr
    intro j _
    show (if i + 2 + j = i then _ else if i + 2 + j = i + 1 then _ else _) = _
    rw [if_neg (by omega), if_neg (by omega)]
  have u : kw_cd (kw_sw l i) (i + 2) = 8 * (8 * kw_cd l i + l (i + 1)) + l i := by
    show 8 * (8 * kw_cd (kw_sw l i) i + kw_sw l i i) + kw_sw l i (i + 1) = _
    have a : kw_cd (kw_sw l i) i = kw_cd l i := by
      apply kw_cd_congr
      intro j hj
      show (if j = i then _ else if j = i + 1 then _ else _) = _
      rw [if_neg (by omega), if_neg (by omega)]
    have b : kw_sw l i i = l (i + 1) := if_pos rfl
    have c : kw_sw l i (i + 1) = l i := by
      show (if i + 1 = i then _ else if i + 1 = i + 1 then _ else _) = _
      rw [if_neg (by omega), if_pos rfl]
    rw [a, b, c]
  rw [t, u]
  have hT : kw_cd (fun j => l (i + 2 + j)) k < 2 ^ (3 * k) := by
    rw [← kw_8p]
    exact kw_cd_lt (fun j hj => hl _ (by omega))
  rw [kw_8p]
  exact kw_xx hT (hl i (by omega)) (hl (i + 1) (by omega))
theorem kw_sw_lt {l : Nat → Nat} {n i : Nat} {P : Nat → Prop} (hl : ∀ j, j < n → P (l j)) (hi : i + 1 < n) : ∀ j, j < n → P (kw_sw l i j) := by
  intro j hj
  show P (if j = i then l (i + 1) else if j = i + 1 then l i else l j)
  by_cases h : j = i
  · rw [if_pos h]; exact hl _ (by omega)
  · rw [if_neg h]
    by_cases h2 : j = i + 1
    · rw [if_pos h2]; exact hl _ (by omega)
    · rw [if_neg h2]; exact hl _ hj
theorem kw_mm_congr {l l' : Nat → Nat} {n i : Nat} (h : ∀ j, j < n → l j = l' j) (hi : i + 1 < n) (m : kw_mm l n i) : kw_mm l' n i := by
  unfold kw_mm at m ⊢
  rw [← h i (by omega), ← h (i + 1) hi, ← h (i - 1) (by omega)]
  rcases m with m | ⟨m0, m⟩
  · exact Or.inl m
  · rw [← h (i + 2) m0]
    exact Or.inr ⟨m0, m⟩
theorem kw_sw_congr {l l' : Nat → Nat} {n i : Nat} (h : ∀ j, j < n → l j = l' j) (hi : i + 1 < n) : ∀ j, j < n → kw_sw l i j = kw_sw l' i j := by
  intro j hj
  show (if j = i then l (i + 1) else if j = i + 1 then l i else l j) = (if j = i then l' (i + 1) else if j = i + 1 then l' i else l' j)
  rw [h i (by omega), h (i + 1) hi, h j hj]
end
section
/-! the permutations of 0 .. 6 in families closed under moves (codes, base 8), in 64 buckets; written by wip/whole/gen_table.py -/
def kb_T0 : List (List Nat) := [[nat_lit 42798]]
def kb_T1 : List (List Nat) := [[nat_lit 272174, nat_lit 329518, nat_lit 340270, nat_lit 342062, nat_lit 342342, nat_lit 342384]]
def kb_T2 : List (List Nat) := [[nat_lit 71470, nat_lit 530222, nat_lit 78638, nat_lit 79982, nat_lit 80206, nat_lit 80241], [nat_lit 537390, nat_lit 623406, nat_lit 538734, nat_lit 624750, nat_lit 538958, nat_lit 639086, nat_lit 624974, nat_lit 538993, nat_lit 639310, nat_lit 625009, nat_lit 641550, nat_lit 639345, nat_lit 641585, nat_lit 641921]]
def kb_T3 : List (List Nat) := [[nat_lit 558894, nat_lit 569646, nat_lit 626990, nat_lit 571438, nat_lit 628782, nat_lit 571718, nat_lit 639534, nat_lit 629062, nat_lit 571760, nat_lit 639814, nat_lit 629104, nat_lit 641606, nat_lit 639856, nat_lit 641648, nat_lit 641928]]
def kb_T4 : List (List Nat) := [[nat_lit 46382, nat_lit 103726, nat_lit 47278, nat_lit 791854, nat_lit 47446, nat_lit 47474], [nat_lit 104622, nat_lit 792750, nat_lit 115374, nat_lit 104790, nat_lit 803502, nat_lit 792918, nat_lit 115542, nat_lit 104818, nat_lit 918190, nat_lit 792946, nat_lit 117334, nat_lit 115570, nat_lit 117362, nat_lit 117642], [nat_lit 803670, nat_lit 918358, nat_lit 805462, nat_lit 803698, nat_lit 920150, nat_lit 918386, nat_lit 805490, nat_lit 938070, nat_lit 920178, nat_lit 805770, nat_lit 938098, nat_lit 920458, nat_lit 938378, nat_lit 941066]]
def kb_T5 : List (List Nat) := [[nat_lit 275758, nat_lit 361774, nat_lit 276654, nat_lit 362670, nat_lit 276822, nat_lit 377006, nat_lit 362838, nat_lit 276850, nat_lit 377174, nat_lit 362866, nat_lit 379414, nat_lit 377202, nat_lit 379442, nat_lit 379778], [nat_lit 368942, nat_lit 827694, nat_lit 370734, nat_lit 820526, nat_lit 829486, nat_lit 377902, nat_lit 371014, nat_lit 829766, nat_lit 378182, nat_lit 371056, nat_lit 829808, nat_lit 379526, nat_lit 378224, nat_lit 379568, nat_lit 379792], [nat_lit 821422, nat_lit 835758, nat_lit 821590, nat_lit 921774, nat_lit 835926, nat_lit 821618, nat_lit 922670, nat_lit 921942, nat_lit 838166, nat_lit 835954, nat_lit 836654, nat_lit 922950, nat_lit 924182, nat_lit 921970, nat_lit 838194, nat_lit 836934, nat_lit 922992, nat_lit 938518, nat_lit 924210, nat_lit 838530, nat_lit 838278, nat_lit 836976, nat_lit 938630, nat_lit 938546, nat_lit 924546, nat_lit 924294, nat_lit 838320, nat_lit 938672, nat_lit 938882, nat_lit 924336, nat_lit 838544, nat_lit 941122, nat_lit 924560, nat_lit 941136, nat_lit 938896]]
def kb_T6 : List (List Nat) := [[nat_lit 107310, nat_lit 795438, nat_lit 108654, nat_lit 852782, nat_lit 796782, nat_lit 115822, nat_lit 108878, nat_lit 797006, nat_lit 116046, nat_lit 108913, nat_lit 797041, nat_lit 117390, nat_lit 116081, nat_lit 117425, nat_lit 117649], [nat_lit 803950, nat_lit 918638, nat_lit 804174, nat_lit 925806, nat_lit 918862, nat_lit 805518, nat_lit 804209, nat_lit 868462, nat_lit 918897, nat_lit 920206, nat_lit 805553, nat_lit 854126, nat_lit 938126, nat_lit 920241, nat_lit 805777, nat_lit 854350, nat_lit 939022, nat_lit 938161, nat_lit 920465, nat_lit 868686, nat_lit 854385, nat_lit 928270, nat_lit 938385, nat_lit 926030, nat_lit 870926, nat_lit 868721, nat_lit 941073, nat_lit 926065, nat_lit 870961, nat_lit 941185, nat_lit 928305, nat_lit 871297, nat_lit 939393, nat_lit 939057, nat_lit 928641]]
def kb_T7 : List (List Nat) := [[nat_lit 856366, nat_lit 858158, nat_lit 868910, nat_lit 858438, nat_lit 926254, nat_lit 869190, nat_lit 858480, nat_lit 926534, nat_lit 870982, nat_lit 869232, nat_lit 928326, nat_lit 926576, nat_lit 871024, nat_lit 939078, nat_lit 928368, nat_lit 871304, nat_lit 939120, nat_lit 928648, nat_lit 939400, nat_lit 941192]]
def kb_T8 : List (List Nat) := [[nat_lit 43246, nat_lit 50414, nat_lit 43358, nat_lit 136430, nat_lit 43379, nat_lit 1053934], [nat_lit 50526, nat_lit 136542, nat_lit 51870, nat_lit 50547, nat_lit 1054046, nat_lit 137886, nat_lit 136563, nat_lit 51891, nat_lit 1055390, nat_lit 1054067, nat_lit 152222, nat_lit 52115, nat_lit 1069726, nat_lit 1213086], [nat_lit 137907, nat_lit 1055411, nat_lit 152243, nat_lit 138131, nat_lit 1069747, nat_lit 1055635, nat_lit 152467, nat_lit 1213107, nat_lit 1069971, nat_lit 154707, nat_lit 1213331, nat_lit 1072211, nat_lit 1215571, nat_lit 1237075]]
def kb_T9 : List (List Nat) := [[nat_lit 272622, nat_lit 329966, nat_lit 279790, nat_lit 272734, nat_lit 344302, nat_lit 330078, nat_lit 394478, nat_lit 272755, nat_lit 344414, nat_lit 330099, nat_lit 346654, nat_lit 344435, nat_lit 346675, nat_lit 347011], [nat_lit 279902, nat_lit 394590, nat_lit 281246, nat_lit 279923, nat_lit 395934, nat_lit 394611, nat_lit 281267, nat_lit 413854, nat_lit 395955, nat_lit 281491, nat_lit 413875, nat_lit 396179, nat_lit 414099, nat_lit 416787], [nat_lit 345646, nat_lit 402990, nat_lit 345926, nat_lit 1091118, nat_lit 401646, nat_lit 403270, nat_lit 346822, nat_lit 345968, nat_lit 1089774, nat_lit 1091398, nat_lit 403312, nat_lit 346864, nat_lit 1082606, nat_lit 1091440, nat_lit 347032], [nat_lit 401758, nat_lit 1089886, nat_lit 403998, nat_lit 401779, nat_lit 1082718, nat_lit 1092126, nat_lit 1089907, nat_lit 414750, nat_lit 404019, nat_lit 1084062, nat_lit 1082739, nat_lit 1092147, nat_lit 414918, nat_lit 414771, nat_lit 404355, nat_lit 1101982, nat_lit 1092483, nat_lit 404166, nat_lit 414960, nat_lit 415107, nat_lit 1216670, nat_lit 1092294, nat_lit 404208, nat_lit 416899, nat_lit 1217566, nat_lit 1103046, nat_lit 1092336, nat_lit 404376, nat_lit 416920, nat_lit 1102878, nat_lit 1217734, nat_lit 1103088, nat_lit 1092504, nat_lit 415128, nat_lit 1217776], [nat_lit 1084083, nat_lit 1102003, nat_lit 1084307, nat_lit 1216691, nat_lit 1102227, nat_lit 1217587, nat_lit 1216915, nat_lit 1104915, nat_lit 1102899, nat_lit 1217923, nat_lit 1219603, nat_lit 1103235, nat_lit 1237523, nat_lit 1105027, nat_lit 1237635, nat_lit 1219715, nat_lit 1105048, nat_lit 1237656, nat_lit 1219736, nat_lit 1103256, nat_lit 1217944]]
def kb_T10 : List (List Nat) := [[nat_lit 71918, nat_lit 530670, nat_lit 82670, nat_lit 72030, nat_lit 541422, nat_lit 530782, nat_lit 82782, nat_lit 72051, nat_lit 656110, nat_lit 530803, nat_lit 84574, nat_lit 82803, nat_lit 84595, nat_lit 84875], [nat_lit 83566, nat_lit 140910, nat_lit 83790, nat_lit 1058414, nat_lit 140014, nat_lit 141134, nat_lit 84686, nat_lit 83825, nat_lit 1057518, nat_lit 1058638, nat_lit 141169, nat_lit 84721, nat_lit 1114862, nat_lit 1058673, nat_lit 84889], [nat_lit 140126, nat_lit 1057630, nat_lit 141918, nat_lit 140147, nat_lit 1114974, nat_lit 1059422, nat_lit 1057651, nat_lit 152670, nat_lit 141939, nat_lit 1116766, nat_lit 1114995, nat_lit 1059443, nat_lit 152782, nat_lit 152691, nat_lit 142219, nat_lit 1134686, nat_lit 1059723, nat_lit 142030, nat_lit 152817, nat_lit 152971, nat_lit 1220702, nat_lit 1059534, nat_lit 142065, nat_lit 154763, nat_lit 1213534, nat_lit 1070286, nat_lit 1059569, nat_lit 142233, nat_lit 154777, nat_lit 1070174, nat_lit 1213646, nat_lit 1070321, nat_lit 1059737, nat_lit 152985, nat_lit 1213681], [nat_lit 541534, nat_lit 656222, nat_lit 543326, nat_lit 541555, nat_lit 658014, nat_lit 656243, nat_lit 543347, nat_lit 675934, nat_lit 658035, nat_lit 543627, nat_lit 675955, nat_lit 658315, nat_lit 676235, nat_lit 678923], [nat_lit 542318, nat_lit 657006, nat_lit 542542, nat_lit 667758, nat_lit 657230, nat_lit 543438, nat_lit 542577, nat_lit 1126510, nat_lit 657265, nat_lit 658126, nat_lit 543473, nat_lit 1115758, nat_lit 676046, nat_lit 658161, nat_lit 543641, nat_lit 1115982, nat_lit 677390, nat_lit 676081, nat_lit 658329, nat_lit 1126734, nat_lit 1116017, nat_lit 670222, nat_lit 676249, nat_lit 667982, nat_lit 1128974, nat_lit 1126769, nat_lit 678937, nat_lit 668017, nat_lit 1129009, nat_lit 679105, nat_lit 670257, nat_lit 1129345, nat_lit 677761, nat_lit 677425, nat_lit 670593], [nat_lit 1070195, nat_lit 1213555, nat_lit 1070475, nat_lit 1220723, nat_lit 1213835, nat_lit 1072267, nat_lit 1134707, nat_lit 1221003, nat_lit 1215627, nat_lit 1072281, nat_lit 1116787, nat_lit 1134987, nat_lit 1223691, nat_lit 1237131, nat_lit 1215641, nat_lit 1070489, nat_lit 1117067, nat_lit 1137675, nat_lit 1238027, nat_lit 1237145, nat_lit 1213849], [nat_lit 1116878, nat_lit 1134798, nat_lit 1116913, nat_lit 1220814, nat_lit 1136142, nat_lit 1134833, nat_lit 1117081, nat_lit 1222158, nat_lit 1220849, nat_lit 1135001, nat_lit 1222193, nat_lit 1221017, nat_lit 1137689, nat_lit 1136177, nat_lit 1222529, nat_lit 1223705, nat_lit 1137857, nat_lit 1136513, nat_lit 1238041, nat_lit 1223873, nat_lit 1238209]]
def kb_T11 : List (List Nat) := [[nat_lit 559342, nat_lit 573678, nat_lit 559454, nat_lit 659694, nat_lit 573790, nat_lit 559475, nat_lit 661038, nat_lit 659806, nat_lit 576030, nat_lit 573811, nat_lit 575022, nat_lit 661318, nat_lit 662046, nat_lit 659827, nat_lit 576051, nat_lit 575302, nat_lit 661360, nat_lit 676382, nat_lit 662067, nat_lit 576387, nat_lit 576198, nat_lit 575344, nat_lit 676550, nat_lit 676403, nat_lit 662403, nat_lit 662214, nat_lit 576240, nat_lit 676592, nat_lit 676739, nat_lit 662256, nat_lit 576408, nat_lit 678979, nat_lit 662424, nat_lit 679000, nat_lit 676760], [nat_lit 668206, nat_lit 1126958, nat_lit 668486, nat_lit 1119790, nat_lit 1127238, nat_lit 670278, nat_lit 668528, nat_lit 1118446, nat_lit 1120070, nat_lit 1129030, nat_lit 1127280, nat_lit 677446, nat_lit 670320, nat_lit 1120112, nat_lit 1129072, nat_lit 677488, nat_lit 670600, nat_lit 1129352, nat_lit 677768, nat_lit 679112], [nat_lit 1118558, nat_lit 1120798, nat_lit 1118579, nat_lit 1135134, nat_lit 1120819, nat_lit 1221150, nat_lit 1135302, nat_lit 1135155, nat_lit 1121155, nat_lit 1221318, nat_lit 1120966, nat_lit 1135344, nat_lit 1221171, nat_lit 1135491, nat_lit 1222214, nat_lit 1221360, nat_lit 1121008, nat_lit 1221507, nat_lit 1137731, nat_lit 1136198, nat_lit 1222256, nat_lit 1121176, nat_lit 1223747, nat_lit 1137752, nat_lit 1136240, nat_lit 1222536, nat_lit 1135512, nat_lit 1238083, nat_lit 1223768, nat_lit 1136520, nat_lit 1221528, nat_lit 1238104, nat_lit 1137864, nat_lit 1238216, nat_lit 1223880]]
def kb_T12 : List (List Nat) := [[nat_lit 50862, nat_lit 136878, nat_lit 51030, nat_lit 1054382, nat_lit 144046, nat_lit 137046, nat_lit 51926, nat_lit 51058, nat_lit 1061550, nat_lit 1054550, nat_lit 137074, nat_lit 51954, nat_lit 1147566, nat_lit 1054578, nat_lit 52122], [nat_lit 137942, nat_lit 1055446, nat_lit 152278, nat_lit 137970, nat_lit 1069782, nat_lit 1055474, nat_lit 153174, nat_lit 152306, nat_lit 138138, nat_lit 1213142, nat_lit 1070678, nat_lit 1069810, nat_lit 1055642, nat_lit 146006, nat_lit 152474, nat_lit 1214038, nat_lit 1213170, nat_lit 1063510, nat_lit 144214, nat_lit 154714, nat_lit 1224790, nat_lit 1061718, nat_lit 144242, nat_lit 154826, nat_lit 1167446, nat_lit 1147734, nat_lit 1061746, nat_lit 146034, nat_lit 153482, nat_lit 1149526, nat_lit 1147762, nat_lit 1063538, nat_lit 153202, nat_lit 146314, nat_lit 1063818], [nat_lit 1069978, nat_lit 1213338, nat_lit 1072218, nat_lit 1215578, nat_lit 1072330, nat_lit 1237082, nat_lit 1215690, nat_lit 1070986, nat_lit 1237194, nat_lit 1214346, nat_lit 1070706, nat_lit 1238538, nat_lit 1214066, nat_lit 1227786, nat_lit 1224818, nat_lit 1170442, nat_lit 1225098, nat_lit 1167474, nat_lit 1167754, nat_lit 1149554, nat_lit 1149834]]
def kb_T13 : List (List Nat) := [[nat_lit 280238, nat_lit 394926, nat_lit 280406, nat_lit 405678, nat_lit 395094, nat_lit 281302, nat_lit 280434, nat_lit 1093806, nat_lit 395122, nat_lit 395990, nat_lit 281330, nat_lit 1083054, nat_lit 413910, nat_lit 396018, nat_lit 281498, nat_lit 1083222, nat_lit 415254, nat_lit 413938, nat_lit 396186, nat_lit 1093974, nat_lit 1083250, nat_lit 408086, nat_lit 414106, nat_lit 405846, nat_lit 1096214, nat_lit 1094002, nat_lit 416794, nat_lit 405874, nat_lit 1096242, nat_lit 416962, nat_lit 408114, nat_lit 1096578, nat_lit 415618, nat_lit 415282, nat_lit 408450], [nat_lit 406574, nat_lit 1094702, nat_lit 406854, nat_lit 1152046, nat_lit 1094982, nat_lit 408198, nat_lit 406896, nat_lit 1151150, nat_lit 1152326, nat_lit 1096326, nat_lit 1095024, nat_lit 415366, nat_lit 408240, nat_lit 1152368, nat_lit 1096368, nat_lit 415408, nat_lit 408464, nat_lit 1096592, nat_lit 415632, nat_lit 416976], [nat_lit 1084118, nat_lit 1102038, nat_lit 1084146, nat_lit 1216726, nat_lit 1103382, nat_lit 1102066, nat_lit 1084314, nat_lit 1218070, nat_lit 1216754, nat_lit 1102234, nat_lit 1218098, nat_lit 1216922, nat_lit 1104922, nat_lit 1103410, nat_lit 1218434, nat_lit 1219610, nat_lit 1105090, nat_lit 1103746, nat_lit 1237530, nat_lit 1219778, nat_lit 1237698], [nat_lit 1103494, nat_lit 1218182, nat_lit 1103536, nat_lit 1225350, nat_lit 1218224, nat_lit 1103760, nat_lit 1168006, nat_lit 1225238, nat_lit 1225392, nat_lit 1218448, nat_lit 1105104, nat_lit 1153670, nat_lit 1167894, nat_lit 1168048, nat_lit 1219792, nat_lit 1153712, nat_lit 1153558, nat_lit 1237712, nat_lit 1153936, nat_lit 1151318, nat_lit 1238608, nat_lit 1168272, nat_lit 1151346, nat_lit 1227856, nat_lit 1238594, nat_lit 1225616, nat_lit 1170512, nat_lit 1153586, nat_lit 1227842, nat_lit 1170498, nat_lit 1167922, nat_lit 1153922, nat_lit 1225602, nat_lit 1168258, nat_lit 1225266]]
def kb_T14 : List (List Nat) := [[nat_lit 144494, nat_lit 1061998, nat_lit 144718, nat_lit 1148014, nat_lit 1062222, nat_lit 146062, nat_lit 144753, nat_lit 1155182, nat_lit 1148238, nat_lit 1063566, nat_lit 1062257, nat_lit 153230, nat_lit 146097, nat_lit 1148273, nat_lit 1063601, nat_lit 153265, nat_lit 146321, nat_lit 1063825, nat_lit 153489, nat_lit 154833], [nat_lit 1070734, nat_lit 1214094, nat_lit 1070769, nat_lit 1224846, nat_lit 1214129, nat_lit 1070993, nat_lit 1167502, nat_lit 1225742, nat_lit 1224881, nat_lit 1214353, nat_lit 1072337, nat_lit 1149582, nat_lit 1168398, nat_lit 1167537, nat_lit 1215697, nat_lit 1149617, nat_lit 1157646, nat_lit 1237201, nat_lit 1149841, nat_lit 1155406, nat_lit 1238545, nat_lit 1167761, nat_lit 1155441, nat_lit 1227793, nat_lit 1238657, nat_lit 1225105, nat_lit 1170449, nat_lit 1157681, nat_lit 1227905, nat_lit 1170561, nat_lit 1168433, nat_lit 1158017, nat_lit 1226113, nat_lit 1168769, nat_lit 1225777]]
def kb_T15 : List (List Nat) := [[nat_lit 1155630, nat_lit 1155910, nat_lit 1157702, nat_lit 1155952, nat_lit 1168454, nat_lit 1157744, nat_lit 1225798, nat_lit 1168496, nat_lit 1158024, nat_lit 1225840, nat_lit 1168776, nat_lit 1226120, nat_lit 1170568, nat_lit 1227912, nat_lit 1238664]]
def kb_T16 : List (List Nat) := [[nat_lit 42854, nat_lit 43750, nat_lit 42868, nat_lit 54502, nat_lit 169190, nat_lit 1316070], [nat_lit 43764, nat_lit 54516, nat_lit 43932, nat_lit 169204, nat_lit 54684, nat_lit 1316084, nat_lit 169372, nat_lit 56476, nat_lit 1316252, nat_lit 171164, nat_lit 1318044, nat_lit 189084, nat_lit 1335964, nat_lit 1507996]]
def kb_T17 : List (List Nat) := [[nat_lit 272230, nat_lit 329574, nat_lit 273126, nat_lit 272244, nat_lit 340326, nat_lit 330470, nat_lit 329588, nat_lit 283878, nat_lit 342566, nat_lit 340340, nat_lit 348390, nat_lit 427238, nat_lit 342580, nat_lit 342916], [nat_lit 273140, nat_lit 330484, nat_lit 283892, nat_lit 273308, nat_lit 348404, nat_lit 330652, nat_lit 427252, nat_lit 284060, nat_lit 348572, nat_lit 427420, nat_lit 285852, nat_lit 351260, nat_lit 429212, nat_lit 450716], [nat_lit 342790, nat_lit 349958, nat_lit 342832, nat_lit 435974, nat_lit 349734, nat_lit 350000, nat_lit 342944, nat_lit 1353478, nat_lit 435750, nat_lit 436016, nat_lit 1353254, nat_lit 1353520, nat_lit 434406, nat_lit 1351910, nat_lit 1344742], [nat_lit 349748, nat_lit 435764, nat_lit 350084, nat_lit 1353268, nat_lit 434420, nat_lit 436100, nat_lit 351428, nat_lit 1351924, nat_lit 1353604, nat_lit 434588, nat_lit 351456, nat_lit 1344756, nat_lit 1352092, nat_lit 437276, nat_lit 350112, nat_lit 1344924, nat_lit 1354780, nat_lit 451612, nat_lit 436128, nat_lit 1346716, nat_lit 451780, nat_lit 1353632, nat_lit 437472, nat_lit 1368220, nat_lit 437444, nat_lit 451808, nat_lit 1354976, nat_lit 1511580, nat_lit 1354948, nat_lit 1369312, nat_lit 1512476, nat_lit 1369284, nat_lit 1512672, nat_lit 1369116, nat_lit 1512644]]
def kb_T18 : List (List Nat) := [[nat_lit 71526, nat_lit 530278, nat_lit 78694, nat_lit 72422, nat_lit 71540, nat_lit 531174, nat_lit 530292, nat_lit 80486, nat_lit 78708, nat_lit 86758, nat_lit 545510, nat_lit 80500, nat_lit 688870, nat_lit 80780], [nat_lit 72436, nat_lit 531188, nat_lit 86772, nat_lit 72604, nat_lit 545524, nat_lit 531356, nat_lit 86940, nat_lit 688884, nat_lit 545692, nat_lit 89180, nat_lit 689052, nat_lit 547932, nat_lit 691292, nat_lit 712796], [nat_lit 80654, nat_lit 87822, nat_lit 80689, nat_lit 173838, nat_lit 87654, nat_lit 87857, nat_lit 80801, nat_lit 1320718, nat_lit 173670, nat_lit 173873, nat_lit 1320550, nat_lit 1320753, nat_lit 172774, nat_lit 1319654, nat_lit 1376998], [nat_lit 87668, nat_lit 173684, nat_lit 87948, nat_lit 1320564, nat_lit 172788, nat_lit 173964, nat_lit 89292, nat_lit 1319668, nat_lit 1320844, nat_lit 172956, nat_lit 89313, nat_lit 1377012, nat_lit 1319836, nat_lit 175196, nat_lit 87969, nat_lit 1377180, nat_lit 1322076, nat_lit 189532, nat_lit 173985, nat_lit 1379420, nat_lit 189644, nat_lit 1320865, nat_lit 175329, nat_lit 1400924, nat_lit 175308, nat_lit 189665, nat_lit 1322209, nat_lit 1515612, nat_lit 1322188, nat_lit 1336545, nat_lit 1508444, nat_lit 1336524, nat_lit 1508577, nat_lit 1336412, nat_lit 1508556], [nat_lit 537446, nat_lit 623462, nat_lit 539238, nat_lit 537460, nat_lit 625254, nat_lit 623476, nat_lit 539252, nat_lit 643174, nat_lit 625268, nat_lit 539532, nat_lit 643188, nat_lit 625548, nat_lit 643468, nat_lit 646156], [nat_lit 539406, nat_lit 625422, nat_lit 546574, nat_lit 539441, nat_lit 643342, nat_lit 625457, nat_lit 689934, nat_lit 546406, nat_lit 546609, nat_lit 539553, nat_lit 645134, nat_lit 643377, nat_lit 625569, nat_lit 689766, nat_lit 689969, nat_lit 702478, nat_lit 643489, nat_lit 700518, nat_lit 1390606, nat_lit 700686, nat_lit 646177, nat_lit 1388646, nat_lit 1388814, nat_lit 700721, nat_lit 646401, nat_lit 1377894, nat_lit 1378062, nat_lit 1388849, nat_lit 702513, nat_lit 645505, nat_lit 1378097, nat_lit 1390641, nat_lit 645169, nat_lit 702849, nat_lit 1390977], [nat_lit 546420, nat_lit 689780, nat_lit 546700, nat_lit 700532, nat_lit 690060, nat_lit 548044, nat_lit 1388660, nat_lit 700812, nat_lit 691404, nat_lit 548065, nat_lit 1377908, nat_lit 1388940, nat_lit 703500, nat_lit 712908, nat_lit 691425, nat_lit 546721, nat_lit 1378188, nat_lit 1391628, nat_lit 714252, nat_lit 712929, nat_lit 690081], [nat_lit 700833, nat_lit 1388961, nat_lit 703521, nat_lit 1378209, nat_lit 1391649, nat_lit 714273, nat_lit 703745, nat_lit 1379553, nat_lit 1391873, nat_lit 714497, nat_lit 1401057, nat_lit 1379532, nat_lit 1402625, nat_lit 1515745, nat_lit 1401036, nat_lit 1517313, nat_lit 1402401, nat_lit 1517089, nat_lit 1515724, nat_lit 1402380, nat_lit 1517068]]
def kb_T19 : List (List Nat) := [[nat_lit 558950, nat_lit 569702, nat_lit 559846, nat_lit 558964, nat_lit 627046, nat_lit 571942, nat_lit 569716, nat_lit 577766, nat_lit 629286, nat_lit 627060, nat_lit 571956, nat_lit 692454, nat_lit 643622, nat_lit 629300, nat_lit 572292, nat_lit 693798, nat_lit 643846, nat_lit 643636, nat_lit 629636, nat_lit 579110, nat_lit 694022, nat_lit 629510, nat_lit 643888, nat_lit 643972, nat_lit 579334, nat_lit 694064, nat_lit 572166, nat_lit 629552, nat_lit 646212, nat_lit 579376, nat_lit 572208, nat_lit 629664, nat_lit 646240, nat_lit 572320, nat_lit 644000], [nat_lit 559860, nat_lit 577780, nat_lit 560028, nat_lit 692468, nat_lit 577948, nat_lit 693812, nat_lit 692636, nat_lit 580636, nat_lit 579124, nat_lit 694148, nat_lit 695324, nat_lit 579460, nat_lit 713244, nat_lit 580804, nat_lit 713412, nat_lit 695492, nat_lit 580832, nat_lit 713440, nat_lit 695520, nat_lit 579488, nat_lit 694176], [nat_lit 645190, nat_lit 702534, nat_lit 645232, nat_lit 1390662, nat_lit 701190, nat_lit 702576, nat_lit 645512, nat_lit 1389318, nat_lit 1390704, nat_lit 700966, nat_lit 701232, nat_lit 702856, nat_lit 646408, nat_lit 1382150, nat_lit 1389094, nat_lit 1389360, nat_lit 1390984, nat_lit 1381926, nat_lit 1382192, nat_lit 1380582], [nat_lit 700980, nat_lit 1389108, nat_lit 701316, nat_lit 1381940, nat_lit 1389444, nat_lit 703556, nat_lit 1380596, nat_lit 1382276, nat_lit 1391684, nat_lit 714308, nat_lit 703584, nat_lit 1380764, nat_lit 1391712, nat_lit 714336, nat_lit 701344, nat_lit 1383452, nat_lit 1389472, nat_lit 714504, nat_lit 1401372, nat_lit 1382304, nat_lit 703752, nat_lit 1516060, nat_lit 1401540, nat_lit 1383648, nat_lit 1391880, nat_lit 1516228, nat_lit 1383620, nat_lit 1401568, nat_lit 1402632, nat_lit 1517124, nat_lit 1516256, nat_lit 1517320, nat_lit 1402464, nat_lit 1402436, nat_lit 1517152]]
def kb_T20 : List (List Nat) := [[nat_lit 46438, nat_lit 103782, nat_lit 47782, nat_lit 46452, nat_lit 791910, nat_lit 105126, nat_lit 103796, nat_lit 47796, nat_lit 793254, nat_lit 791924, nat_lit 119462, nat_lit 48020, nat_lit 807590, nat_lit 950950], [nat_lit 47894, nat_lit 55062, nat_lit 47922, nat_lit 169750, nat_lit 54950, nat_lit 55090, nat_lit 48034, nat_lit 1316630, nat_lit 169638, nat_lit 169778, nat_lit 1316518, nat_lit 1316658, nat_lit 176806, nat_lit 1323686, nat_lit 1409702], [nat_lit 54964, nat_lit 169652, nat_lit 55188, nat_lit 1316532, nat_lit 176820, nat_lit 169876, nat_lit 56532, nat_lit 1323700, nat_lit 1316756, nat_lit 177044, nat_lit 56546, nat_lit 1409716, nat_lit 1323924, nat_lit 179284, nat_lit 55202, nat_lit 1409940, nat_lit 1326164, nat_lit 190036, nat_lit 169890, nat_lit 1412180, nat_lit 189140, nat_lit 1316770, nat_lit 171234, nat_lit 1433684, nat_lit 171220, nat_lit 189154, nat_lit 1318114, nat_lit 1519700, nat_lit 1318100, nat_lit 1336034, nat_lit 1508948, nat_lit 1336020, nat_lit 1508066, nat_lit 1336916, nat_lit 1508052], [nat_lit 105140, nat_lit 793268, nat_lit 119476, nat_lit 105364, nat_lit 807604, nat_lit 793492, nat_lit 119700, nat_lit 950964, nat_lit 807828, nat_lit 121940, nat_lit 951188, nat_lit 810068, nat_lit 953428, nat_lit 974932], [nat_lit 105238, nat_lit 793366, nat_lit 119574, nat_lit 105266, nat_lit 807702, nat_lit 793394, nat_lit 120918, nat_lit 119602, nat_lit 105378, nat_lit 951062, nat_lit 809046, nat_lit 807730, nat_lit 793506, nat_lit 178262, nat_lit 119714, nat_lit 952406, nat_lit 951090, nat_lit 1325142, nat_lit 176918, nat_lit 121954, nat_lit 966742, nat_lit 1323798, nat_lit 176946, nat_lit 122122, nat_lit 1425494, nat_lit 1409814, nat_lit 1323826, nat_lit 178290, nat_lit 121226, nat_lit 1411158, nat_lit 1409842, nat_lit 1325170, nat_lit 120946, nat_lit 178570, nat_lit 1325450], [nat_lit 177058, nat_lit 1323938, nat_lit 179298, nat_lit 1409954, nat_lit 1326178, nat_lit 190050, nat_lit 179466, nat_lit 1412194, nat_lit 1326346, nat_lit 190218, nat_lit 1433698, nat_lit 1412362, nat_lit 1337098, nat_lit 1519714, nat_lit 1433866, nat_lit 1509130, nat_lit 1336930, nat_lit 1508962, nat_lit 1519882, nat_lit 1435658, nat_lit 1521674], [nat_lit 807842, nat_lit 951202, nat_lit 810082, nat_lit 953442, nat_lit 810250, nat_lit 974946, nat_lit 953610, nat_lit 809354, nat_lit 975114, nat_lit 952714, nat_lit 809074, nat_lit 976906, nat_lit 952434, nat_lit 969738, nat_lit 966770, nat_lit 1428490, nat_lit 967050, nat_lit 1425522, nat_lit 1425802, nat_lit 1411186, nat_lit 1411466]]
def kb_T21 : List (List Nat) := [[nat_lit 275814, nat_lit 361830, nat_lit 277158, nat_lit 275828, nat_lit 363174, nat_lit 361844, nat_lit 277172, nat_lit 381094, nat_lit 363188, nat_lit 277396, nat_lit 381108, nat_lit 363412, nat_lit 381332, nat_lit 384020], [nat_lit 277270, nat_lit 363286, nat_lit 284438, nat_lit 277298, nat_lit 381206, nat_lit 363314, nat_lit 427798, nat_lit 284326, nat_lit 284466, nat_lit 277410, nat_lit 382998, nat_lit 381234, nat_lit 363426, nat_lit 427686, nat_lit 427826, nat_lit 440342, nat_lit 381346, nat_lit 438438, nat_lit 1357846, nat_lit 438550, nat_lit 384034, nat_lit 1355942, nat_lit 1356054, nat_lit 438578, nat_lit 384258, nat_lit 1345190, nat_lit 1345302, nat_lit 1356082, nat_lit 440370, nat_lit 383362, nat_lit 1345330, nat_lit 1357874, nat_lit 383026, nat_lit 440706, nat_lit 1358210], [nat_lit 284340, nat_lit 427700, nat_lit 284564, nat_lit 438452, nat_lit 427924, nat_lit 285908, nat_lit 1355956, nat_lit 438676, nat_lit 429268, nat_lit 285922, nat_lit 1345204, nat_lit 1356180, nat_lit 441364, nat_lit 450772, nat_lit 429282, nat_lit 284578, nat_lit 1345428, nat_lit 1358868, nat_lit 452116, nat_lit 450786, nat_lit 427938], [nat_lit 368998, nat_lit 827750, nat_lit 371238, nat_lit 369012, nat_lit 820582, nat_lit 829990, nat_lit 827764, nat_lit 381990, nat_lit 371252, nat_lit 821926, nat_lit 820596, nat_lit 830004, nat_lit 382214, nat_lit 382004, nat_lit 371588, nat_lit 839846, nat_lit 830340, nat_lit 371462, nat_lit 382256, nat_lit 382340, nat_lit 954534, nat_lit 830214, nat_lit 371504, nat_lit 384132, nat_lit 955430, nat_lit 840966, nat_lit 830256, nat_lit 371616, nat_lit 384160, nat_lit 840742, nat_lit 955654, nat_lit 841008, nat_lit 830368, nat_lit 382368, nat_lit 955696], [nat_lit 383110, nat_lit 440454, nat_lit 383152, nat_lit 1357958, nat_lit 439558, nat_lit 440496, nat_lit 383376, nat_lit 1357062, nat_lit 1358000, nat_lit 439334, nat_lit 439600, nat_lit 440720, nat_lit 384272, nat_lit 1414406, nat_lit 1356838, nat_lit 1357104, nat_lit 1358224, nat_lit 1414182, nat_lit 1414448, nat_lit 1413286], [nat_lit 438690, nat_lit 1356194, nat_lit 441378, nat_lit 1345442, nat_lit 1358882, nat_lit 452130, nat_lit 441602, nat_lit 1346786, nat_lit 1359106, nat_lit 452354, nat_lit 1368290, nat_lit 1346772, nat_lit 1369858, nat_lit 1511650, nat_lit 1368276, nat_lit 1513218, nat_lit 1369634, nat_lit 1512994, nat_lit 1511636, nat_lit 1369620, nat_lit 1512980], [nat_lit 439348, nat_lit 1356852, nat_lit 439684, nat_lit 1414196, nat_lit 1357188, nat_lit 441476, nat_lit 1413300, nat_lit 1414532, nat_lit 1358980, nat_lit 452228, nat_lit 441504, nat_lit 1413524, nat_lit 1359008, nat_lit 452256, nat_lit 439712, nat_lit 1416212, nat_lit 1357216, nat_lit 452368, nat_lit 1434132, nat_lit 1414560, nat_lit 441616, nat_lit 1520148, nat_lit 1434244, nat_lit 1416352, nat_lit 1359120, nat_lit 1520260, nat_lit 1416324, nat_lit 1434272, nat_lit 1369872, nat_lit 1513092, nat_lit 1520288, nat_lit 1513232, nat_lit 1369760, nat_lit 1369732, nat_lit 1513120], [nat_lit 821940, nat_lit 839860, nat_lit 822164, nat_lit 954548, nat_lit 840084, nat_lit 955444, nat_lit 954772, nat_lit 842772, nat_lit 840756, nat_lit 955780, nat_lit 957460, nat_lit 841092, nat_lit 975380, nat_lit 842884, nat_lit 975492, nat_lit 957572, nat_lit 842912, nat_lit 975520, nat_lit 957600, nat_lit 841120, nat_lit 955808], [nat_lit 822038, nat_lit 839958, nat_lit 822066, nat_lit 954646, nat_lit 841750, nat_lit 839986, nat_lit 822178, nat_lit 956438, nat_lit 954674, nat_lit 840098, nat_lit 956466, nat_lit 954786, nat_lit 842786, nat_lit 841778, nat_lit 956802, nat_lit 957474, nat_lit 843010, nat_lit 842114, nat_lit 975394, nat_lit 957698, nat_lit 975618], [nat_lit 841862, nat_lit 956550, nat_lit 841904, nat_lit 967302, nat_lit 956592, nat_lit 842128, nat_lit 1426054, nat_lit 967190, nat_lit 967344, nat_lit 956816, nat_lit 843024, nat_lit 1415302, nat_lit 1425942, nat_lit 1426096, nat_lit 957712, nat_lit 1415344, nat_lit 1415190, nat_lit 975632, nat_lit 1415568, nat_lit 1413398, nat_lit 976976, nat_lit 1426320, nat_lit 1413426, nat_lit 969808, nat_lit 976962, nat_lit 967568, nat_lit 1428560, nat_lit 1415218, nat_lit 969794, nat_lit 1428546, nat_lit 1425970, nat_lit 1415554, nat_lit 967554, nat_lit 1426306, nat_lit 967218], [nat_lit 1413538, nat_lit 1416226, nat_lit 1434146, nat_lit 1416450, nat_lit 1520162, nat_lit 1434370, nat_lit 1520386, nat_lit 1521730, nat_lit 1435714, nat_lit 1521744, nat_lit 1435728, nat_lit 1520400, nat_lit 1434384, nat_lit 1416464]]
def kb_T22 : List (List Nat) := [[nat_lit 107366, nat_lit 795494, nat_lit 109158, nat_lit 107380, nat_lit 852838, nat_lit 797286, nat_lit 795508, nat_lit 119910, nat_lit 109172, nat_lit 854630, nat_lit 852852, nat_lit 797300, nat_lit 120078, nat_lit 119924, nat_lit 109452, nat_lit 872550, nat_lit 797580, nat_lit 109326, nat_lit 120113, nat_lit 120204, nat_lit 958566, nat_lit 797454, nat_lit 109361, nat_lit 121996, nat_lit 951398, nat_lit 808206, nat_lit 797489, nat_lit 109473, nat_lit 122017, nat_lit 808038, nat_lit 951566, nat_lit 808241, nat_lit 797601, nat_lit 120225, nat_lit 951601], [nat_lit 120974, nat_lit 178318, nat_lit 121009, nat_lit 1325198, nat_lit 177422, nat_lit 178353, nat_lit 121233, nat_lit 1324302, nat_lit 1325233, nat_lit 177254, nat_lit 177457, nat_lit 178577, nat_lit 122129, nat_lit 1410318, nat_lit 1324134, nat_lit 1324337, nat_lit 1325457, nat_lit 1410150, nat_lit 1410353, nat_lit 1417318], [nat_lit 177268, nat_lit 1324148, nat_lit 177548, nat_lit 1410164, nat_lit 1324428, nat_lit 179340, nat_lit 1417332, nat_lit 1410444, nat_lit 1326220, nat_lit 190092, nat_lit 179361, nat_lit 1417612, nat_lit 1326241, nat_lit 190113, nat_lit 177569, nat_lit 1420300, nat_lit 1324449, nat_lit 190225, nat_lit 1434636, nat_lit 1410465, nat_lit 179473, nat_lit 1520652, nat_lit 1433740, nat_lit 1412257, nat_lit 1326353, nat_lit 1519756, nat_lit 1412236, nat_lit 1433761, nat_lit 1337105, nat_lit 1509004, nat_lit 1519777, nat_lit 1509137, nat_lit 1336993, nat_lit 1336972, nat_lit 1509025], [nat_lit 808052, nat_lit 951412, nat_lit 808332, nat_lit 958580, nat_lit 951692, nat_lit 810124, nat_lit 872564, nat_lit 958860, nat_lit 953484, nat_lit 810145, nat_lit 854644, nat_lit 872844, nat_lit 961548, nat_lit 974988, nat_lit 953505, nat_lit 808353, nat_lit 854924, nat_lit 875532, nat_lit 975884, nat_lit 975009, nat_lit 951713], [nat_lit 809102, nat_lit 952462, nat_lit 809137, nat_lit 966798, nat_lit 952497, nat_lit 809361, nat_lit 1425550, nat_lit 967694, nat_lit 966833, nat_lit 952721, nat_lit 810257, nat_lit 1411214, nat_lit 1426446, nat_lit 1425585, nat_lit 953617, nat_lit 1411249, nat_lit 1419278, nat_lit 975121, nat_lit 1411473, nat_lit 1417486, nat_lit 976913, nat_lit 1425809, nat_lit 1417521, nat_lit 969745, nat_lit 977025, nat_lit 967057, nat_lit 1428497, nat_lit 1419313, nat_lit 969857, nat_lit 1428609, nat_lit 1426481, nat_lit 1419649, nat_lit 968065, nat_lit 1426817, nat_lit 967729], [nat_lit 854798, nat_lit 872718, nat_lit 854833, nat_lit 958734, nat_lit 874510, nat_lit 872753, nat_lit 854945, nat_lit 960526, nat_lit 958769, nat_lit 872865, nat_lit 960561, nat_lit 958881, nat_lit 875553, nat_lit 874545, nat_lit 960897, nat_lit 961569, nat_lit 875777, nat_lit 874881, nat_lit 975905, nat_lit 961793, nat_lit 976129], [nat_lit 1412369, nat_lit 1433873, nat_lit 1519889, nat_lit 1435665, nat_lit 1521681, nat_lit 1435777, nat_lit 1521793, nat_lit 1520897, nat_lit 1434881, nat_lit 1520673, nat_lit 1420545, nat_lit 1434657, nat_lit 1420321, nat_lit 1417633]]
def kb_T23 : List (List Nat) := [[nat_lit 856422, nat_lit 858662, nat_lit 856436, nat_lit 872998, nat_lit 858676, nat_lit 959014, nat_lit 873222, nat_lit 873012, nat_lit 859012, nat_lit 959238, nat_lit 858886, nat_lit 873264, nat_lit 959028, nat_lit 873348, nat_lit 960582, nat_lit 959280, nat_lit 858928, nat_lit 959364, nat_lit 875588, nat_lit 874566, nat_lit 960624, nat_lit 859040, nat_lit 961604, nat_lit 875616, nat_lit 874608, nat_lit 960904, nat_lit 873376, nat_lit 975940, nat_lit 961632, nat_lit 874888, nat_lit 959392, nat_lit 975968, nat_lit 875784, nat_lit 976136, nat_lit 961800], [nat_lit 967750, nat_lit 1426502, nat_lit 967792, nat_lit 1419334, nat_lit 1426544, nat_lit 968072, nat_lit 1417990, nat_lit 1419376, nat_lit 1426824, nat_lit 969864, nat_lit 1417766, nat_lit 1418032, nat_lit 1419656, nat_lit 1428616, nat_lit 977032], [nat_lit 1417780, nat_lit 1418116, nat_lit 1420356, nat_lit 1434692, nat_lit 1420384, nat_lit 1520708, nat_lit 1434720, nat_lit 1418144, nat_lit 1520736, nat_lit 1434888, nat_lit 1520904, nat_lit 1420552, nat_lit 1521800, nat_lit 1435784]]
def kb_T24 : List (List Nat) := [[nat_lit 43806, nat_lit 54558, nat_lit 43827, nat_lit 169246, nat_lit 55454, nat_lit 54579, nat_lit 43939, nat_lit 1316126, nat_lit 170142, nat_lit 169267, nat_lit 1317022, nat_lit 1316147, nat_lit 180894, nat_lit 1327774, nat_lit 1442462], [nat_lit 54691, nat_lit 169379, nat_lit 56483, nat_lit 1316259, nat_lit 171171, nat_lit 56595, nat_lit 1318051, nat_lit 189091, nat_lit 171283, nat_lit 55699, nat_lit 1335971, nat_lit 1318163, nat_lit 189203, nat_lit 170387, nat_lit 55475, nat_lit 1508003, nat_lit 1336083, nat_lit 190547, nat_lit 1317267, nat_lit 170163, nat_lit 1508115, nat_lit 1337427, nat_lit 183379, nat_lit 1317043, nat_lit 180915, nat_lit 1509459, nat_lit 1330259, nat_lit 181139, nat_lit 1327795, nat_lit 1523795, nat_lit 1328019, nat_lit 1442483, nat_lit 1466451, nat_lit 1442707, nat_lit 1444947]]
def kb_T25 : List (List Nat) := [[nat_lit 273182, nat_lit 330526, nat_lit 283934, nat_lit 273203, nat_lit 348446, nat_lit 330547, nat_lit 427294, nat_lit 284830, nat_lit 283955, nat_lit 273315, nat_lit 350238, nat_lit 348467, nat_lit 330659, nat_lit 428190, nat_lit 427315, nat_lit 436254, nat_lit 348579, nat_lit 442526, nat_lit 1353758, nat_lit 434462, nat_lit 351267, nat_lit 1360030, nat_lit 1351966, nat_lit 434483, nat_lit 351491, nat_lit 1345694, nat_lit 1344798, nat_lit 1351987, nat_lit 436275, nat_lit 350595, nat_lit 1344819, nat_lit 1353779, nat_lit 350259, nat_lit 436611, nat_lit 1354115], [nat_lit 284067, nat_lit 427427, nat_lit 285859, nat_lit 429219, nat_lit 285971, nat_lit 450723, nat_lit 429331, nat_lit 285075, nat_lit 450835, nat_lit 428435, nat_lit 284851, nat_lit 452627, nat_lit 428211, nat_lit 445459, nat_lit 442547, nat_lit 1362963, nat_lit 442771, nat_lit 1360051, nat_lit 1360275, nat_lit 1345715, nat_lit 1345939], [nat_lit 350406, nat_lit 436422, nat_lit 350448, nat_lit 1353926, nat_lit 443590, nat_lit 436464, nat_lit 350616, nat_lit 1361094, nat_lit 1353968, nat_lit 443422, nat_lit 443632, nat_lit 436632, nat_lit 351512, nat_lit 1447110, nat_lit 1360926, nat_lit 1361136, nat_lit 1354136, nat_lit 1446942, nat_lit 1447152, nat_lit 1446046], [nat_lit 434595, nat_lit 1352099, nat_lit 437283, nat_lit 1344931, nat_lit 1354787, nat_lit 451619, nat_lit 437507, nat_lit 1346723, nat_lit 1355011, nat_lit 451843, nat_lit 1368227, nat_lit 1346835, nat_lit 1369347, nat_lit 1511587, nat_lit 1368339, nat_lit 1512707, nat_lit 1369123, nat_lit 1512483, nat_lit 1511699, nat_lit 1370131, nat_lit 1513491], [nat_lit 437528, nat_lit 1355032, nat_lit 451864, nat_lit 1369368, nat_lit 452760, nat_lit 1512728, nat_lit 1370264, nat_lit 445592, nat_lit 452739, nat_lit 1513624, nat_lit 1370243, nat_lit 1363096, nat_lit 443800, nat_lit 445571, nat_lit 1524376, nat_lit 1513603, nat_lit 1361304, nat_lit 1363075, nat_lit 443779, nat_lit 1467032, nat_lit 1524355, nat_lit 1447320, nat_lit 1361283, nat_lit 443443, nat_lit 1449112, nat_lit 1467011, nat_lit 1524243, nat_lit 1447299, nat_lit 1360947, nat_lit 1449091, nat_lit 1466899, nat_lit 1446963, nat_lit 1448979, nat_lit 1446067, nat_lit 1446291]]
def kb_T26 : List (List Nat) := [[nat_lit 72478, nat_lit 531230, nat_lit 86814, nat_lit 72499, nat_lit 545566, nat_lit 531251, nat_lit 88158, nat_lit 86835, nat_lit 72611, nat_lit 688926, nat_lit 546910, nat_lit 545587, nat_lit 531363, nat_lit 174174, nat_lit 86947, nat_lit 690270, nat_lit 688947, nat_lit 1321054, nat_lit 172830, nat_lit 89187, nat_lit 704606, nat_lit 1319710, nat_lit 172851, nat_lit 89355, nat_lit 1392734, nat_lit 1377054, nat_lit 1319731, nat_lit 174195, nat_lit 88459, nat_lit 1378398, nat_lit 1377075, nat_lit 1321075, nat_lit 88179, nat_lit 174475, nat_lit 1321355], [nat_lit 88270, nat_lit 174286, nat_lit 88305, nat_lit 1321166, nat_lit 181454, nat_lit 174321, nat_lit 88473, nat_lit 1328334, nat_lit 1321201, nat_lit 181342, nat_lit 181489, nat_lit 174489, nat_lit 89369, nat_lit 1443022, nat_lit 1328222, nat_lit 1328369, nat_lit 1321369, nat_lit 1442910, nat_lit 1443057, nat_lit 1450078], [nat_lit 172963, nat_lit 1319843, nat_lit 175203, nat_lit 1377187, nat_lit 1322083, nat_lit 189539, nat_lit 175371, nat_lit 1379427, nat_lit 1322251, nat_lit 189707, nat_lit 1400931, nat_lit 1379595, nat_lit 1336587, nat_lit 1515619, nat_lit 1401099, nat_lit 1508619, nat_lit 1336419, nat_lit 1508451, nat_lit 1515787, nat_lit 1402891, nat_lit 1517579], [nat_lit 175385, nat_lit 1322265, nat_lit 189721, nat_lit 1336601, nat_lit 190617, nat_lit 1508633, nat_lit 1337497, nat_lit 183449, nat_lit 190603, nat_lit 1509529, nat_lit 1337483, nat_lit 1330329, nat_lit 181657, nat_lit 183435, nat_lit 1523865, nat_lit 1509515, nat_lit 1328537, nat_lit 1330315, nat_lit 181643, nat_lit 1466521, nat_lit 1523851, nat_lit 1443225, nat_lit 1328523, nat_lit 181363, nat_lit 1445017, nat_lit 1466507, nat_lit 1524747, nat_lit 1443211, nat_lit 1328243, nat_lit 1445003, nat_lit 1467403, nat_lit 1442931, nat_lit 1453067, nat_lit 1450099, nat_lit 1450379], [nat_lit 545699, nat_lit 689059, nat_lit 547939, nat_lit 691299, nat_lit 548107, nat_lit 712803, nat_lit 691467, nat_lit 547211, nat_lit 712971, nat_lit 690571, nat_lit 546931, nat_lit 714763, nat_lit 690291, nat_lit 707595, nat_lit 704627, nat_lit 1395723, nat_lit 704907, nat_lit 1392755, nat_lit 1393035, nat_lit 1378419, nat_lit 1378699], [nat_lit 547022, nat_lit 690382, nat_lit 547057, nat_lit 704718, nat_lit 690417, nat_lit 547225, nat_lit 1392846, nat_lit 706062, nat_lit 704753, nat_lit 690585, nat_lit 548121, nat_lit 1378510, nat_lit 1394190, nat_lit 1392881, nat_lit 691481, nat_lit 1378545, nat_lit 1451534, nat_lit 712985, nat_lit 1378713, nat_lit 1450190, nat_lit 714777, nat_lit 1393049, nat_lit 1450225, nat_lit 707609, nat_lit 714945, nat_lit 704921, nat_lit 1395737, nat_lit 1451569, nat_lit 707777, nat_lit 1395905, nat_lit 1394225, nat_lit 1451905, nat_lit 706433, nat_lit 1394561, nat_lit 706097], [nat_lit 1379609, nat_lit 1401113, nat_lit 1515801, nat_lit 1402905, nat_lit 1517593, nat_lit 1403073, nat_lit 1517761, nat_lit 1524929, nat_lit 1467585, nat_lit 1524761, nat_lit 1453249, nat_lit 1467417, nat_lit 1453081, nat_lit 1450393]]
def kb_T27 : List (List Nat) := [[nat_lit 559902, nat_lit 577822, nat_lit 559923, nat_lit 692510, nat_lit 579614, nat_lit 577843, nat_lit 560035, nat_lit 694302, nat_lit 692531, nat_lit 577955, nat_lit 694323, nat_lit 692643, nat_lit 580643, nat_lit 579635, nat_lit 694659, nat_lit 695331, nat_lit 580867, nat_lit 579971, nat_lit 713251, nat_lit 695555, nat_lit 713475], [nat_lit 579782, nat_lit 694470, nat_lit 579824, nat_lit 705222, nat_lit 694512, nat_lit 579992, nat_lit 1393350, nat_lit 705054, nat_lit 705264, nat_lit 694680, nat_lit 580888, nat_lit 1382598, nat_lit 1393182, nat_lit 1393392, nat_lit 695576, nat_lit 1382640, nat_lit 1382430, nat_lit 713496, nat_lit 1382808, nat_lit 1380638, nat_lit 714840, nat_lit 1393560, nat_lit 1380659, nat_lit 707672, nat_lit 714819, nat_lit 705432, nat_lit 1395800, nat_lit 1382451, nat_lit 707651, nat_lit 1395779, nat_lit 1393203, nat_lit 1382787, nat_lit 705411, nat_lit 1393539, nat_lit 705075], [nat_lit 706118, nat_lit 1394246, nat_lit 706160, nat_lit 1451590, nat_lit 1394288, nat_lit 706440, nat_lit 1450694, nat_lit 1451632, nat_lit 1394568, nat_lit 707784, nat_lit 1450526, nat_lit 1450736, nat_lit 1451912, nat_lit 1395912, nat_lit 714952], [nat_lit 1380771, nat_lit 1383459, nat_lit 1401379, nat_lit 1383683, nat_lit 1516067, nat_lit 1401603, nat_lit 1516291, nat_lit 1517635, nat_lit 1402947, nat_lit 1517656, nat_lit 1402968, nat_lit 1516312, nat_lit 1401624, nat_lit 1383704], [nat_lit 1403080, nat_lit 1517768, nat_lit 1524936, nat_lit 1467592, nat_lit 1524824, nat_lit 1453256, nat_lit 1467480, nat_lit 1524803, nat_lit 1453144, nat_lit 1467459, nat_lit 1450904, nat_lit 1453123, nat_lit 1450883, nat_lit 1450547]]
def kb_T28 : List (List Nat) := [[nat_lit 55510, nat_lit 170198, nat_lit 55538, nat_lit 1317078, nat_lit 180950, nat_lit 170226, nat_lit 55706, nat_lit 1327830, nat_lit 1317106, nat_lit 181846, nat_lit 180978, nat_lit 170394, nat_lit 56602, nat_lit 1442518, nat_lit 1328726, nat_lit 1327858, nat_lit 1317274, nat_lit 1443414, nat_lit 1442546, nat_lit 1454166], [nat_lit 171290, nat_lit 1318170, nat_lit 189210, nat_lit 1336090, nat_lit 190554, nat_lit 1508122, nat_lit 1337434, nat_lit 183386, nat_lit 190666, nat_lit 1509466, nat_lit 1337546, nat_lit 1330266, nat_lit 181146, nat_lit 183498, nat_lit 1523802, nat_lit 1509578, nat_lit 1328026, nat_lit 1330378, nat_lit 182154, nat_lit 1466458, nat_lit 1523914, nat_lit 1442714, nat_lit 1329034, nat_lit 181874, nat_lit 1444954, nat_lit 1466570, nat_lit 1525258, nat_lit 1443722, nat_lit 1328754, nat_lit 1445066, nat_lit 1467914, nat_lit 1443442, nat_lit 1457162, nat_lit 1454194, nat_lit 1454474]]
def kb_T29 : List (List Nat) := [[nat_lit 284886, nat_lit 428246, nat_lit 284914, nat_lit 442582, nat_lit 428274, nat_lit 285082, nat_lit 1360086, nat_lit 443926, nat_lit 442610, nat_lit 428442, nat_lit 285978, nat_lit 1345750, nat_lit 1361430, nat_lit 1360114, nat_lit 429338, nat_lit 1345778, nat_lit 1447446, nat_lit 450842, nat_lit 1345946, nat_lit 1446102, nat_lit 452634, nat_lit 1360282, nat_lit 1446130, nat_lit 445466, nat_lit 452802, nat_lit 442778, nat_lit 1362970, nat_lit 1447474, nat_lit 445634, nat_lit 1363138, nat_lit 1361458, nat_lit 1447810, nat_lit 444290, nat_lit 1361794, nat_lit 443954], [nat_lit 444038, nat_lit 1361542, nat_lit 444080, nat_lit 1447558, nat_lit 1361584, nat_lit 444304, nat_lit 1454726, nat_lit 1447600, nat_lit 1361808, nat_lit 445648, nat_lit 1454614, nat_lit 1454768, nat_lit 1447824, nat_lit 1363152, nat_lit 452816], [nat_lit 1346842, nat_lit 1368346, nat_lit 1511706, nat_lit 1370138, nat_lit 1513498, nat_lit 1370306, nat_lit 1513666, nat_lit 1524418, nat_lit 1467074, nat_lit 1524250, nat_lit 1449154, nat_lit 1466906, nat_lit 1448986, nat_lit 1446298], [nat_lit 1370320, nat_lit 1513680, nat_lit 1524432, nat_lit 1467088, nat_lit 1525328, nat_lit 1449168, nat_lit 1467984, nat_lit 1525314, nat_lit 1457232, nat_lit 1467970, nat_lit 1454992, nat_lit 1457218, nat_lit 1454978, nat_lit 1454642]]
def kb_T30 : List (List Nat) := [[nat_lit 181902, nat_lit 1328782, nat_lit 181937, nat_lit 1443470, nat_lit 1328817, nat_lit 182161, nat_lit 1454222, nat_lit 1443505, nat_lit 1329041, nat_lit 183505, nat_lit 1455118, nat_lit 1454257, nat_lit 1443729, nat_lit 1330385, nat_lit 190673], [nat_lit 1337553, nat_lit 1509585, nat_lit 1523921, nat_lit 1466577, nat_lit 1525265, nat_lit 1445073, nat_lit 1467921, nat_lit 1525377, nat_lit 1457169, nat_lit 1468033, nat_lit 1454481, nat_lit 1457281, nat_lit 1455489, nat_lit 1455153]]
def kb_T31 : List (List Nat) := [[nat_lit 1455174, nat_lit 1455216, nat_lit 1455496, nat_lit 1457288, nat_lit 1468040, nat_lit 1525384]]
def kb_T32 : List (List Nat) := [[nat_lit 42805, nat_lit 42917, nat_lit 44261, nat_lit 58597, nat_lit 201957, nat_lit 1578213]]
def kb_T33 : List (List Nat) := [[nat_lit 272181, nat_lit 329525, nat_lit 272293, nat_lit 340277, nat_lit 329637, nat_lit 273637, nat_lit 342069, nat_lit 340389, nat_lit 330981, nat_lit 287973, nat_lit 342405, nat_lit 343077, nat_lit 352485, nat_lit 460005], [nat_lit 342440, nat_lit 343336, nat_lit 354088, nat_lit 343301, nat_lit 468776, nat_lit 354053, nat_lit 1615656, nat_lit 468741, nat_lit 353829, nat_lit 1615621, nat_lit 468517, nat_lit 1615397, nat_lit 467173, nat_lit 1614053, nat_lit 1606885]]
def kb_T34 : List (List Nat) := [[nat_lit 71477, nat_lit 530229, nat_lit 78645, nat_lit 71589, nat_lit 530341, nat_lit 79989, nat_lit 78757, nat_lit 72933, nat_lit 531685, nat_lit 80269, nat_lit 80997, nat_lit 90853, nat_lit 549605, nat_lit 721637], [nat_lit 80297, nat_lit 81193, nat_lit 91945, nat_lit 81165, nat_lit 206633, nat_lit 91917, nat_lit 1582889, nat_lit 206605, nat_lit 91749, nat_lit 1582861, nat_lit 206437, nat_lit 1582693, nat_lit 205541, nat_lit 1581797, nat_lit 1639141], [nat_lit 537397, nat_lit 623413, nat_lit 538741, nat_lit 537509, nat_lit 623525, nat_lit 624757, nat_lit 539021, nat_lit 539749, nat_lit 625765, nat_lit 639093, nat_lit 625037, nat_lit 647269, nat_lit 639373, nat_lit 642061], [nat_lit 539049, nat_lit 625065, nat_lit 539945, nat_lit 639401, nat_lit 625961, nat_lit 550697, nat_lit 539917, nat_lit 642089, nat_lit 647465, nat_lit 625933, nat_lit 722729, nat_lit 550669, nat_lit 642369, nat_lit 647437, nat_lit 722701, nat_lit 550501, nat_lit 649537, nat_lit 649229, nat_lit 722533, nat_lit 735553, nat_lit 649257, nat_lit 735245, nat_lit 733285, nat_lit 1653057, nat_lit 735273, nat_lit 1652749, nat_lit 733453, nat_lit 1650789, nat_lit 1652777, nat_lit 733481, nat_lit 1650957, nat_lit 1640037, nat_lit 1650985, nat_lit 1640205, nat_lit 1640233]]
def kb_T35 : List (List Nat) := [[nat_lit 558901, nat_lit 569653, nat_lit 559013, nat_lit 626997, nat_lit 571445, nat_lit 569765, nat_lit 560357, nat_lit 628789, nat_lit 627109, nat_lit 571781, nat_lit 572453, nat_lit 581861, nat_lit 639541, nat_lit 629125, nat_lit 629797, nat_lit 725221, nat_lit 639877, nat_lit 647717, nat_lit 726565, nat_lit 642117, nat_lit 647941, nat_lit 583205, nat_lit 726789, nat_lit 642152, nat_lit 630021, nat_lit 647976, nat_lit 583429, nat_lit 726824, nat_lit 639912, nat_lit 572677, nat_lit 630056, nat_lit 583464, nat_lit 629160, nat_lit 572712, nat_lit 571816], [nat_lit 642376, nat_lit 649544, nat_lit 735560, nat_lit 649320, nat_lit 1653064, nat_lit 735336, nat_lit 649285, nat_lit 1652840, nat_lit 733992, nat_lit 735301, nat_lit 1651496, nat_lit 1652805, nat_lit 733957, nat_lit 1644328, nat_lit 1651461, nat_lit 733733, nat_lit 1644293, nat_lit 1651237, nat_lit 1644069, nat_lit 1642725]]
def kb_T36 : List (List Nat) := [[nat_lit 46389, nat_lit 103733, nat_lit 47285, nat_lit 46501, nat_lit 791861, nat_lit 103845, nat_lit 47509, nat_lit 48293, nat_lit 791973, nat_lit 105637, nat_lit 793765, nat_lit 123557, nat_lit 811685, nat_lit 983717], [nat_lit 47530, nat_lit 48426, nat_lit 59178, nat_lit 48405, nat_lit 202538, nat_lit 59157, nat_lit 1578794, nat_lit 202517, nat_lit 59045, nat_lit 1578773, nat_lit 202405, nat_lit 1578661, nat_lit 209573, nat_lit 1585829, nat_lit 1671845], [nat_lit 104629, nat_lit 792757, nat_lit 115381, nat_lit 104853, nat_lit 803509, nat_lit 792981, nat_lit 115605, nat_lit 918197, nat_lit 803733, nat_lit 117845, nat_lit 918421, nat_lit 805973, nat_lit 920661, nat_lit 942165], [nat_lit 104874, nat_lit 793002, nat_lit 115626, nat_lit 105770, nat_lit 793898, nat_lit 117866, nat_lit 123690, nat_lit 105749, nat_lit 811818, nat_lit 793877, nat_lit 118090, nat_lit 123669, nat_lit 983850, nat_lit 811797, nat_lit 125258, nat_lit 125013, nat_lit 983829, nat_lit 813141, nat_lit 211274, nat_lit 125034, nat_lit 211029, nat_lit 985173, nat_lit 1587530, nat_lit 211050, nat_lit 1587285, nat_lit 209685, nat_lit 999509, nat_lit 1587306, nat_lit 209706, nat_lit 1585941, nat_lit 1687637, nat_lit 1585962, nat_lit 1671957, nat_lit 1673301, nat_lit 1671978], [nat_lit 803754, nat_lit 918442, nat_lit 805994, nat_lit 920682, nat_lit 806218, nat_lit 942186, nat_lit 920906, nat_lit 813386, nat_lit 942410, nat_lit 985418, nat_lit 813162, nat_lit 944650, nat_lit 985194, nat_lit 1001994, nat_lit 999530, nat_lit 1690122, nat_lit 999754, nat_lit 1687658, nat_lit 1687882, nat_lit 1673322, nat_lit 1673546]]
def kb_T37 : List (List Nat) := [[nat_lit 275765, nat_lit 361781, nat_lit 276661, nat_lit 275877, nat_lit 361893, nat_lit 362677, nat_lit 276885, nat_lit 277669, nat_lit 363685, nat_lit 377013, nat_lit 362901, nat_lit 385189, nat_lit 377237, nat_lit 379925], [nat_lit 276906, nat_lit 362922, nat_lit 277802, nat_lit 377258, nat_lit 363818, nat_lit 288554, nat_lit 277781, nat_lit 379946, nat_lit 385322, nat_lit 363797, nat_lit 460586, nat_lit 288533, nat_lit 380226, nat_lit 385301, nat_lit 460565, nat_lit 288421, nat_lit 387394, nat_lit 387093, nat_lit 460453, nat_lit 473410, nat_lit 387114, nat_lit 473109, nat_lit 471205, nat_lit 1620290, nat_lit 473130, nat_lit 1619989, nat_lit 471317, nat_lit 1618085, nat_lit 1620010, nat_lit 471338, nat_lit 1618197, nat_lit 1607333, nat_lit 1618218, nat_lit 1607445, nat_lit 1607466], [nat_lit 368949, nat_lit 827701, nat_lit 370741, nat_lit 369061, nat_lit 820533, nat_lit 829493, nat_lit 827813, nat_lit 377909, nat_lit 371077, nat_lit 371749, nat_lit 820645, nat_lit 829829, nat_lit 830501, nat_lit 378245, nat_lit 386085, nat_lit 822437, nat_lit 380037, nat_lit 386309, nat_lit 843941, nat_lit 380072, nat_lit 371973, nat_lit 386344, nat_lit 987301, nat_lit 378280, nat_lit 830725, nat_lit 372008, nat_lit 988197, nat_lit 371112, nat_lit 845061, nat_lit 830760, nat_lit 844837, nat_lit 988421, nat_lit 829864, nat_lit 845096, nat_lit 988456], [nat_lit 380240, nat_lit 387408, nat_lit 473424, nat_lit 387240, nat_lit 1620304, nat_lit 473256, nat_lit 387205, nat_lit 1620136, nat_lit 472360, nat_lit 473221, nat_lit 1619240, nat_lit 1620101, nat_lit 472325, nat_lit 1676584, nat_lit 1619205, nat_lit 472101, nat_lit 1676549, nat_lit 1618981, nat_lit 1676325, nat_lit 1675429], [nat_lit 821429, nat_lit 835765, nat_lit 821653, nat_lit 921781, nat_lit 835989, nat_lit 922677, nat_lit 922005, nat_lit 838677, nat_lit 836661, nat_lit 923013, nat_lit 924693, nat_lit 836997, nat_lit 942613, nat_lit 838789, nat_lit 942725, nat_lit 924805, nat_lit 838824, nat_lit 942760, nat_lit 924840, nat_lit 837032, nat_lit 923048], [nat_lit 821674, nat_lit 836010, nat_lit 822570, nat_lit 922026, nat_lit 838698, nat_lit 844074, nat_lit 822549, nat_lit 924714, nat_lit 838978, nat_lit 987434, nat_lit 844053, nat_lit 942634, nat_lit 924994, nat_lit 846146, nat_lit 989226, nat_lit 987413, nat_lit 845845, nat_lit 942914, nat_lit 989506, nat_lit 845866, nat_lit 989205], [nat_lit 838992, nat_lit 925008, nat_lit 846160, nat_lit 942928, nat_lit 989520, nat_lit 845992, nat_lit 944720, nat_lit 989352, nat_lit 845957, nat_lit 1002064, nat_lit 944706, nat_lit 1000104, nat_lit 989317, nat_lit 1690192, nat_lit 1000272, nat_lit 1002050, nat_lit 1688232, nat_lit 1000069, nat_lit 1688400, nat_lit 1690178, nat_lit 1000258, nat_lit 1677480, nat_lit 1688197, nat_lit 999957, nat_lit 1677648, nat_lit 1688386, nat_lit 999978, nat_lit 1677445, nat_lit 1688085, nat_lit 1677634, nat_lit 1688106, nat_lit 1677333, nat_lit 1677354, nat_lit 1675541, nat_lit 1675562]]
def kb_T38 : List (List Nat) := [[nat_lit 107317, nat_lit 795445, nat_lit 108661, nat_lit 107429, nat_lit 852789, nat_lit 796789, nat_lit 795557, nat_lit 115829, nat_lit 108941, nat_lit 109669, nat_lit 852901, nat_lit 797069, nat_lit 797797, nat_lit 116109, nat_lit 124005, nat_lit 855141, nat_lit 117901, nat_lit 124173, nat_lit 876645, nat_lit 117929, nat_lit 109837, nat_lit 124201, nat_lit 991333, nat_lit 116137, nat_lit 797965, nat_lit 109865, nat_lit 984165, nat_lit 108969, nat_lit 812301, nat_lit 797993, nat_lit 812133, nat_lit 984333, nat_lit 797097, nat_lit 812329, nat_lit 984361], [nat_lit 118097, nat_lit 125265, nat_lit 211281, nat_lit 125097, nat_lit 1587537, nat_lit 211113, nat_lit 125069, nat_lit 1587369, nat_lit 210217, nat_lit 211085, nat_lit 1586473, nat_lit 1587341, nat_lit 210189, nat_lit 1672489, nat_lit 1586445, nat_lit 210021, nat_lit 1672461, nat_lit 1586277, nat_lit 1672293, nat_lit 1679461], [nat_lit 803957, nat_lit 918645, nat_lit 804237, nat_lit 925813, nat_lit 918925, nat_lit 806029, nat_lit 868469, nat_lit 926093, nat_lit 920717, nat_lit 806057, nat_lit 854133, nat_lit 868749, nat_lit 928781, nat_lit 942221, nat_lit 920745, nat_lit 804265, nat_lit 854413, nat_lit 871437, nat_lit 943117, nat_lit 942249, nat_lit 918953], [nat_lit 806225, nat_lit 920913, nat_lit 813393, nat_lit 942417, nat_lit 985425, nat_lit 813225, nat_lit 944657, nat_lit 985257, nat_lit 813197, nat_lit 1002001, nat_lit 944769, nat_lit 999593, nat_lit 985229, nat_lit 1690129, nat_lit 999761, nat_lit 1002113, nat_lit 1687721, nat_lit 999565, nat_lit 1687889, nat_lit 1690241, nat_lit 1000769, nat_lit 1673385, nat_lit 1687693, nat_lit 1000461, nat_lit 1673553, nat_lit 1688897, nat_lit 1000489, nat_lit 1673357, nat_lit 1688589, nat_lit 1681729, nat_lit 1688617, nat_lit 1681421, nat_lit 1681449, nat_lit 1679629, nat_lit 1679657], [nat_lit 854441, nat_lit 868777, nat_lit 855337, nat_lit 926121, nat_lit 871465, nat_lit 876841, nat_lit 855309, nat_lit 928809, nat_lit 871745, nat_lit 991529, nat_lit 876813, nat_lit 943145, nat_lit 929089, nat_lit 878913, nat_lit 993321, nat_lit 991501, nat_lit 878605, nat_lit 943425, nat_lit 993601, nat_lit 878633, nat_lit 993293]]
def kb_T39 : List (List Nat) := [[nat_lit 856373, nat_lit 858165, nat_lit 856485, nat_lit 868917, nat_lit 858501, nat_lit 859173, nat_lit 926261, nat_lit 869253, nat_lit 877093, nat_lit 926597, nat_lit 871493, nat_lit 991781, nat_lit 877317, nat_lit 928837, nat_lit 871528, nat_lit 992005, nat_lit 859397, nat_lit 877352, nat_lit 943173, nat_lit 928872, nat_lit 869288, nat_lit 993349, nat_lit 992040, nat_lit 859432, nat_lit 943208, nat_lit 926632, nat_lit 858536, nat_lit 878661, nat_lit 993384, nat_lit 943432, nat_lit 878696, nat_lit 993608, nat_lit 929096, nat_lit 878920, nat_lit 871752], [nat_lit 944776, nat_lit 1002120, nat_lit 1690248, nat_lit 1000776, nat_lit 1688904, nat_lit 1000552, nat_lit 1681736, nat_lit 1688680, nat_lit 1000517, nat_lit 1681512, nat_lit 1688645, nat_lit 1680168, nat_lit 1681477, nat_lit 1680133, nat_lit 1679909]]
def kb_T40 : List (List Nat) := [[nat_lit 43253, nat_lit 50421, nat_lit 43421, nat_lit 136437, nat_lit 50589, nat_lit 1053941, nat_lit 136605, nat_lit 52381, nat_lit 1054109, nat_lit 138397, nat_lit 1055901, nat_lit 156317, nat_lit 1073821, nat_lit 1245853], [nat_lit 43435, nat_lit 44331, nat_lit 58667, nat_lit 44317, nat_lit 202027, nat_lit 58653, nat_lit 1578283, nat_lit 202013, nat_lit 59549, nat_lit 1578269, nat_lit 202909, nat_lit 1579165, nat_lit 213661, nat_lit 1589917, nat_lit 1704605], [nat_lit 50603, nat_lit 136619, nat_lit 52395, nat_lit 1054123, nat_lit 138411, nat_lit 52563, nat_lit 1055915, nat_lit 156331, nat_lit 138579, nat_lit 59731, nat_lit 1073835, nat_lit 1056083, nat_lit 156499, nat_lit 203091, nat_lit 59563, nat_lit 1245867, nat_lit 1074003, nat_lit 158291, nat_lit 1579347, nat_lit 202923, nat_lit 1246035, nat_lit 1075795, nat_lit 215635, nat_lit 1579179, nat_lit 213675, nat_lit 1247827, nat_lit 1591891, nat_lit 213843, nat_lit 1589931, nat_lit 1265747, nat_lit 1590099, nat_lit 1704619, nat_lit 1724499, nat_lit 1704787, nat_lit 1706579]]
def kb_T41 : List (List Nat) := [[nat_lit 272629, nat_lit 329973, nat_lit 279797, nat_lit 272797, nat_lit 344309, nat_lit 330141, nat_lit 394485, nat_lit 279965, nat_lit 344477, nat_lit 394653, nat_lit 281757, nat_lit 347165, nat_lit 396445, nat_lit 417949], [nat_lit 272811, nat_lit 330155, nat_lit 273707, nat_lit 344491, nat_lit 331051, nat_lit 288043, nat_lit 273693, nat_lit 347179, nat_lit 352555, nat_lit 331037, nat_lit 460075, nat_lit 288029, nat_lit 347459, nat_lit 352541, nat_lit 460061, nat_lit 288925, nat_lit 354627, nat_lit 354333, nat_lit 460957, nat_lit 469315, nat_lit 354347, nat_lit 469021, nat_lit 475293, nat_lit 1616195, nat_lit 469035, nat_lit 1615901, nat_lit 467229, nat_lit 1622173, nat_lit 1615915, nat_lit 467243, nat_lit 1614109, nat_lit 1607837, nat_lit 1614123, nat_lit 1606941, nat_lit 1606955], [nat_lit 279979, nat_lit 394667, nat_lit 281771, nat_lit 396459, nat_lit 281939, nat_lit 417963, nat_lit 396627, nat_lit 289107, nat_lit 418131, nat_lit 461139, nat_lit 288939, nat_lit 420371, nat_lit 460971, nat_lit 477715, nat_lit 475307, nat_lit 1624595, nat_lit 475475, nat_lit 1622187, nat_lit 1622355, nat_lit 1607851, nat_lit 1608019], [nat_lit 345653, nat_lit 402997, nat_lit 345989, nat_lit 1091125, nat_lit 401653, nat_lit 403333, nat_lit 347333, nat_lit 1089781, nat_lit 1091461, nat_lit 401821, nat_lit 347368, nat_lit 1082613, nat_lit 1089949, nat_lit 404509, nat_lit 346024, nat_lit 1082781, nat_lit 1092637, nat_lit 418845, nat_lit 403368, nat_lit 1084573, nat_lit 419013, nat_lit 1091496, nat_lit 404712, nat_lit 1106077, nat_lit 404677, nat_lit 419048, nat_lit 1092840, nat_lit 1249437, nat_lit 1092805, nat_lit 1107176, nat_lit 1250333, nat_lit 1107141, nat_lit 1250536, nat_lit 1106973, nat_lit 1250501], [nat_lit 347480, nat_lit 354648, nat_lit 469336, nat_lit 354536, nat_lit 1616216, nat_lit 469224, nat_lit 354501, nat_lit 1616104, nat_lit 476392, nat_lit 469189, nat_lit 1623272, nat_lit 1616069, nat_lit 476357, nat_lit 1709288, nat_lit 1623237, nat_lit 476189, nat_lit 1709253, nat_lit 1623069, nat_lit 1709085, nat_lit 1708189], [nat_lit 401835, nat_lit 1089963, nat_lit 404523, nat_lit 1082795, nat_lit 1092651, nat_lit 418859, nat_lit 404803, nat_lit 1084587, nat_lit 1092931, nat_lit 419139, nat_lit 1106091, nat_lit 1084755, nat_lit 1107267, nat_lit 1249451, nat_lit 1106259, nat_lit 1250627, nat_lit 1106987, nat_lit 1250347, nat_lit 1249619, nat_lit 1108499, nat_lit 1251859], [nat_lit 404824, nat_lit 1092952, nat_lit 419160, nat_lit 1107288, nat_lit 420504, nat_lit 1250648, nat_lit 1108632, nat_lit 477848, nat_lit 420483, nat_lit 1251992, nat_lit 1108611, nat_lit 1624728, nat_lit 476504, nat_lit 477827, nat_lit 1266328, nat_lit 1251971, nat_lit 1623384, nat_lit 1624707, nat_lit 476483, nat_lit 1725080, nat_lit 1266307, nat_lit 1709400, nat_lit 1623363, nat_lit 476203, nat_lit 1710744, nat_lit 1725059, nat_lit 1266195, nat_lit 1709379, nat_lit 1623083, nat_lit 1710723, nat_lit 1724947, nat_lit 1709099, nat_lit 1710611, nat_lit 1708203, nat_lit 1708371]]
def kb_T42 : List (List Nat) := [[nat_lit 71925, nat_lit 530677, nat_lit 82677, nat_lit 72093, nat_lit 541429, nat_lit 530845, nat_lit 82845, nat_lit 656117, nat_lit 541597, nat_lit 85085, nat_lit 656285, nat_lit 543837, nat_lit 658525, nat_lit 680029], [nat_lit 72107, nat_lit 530859, nat_lit 82859, nat_lit 73003, nat_lit 531755, nat_lit 85099, nat_lit 90923, nat_lit 72989, nat_lit 549675, nat_lit 531741, nat_lit 85323, nat_lit 90909, nat_lit 721707, nat_lit 549661, nat_lit 92491, nat_lit 92253, nat_lit 721693, nat_lit 551005, nat_lit 207179, nat_lit 92267, nat_lit 206941, nat_lit 723037, nat_lit 1583435, nat_lit 206955, nat_lit 1583197, nat_lit 205597, nat_lit 737373, nat_lit 1583211, nat_lit 205611, nat_lit 1581853, nat_lit 1654877, nat_lit 1581867, nat_lit 1639197, nat_lit 1640541, nat_lit 1639211], [nat_lit 83573, nat_lit 140917, nat_lit 83853, nat_lit 1058421, nat_lit 140021, nat_lit 141197, nat_lit 85197, nat_lit 1057525, nat_lit 1058701, nat_lit 140189, nat_lit 85225, nat_lit 1114869, nat_lit 1057693, nat_lit 142429, nat_lit 83881, nat_lit 1115037, nat_lit 1059933, nat_lit 156765, nat_lit 141225, nat_lit 1117277, nat_lit 156877, nat_lit 1058729, nat_lit 142569, nat_lit 1138781, nat_lit 142541, nat_lit 156905, nat_lit 1060073, nat_lit 1253469, nat_lit 1060045, nat_lit 1074409, nat_lit 1246301, nat_lit 1074381, nat_lit 1246441, nat_lit 1074269, nat_lit 1246413], [nat_lit 85337, nat_lit 92505, nat_lit 207193, nat_lit 92393, nat_lit 1583449, nat_lit 207081, nat_lit 92365, nat_lit 1583337, nat_lit 214249, nat_lit 207053, nat_lit 1590505, nat_lit 1583309, nat_lit 214221, nat_lit 1705193, nat_lit 1590477, nat_lit 214109, nat_lit 1705165, nat_lit 1590365, nat_lit 1705053, nat_lit 1712221], [nat_lit 140203, nat_lit 1057707, nat_lit 142443, nat_lit 1115051, nat_lit 1059947, nat_lit 156779, nat_lit 142667, nat_lit 1117291, nat_lit 1060171, nat_lit 157003, nat_lit 1138795, nat_lit 1117515, nat_lit 1074507, nat_lit 1253483, nat_lit 1139019, nat_lit 1246539, nat_lit 1074283, nat_lit 1246315, nat_lit 1253707, nat_lit 1141259, nat_lit 1255947], [nat_lit 142681, nat_lit 1060185, nat_lit 157017, nat_lit 1074521, nat_lit 158361, nat_lit 1246553, nat_lit 1075865, nat_lit 215705, nat_lit 158347, nat_lit 1247897, nat_lit 1075851, nat_lit 1591961, nat_lit 214361, nat_lit 215691, nat_lit 1265817, nat_lit 1247883, nat_lit 1590617, nat_lit 1591947, nat_lit 214347, nat_lit 1724569, nat_lit 1265803, nat_lit 1705305, nat_lit 1590603, nat_lit 214123, nat_lit 1706649, nat_lit 1724555, nat_lit 1266699, nat_lit 1705291, nat_lit 1590379, nat_lit 1706635, nat_lit 1725451, nat_lit 1705067, nat_lit 1714699, nat_lit 1712235, nat_lit 1712459], [nat_lit 541611, nat_lit 656299, nat_lit 543851, nat_lit 658539, nat_lit 544075, nat_lit 680043, nat_lit 658763, nat_lit 551243, nat_lit 680267, nat_lit 723275, nat_lit 551019, nat_lit 682507, nat_lit 723051, nat_lit 739851, nat_lit 737387, nat_lit 1657355, nat_lit 737611, nat_lit 1654891, nat_lit 1655115, nat_lit 1640555, nat_lit 1640779], [nat_lit 542325, nat_lit 657013, nat_lit 542605, nat_lit 667765, nat_lit 657293, nat_lit 543949, nat_lit 1126517, nat_lit 668045, nat_lit 658637, nat_lit 543977, nat_lit 1115765, nat_lit 1126797, nat_lit 670733, nat_lit 680141, nat_lit 658665, nat_lit 542633, nat_lit 1116045, nat_lit 1129485, nat_lit 681485, nat_lit 680169, nat_lit 657321], [nat_lit 544089, nat_lit 658777, nat_lit 551257, nat_lit 680281, nat_lit 723289, nat_lit 551145, nat_lit 682521, nat_lit 723177, nat_lit 551117, nat_lit 739865, nat_lit 682689, nat_lit 737513, nat_lit 723149, nat_lit 1657369, nat_lit 737625, nat_lit 740033, nat_lit 1655017, nat_lit 737485, nat_lit 1655129, nat_lit 1657537, nat_lit 739137, nat_lit 1640681, nat_lit 1654989, nat_lit 738829, nat_lit 1640793, nat_lit 1656641, nat_lit 738857, nat_lit 1640653, nat_lit 1656333, nat_lit 1713985, nat_lit 1656361, nat_lit 1713677, nat_lit 1713705, nat_lit 1712333, nat_lit 1712361], [nat_lit 668073, nat_lit 1126825, nat_lit 670761, nat_lit 1116073, nat_lit 1129513, nat_lit 681513, nat_lit 671041, nat_lit 1117417, nat_lit 1129793, nat_lit 681793, nat_lit 1138921, nat_lit 1117389, nat_lit 1140545, nat_lit 1253609, nat_lit 1138893, nat_lit 1255233, nat_lit 1140265, nat_lit 1254953, nat_lit 1253581, nat_lit 1140237, nat_lit 1254925], [nat_lit 1117529, nat_lit 1139033, nat_lit 1253721, nat_lit 1141273, nat_lit 1255961, nat_lit 1141441, nat_lit 1256129, nat_lit 1266881, nat_lit 1725633, nat_lit 1266713, nat_lit 1714881, nat_lit 1725465, nat_lit 1714713, nat_lit 1712473]]
def kb_T43 : List (List Nat) := [[nat_lit 559349, nat_lit 573685, nat_lit 559517, nat_lit 659701, nat_lit 573853, nat_lit 661045, nat_lit 659869, nat_lit 576541, nat_lit 575029, nat_lit 661381, nat_lit 662557, nat_lit 575365, nat_lit 680477, nat_lit 576709, nat_lit 680645, nat_lit 662725, nat_lit 576744, nat_lit 680680, nat_lit 662760, nat_lit 575400, nat_lit 661416], [nat_lit 559531, nat_lit 573867, nat_lit 560427, nat_lit 659883, nat_lit 576555, nat_lit 581931, nat_lit 560413, nat_lit 662571, nat_lit 576835, nat_lit 725291, nat_lit 581917, nat_lit 680491, nat_lit 662851, nat_lit 584003, nat_lit 727083, nat_lit 725277, nat_lit 583709, nat_lit 680771, nat_lit 727363, nat_lit 583723, nat_lit 727069], [nat_lit 576856, nat_lit 662872, nat_lit 584024, nat_lit 680792, nat_lit 727384, nat_lit 583912, nat_lit 682584, nat_lit 727272, nat_lit 583877, nat_lit 739928, nat_lit 682563, nat_lit 738024, nat_lit 727237, nat_lit 1657432, nat_lit 738136, nat_lit 739907, nat_lit 1655528, nat_lit 737989, nat_lit 1655640, nat_lit 1657411, nat_lit 738115, nat_lit 1644776, nat_lit 1655493, nat_lit 737821, nat_lit 1644888, nat_lit 1655619, nat_lit 737835, nat_lit 1644741, nat_lit 1655325, nat_lit 1644867, nat_lit 1655339, nat_lit 1644573, nat_lit 1644587, nat_lit 1642781, nat_lit 1642795], [nat_lit 668213, nat_lit 1126965, nat_lit 668549, nat_lit 1119797, nat_lit 1127301, nat_lit 670789, nat_lit 1118453, nat_lit 1120133, nat_lit 1129541, nat_lit 681541, nat_lit 670824, nat_lit 1118621, nat_lit 1129576, nat_lit 681576, nat_lit 668584, nat_lit 1121309, nat_lit 1127336, nat_lit 681800, nat_lit 1139229, nat_lit 1120168, nat_lit 671048, nat_lit 1253917, nat_lit 1139397, nat_lit 1121512, nat_lit 1129800, nat_lit 1254085, nat_lit 1121477, nat_lit 1139432, nat_lit 1140552, nat_lit 1254981, nat_lit 1254120, nat_lit 1255240, nat_lit 1140328, nat_lit 1140293, nat_lit 1255016], [nat_lit 682696, nat_lit 740040, nat_lit 1657544, nat_lit 739144, nat_lit 1656648, nat_lit 738920, nat_lit 1713992, nat_lit 1656424, nat_lit 738885, nat_lit 1713768, nat_lit 1656389, nat_lit 1712872, nat_lit 1713733, nat_lit 1712837, nat_lit 1712669], [nat_lit 1118635, nat_lit 1121323, nat_lit 1139243, nat_lit 1121603, nat_lit 1253931, nat_lit 1139523, nat_lit 1254211, nat_lit 1256003, nat_lit 1141315, nat_lit 1256024, nat_lit 1141336, nat_lit 1254232, nat_lit 1139544, nat_lit 1121624], [nat_lit 1141448, nat_lit 1256136, nat_lit 1266888, nat_lit 1725640, nat_lit 1266776, nat_lit 1714888, nat_lit 1725528, nat_lit 1266755, nat_lit 1714776, nat_lit 1725507, nat_lit 1712984, nat_lit 1714755, nat_lit 1712963, nat_lit 1712683]]
def kb_T44 : List (List Nat) := [[nat_lit 50869, nat_lit 136885, nat_lit 51093, nat_lit 1054389, nat_lit 144053, nat_lit 137109, nat_lit 52437, nat_lit 1061557, nat_lit 1054613, nat_lit 144277, nat_lit 52458, nat_lit 1147573, nat_lit 1061781, nat_lit 146517, nat_lit 51114, nat_lit 1147797, nat_lit 1064021, nat_lit 157269, nat_lit 137130, nat_lit 1150037, nat_lit 156373, nat_lit 1054634, nat_lit 138474, nat_lit 1171541, nat_lit 138453, nat_lit 156394, nat_lit 1055978, nat_lit 1257557, nat_lit 1055957, nat_lit 1073898, nat_lit 1246805, nat_lit 1073877, nat_lit 1245930, nat_lit 1074773, nat_lit 1245909], [nat_lit 52570, nat_lit 59738, nat_lit 203098, nat_lit 59626, nat_lit 1579354, nat_lit 202986, nat_lit 59605, nat_lit 1579242, nat_lit 213738, nat_lit 202965, nat_lit 1589994, nat_lit 1579221, nat_lit 213717, nat_lit 1704682, nat_lit 1589973, nat_lit 214613, nat_lit 1704661, nat_lit 1590869, nat_lit 1705557, nat_lit 1716309], [nat_lit 138586, nat_lit 1056090, nat_lit 156506, nat_lit 1074010, nat_lit 158298, nat_lit 1246042, nat_lit 1075802, nat_lit 215642, nat_lit 158410, nat_lit 1247834, nat_lit 1075914, nat_lit 1591898, nat_lit 213850, nat_lit 215754, nat_lit 1265754, nat_lit 1247946, nat_lit 1590106, nat_lit 1592010, nat_lit 214858, nat_lit 1724506, nat_lit 1265866, nat_lit 1704794, nat_lit 1591114, nat_lit 214634, nat_lit 1706586, nat_lit 1724618, nat_lit 1267210, nat_lit 1705802, nat_lit 1590890, nat_lit 1706698, nat_lit 1725962, nat_lit 1705578, nat_lit 1718794, nat_lit 1716330, nat_lit 1716554], [nat_lit 144298, nat_lit 1061802, nat_lit 146538, nat_lit 1147818, nat_lit 1064042, nat_lit 157290, nat_lit 146762, nat_lit 1150058, nat_lit 1064266, nat_lit 157514, nat_lit 1171562, nat_lit 1150282, nat_lit 1075018, nat_lit 1257578, nat_lit 1171786, nat_lit 1247050, nat_lit 1074794, nat_lit 1246826, nat_lit 1257802, nat_lit 1174026, nat_lit 1260042]]
def kb_T45 : List (List Nat) := [[nat_lit 280245, nat_lit 394933, nat_lit 280469, nat_lit 405685, nat_lit 395157, nat_lit 281813, nat_lit 1093813, nat_lit 405909, nat_lit 396501, nat_lit 281834, nat_lit 1083061, nat_lit 1094037, nat_lit 408597, nat_lit 418005, nat_lit 396522, nat_lit 280490, nat_lit 1083285, nat_lit 1096725, nat_lit 419349, nat_lit 418026, nat_lit 395178], [nat_lit 281946, nat_lit 396634, nat_lit 289114, nat_lit 418138, nat_lit 461146, nat_lit 289002, nat_lit 420378, nat_lit 461034, nat_lit 288981, nat_lit 477722, nat_lit 420546, nat_lit 475370, nat_lit 461013, nat_lit 1624602, nat_lit 475482, nat_lit 477890, nat_lit 1622250, nat_lit 475349, nat_lit 1622362, nat_lit 1624770, nat_lit 476994, nat_lit 1607914, nat_lit 1622229, nat_lit 476693, nat_lit 1608026, nat_lit 1623874, nat_lit 476714, nat_lit 1607893, nat_lit 1623573, nat_lit 1709890, nat_lit 1623594, nat_lit 1709589, nat_lit 1709610, nat_lit 1708245, nat_lit 1708266], [nat_lit 405930, nat_lit 1094058, nat_lit 408618, nat_lit 1083306, nat_lit 1096746, nat_lit 419370, nat_lit 408898, nat_lit 1084650, nat_lit 1097026, nat_lit 419650, nat_lit 1106154, nat_lit 1084629, nat_lit 1107778, nat_lit 1249514, nat_lit 1106133, nat_lit 1251138, nat_lit 1107498, nat_lit 1250858, nat_lit 1249493, nat_lit 1107477, nat_lit 1250837], [nat_lit 406581, nat_lit 1094709, nat_lit 406917, nat_lit 1152053, nat_lit 1095045, nat_lit 408709, nat_lit 1151157, nat_lit 1152389, nat_lit 1096837, nat_lit 419461, nat_lit 408744, nat_lit 1151381, nat_lit 1096872, nat_lit 419496, nat_lit 406952, nat_lit 1154069, nat_lit 1095080, nat_lit 419664, nat_lit 1171989, nat_lit 1152424, nat_lit 408912, nat_lit 1258005, nat_lit 1172101, nat_lit 1154216, nat_lit 1097040, nat_lit 1258117, nat_lit 1154181, nat_lit 1172136, nat_lit 1107792, nat_lit 1250949, nat_lit 1258152, nat_lit 1251152, nat_lit 1107624, nat_lit 1107589, nat_lit 1250984], [nat_lit 420560, nat_lit 477904, nat_lit 1624784, nat_lit 477008, nat_lit 1623888, nat_lit 476840, nat_lit 1709904, nat_lit 1623720, nat_lit 476805, nat_lit 1709736, nat_lit 1623685, nat_lit 1716904, nat_lit 1709701, nat_lit 1716869, nat_lit 1716757], [nat_lit 1084762, nat_lit 1106266, nat_lit 1249626, nat_lit 1108506, nat_lit 1251866, nat_lit 1108674, nat_lit 1252034, nat_lit 1266370, nat_lit 1725122, nat_lit 1266202, nat_lit 1710786, nat_lit 1724954, nat_lit 1710618, nat_lit 1708378], [nat_lit 1108688, nat_lit 1252048, nat_lit 1266384, nat_lit 1725136, nat_lit 1267280, nat_lit 1710800, nat_lit 1726032, nat_lit 1267266, nat_lit 1718864, nat_lit 1726018, nat_lit 1717072, nat_lit 1718850, nat_lit 1717058, nat_lit 1716778], [nat_lit 1151402, nat_lit 1154090, nat_lit 1172010, nat_lit 1154370, nat_lit 1258026, nat_lit 1172290, nat_lit 1258306, nat_lit 1260098, nat_lit 1174082, nat_lit 1260112, nat_lit 1174096, nat_lit 1258320, nat_lit 1172304, nat_lit 1154384]]
def kb_T46 : List (List Nat) := [[nat_lit 144501, nat_lit 1062005, nat_lit 144781, nat_lit 1148021, nat_lit 1062285, nat_lit 146573, nat_lit 1155189, nat_lit 1148301, nat_lit 1064077, nat_lit 157325, nat_lit 146601, nat_lit 1155469, nat_lit 1064105, nat_lit 157353, nat_lit 144809, nat_lit 1158157, nat_lit 1062313, nat_lit 157521, nat_lit 1172493, nat_lit 1148329, nat_lit 146769, nat_lit 1258509, nat_lit 1171597, nat_lit 1150121, nat_lit 1064273, nat_lit 1257613, nat_lit 1150093, nat_lit 1171625, nat_lit 1075025, nat_lit 1246861, nat_lit 1257641, nat_lit 1247057, nat_lit 1074857, nat_lit 1074829, nat_lit 1246889], [nat_lit 158417, nat_lit 215761, nat_lit 1592017, nat_lit 214865, nat_lit 1591121, nat_lit 214697, nat_lit 1705809, nat_lit 1590953, nat_lit 214669, nat_lit 1705641, nat_lit 1590925, nat_lit 1716393, nat_lit 1705613, nat_lit 1716365, nat_lit 1717261], [nat_lit 1075921, nat_lit 1247953, nat_lit 1265873, nat_lit 1724625, nat_lit 1267217, nat_lit 1706705, nat_lit 1725969, nat_lit 1267329, nat_lit 1718801, nat_lit 1726081, nat_lit 1716561, nat_lit 1718913, nat_lit 1717569, nat_lit 1717289], [nat_lit 1150289, nat_lit 1171793, nat_lit 1257809, nat_lit 1174033, nat_lit 1260049, nat_lit 1174145, nat_lit 1260161, nat_lit 1258817, nat_lit 1172801, nat_lit 1258537, nat_lit 1158465, nat_lit 1172521, nat_lit 1158185, nat_lit 1155497]]
def kb_T47 : List (List Nat) := [[nat_lit 1155637, nat_lit 1155973, nat_lit 1158213, nat_lit 1172549, nat_lit 1158248, nat_lit 1258565, nat_lit 1172584, nat_lit 1156008, nat_lit 1258600, nat_lit 1172808, nat_lit 1258824, nat_lit 1158472, nat_lit 1260168, nat_lit 1174152], [nat_lit 1267336, nat_lit 1726088, nat_lit 1718920, nat_lit 1717576, nat_lit 1717352, nat_lit 1717317]]
def kb_T48 : List (List Nat) := [[nat_lit 42924, nat_lit 44268, nat_lit 58604, nat_lit 44380, nat_lit 201964, nat_lit 58716, nat_lit 1578220, nat_lit 202076, nat_lit 60060, nat_lit 1578332, nat_lit 203420, nat_lit 1579676, nat_lit 217756, nat_lit 1594012, nat_lit 1737372]]
def kb_T49 : List (List Nat) := [[nat_lit 272300, nat_lit 329644, nat_lit 273644, nat_lit 340396, nat_lit 330988, nat_lit 287980, nat_lit 273756, nat_lit 343084, nat_lit 352492, nat_lit 331100, nat_lit 460012, nat_lit 288092, nat_lit 343364, nat_lit 352604, nat_lit 460124, nat_lit 289436, nat_lit 354116, nat_lit 354844, nat_lit 461468, nat_lit 468804, nat_lit 353836, nat_lit 469532, nat_lit 479388, nat_lit 1615684, nat_lit 468524, nat_lit 1616412, nat_lit 467292, nat_lit 1626268, nat_lit 1615404, nat_lit 467180, nat_lit 1614172, nat_lit 1608348, nat_lit 1614060, nat_lit 1607004, nat_lit 1606892], [nat_lit 343392, nat_lit 354144, nat_lit 468832, nat_lit 355040, nat_lit 1615712, nat_lit 469728, nat_lit 355012, nat_lit 1616608, nat_lit 480480, nat_lit 469700, nat_lit 1627360, nat_lit 1616580, nat_lit 480452, nat_lit 1742048, nat_lit 1627332, nat_lit 480284, nat_lit 1742020, nat_lit 1627164, nat_lit 1741852, nat_lit 1740956]]
def kb_T50 : List (List Nat) := [[nat_lit 71596, nat_lit 530348, nat_lit 78764, nat_lit 72940, nat_lit 531692, nat_lit 81004, nat_lit 90860, nat_lit 73052, nat_lit 549612, nat_lit 531804, nat_lit 81228, nat_lit 90972, nat_lit 721644, nat_lit 549724, nat_lit 91980, nat_lit 92764, nat_lit 721756, nat_lit 551516, nat_lit 206668, nat_lit 91756, nat_lit 207452, nat_lit 723548, nat_lit 1582924, nat_lit 206444, nat_lit 1583708, nat_lit 205660, nat_lit 741468, nat_lit 1582700, nat_lit 205548, nat_lit 1581916, nat_lit 1658972, nat_lit 1581804, nat_lit 1639260, nat_lit 1641052, nat_lit 1639148], [nat_lit 81249, nat_lit 92001, nat_lit 206689, nat_lit 92897, nat_lit 1582945, nat_lit 207585, nat_lit 92876, nat_lit 1583841, nat_lit 218337, nat_lit 207564, nat_lit 1594593, nat_lit 1583820, nat_lit 218316, nat_lit 1737953, nat_lit 1594572, nat_lit 218204, nat_lit 1737932, nat_lit 1594460, nat_lit 1737820, nat_lit 1744988], [nat_lit 537516, nat_lit 623532, nat_lit 539756, nat_lit 625772, nat_lit 539980, nat_lit 647276, nat_lit 625996, nat_lit 550732, nat_lit 647500, nat_lit 722764, nat_lit 550508, nat_lit 649740, nat_lit 722540, nat_lit 735756, nat_lit 733292, nat_lit 1653260, nat_lit 733516, nat_lit 1650796, nat_lit 1651020, nat_lit 1640044, nat_lit 1640268], [nat_lit 540001, nat_lit 626017, nat_lit 550753, nat_lit 647521, nat_lit 722785, nat_lit 551649, nat_lit 649761, nat_lit 723681, nat_lit 551628, nat_lit 735777, nat_lit 649985, nat_lit 741601, nat_lit 723660, nat_lit 1653281, nat_lit 733537, nat_lit 736001, nat_lit 1659105, nat_lit 741580, nat_lit 1651041, nat_lit 1653505, nat_lit 743169, nat_lit 1641185, nat_lit 1659084, nat_lit 742924, nat_lit 1640289, nat_lit 1660673, nat_lit 742945, nat_lit 1641164, nat_lit 1660428, nat_lit 1746689, nat_lit 1660449, nat_lit 1746444, nat_lit 1746465, nat_lit 1745100, nat_lit 1745121]]
def kb_T51 : List (List Nat) := [[nat_lit 559020, nat_lit 569772, nat_lit 560364, nat_lit 627116, nat_lit 572460, nat_lit 581868, nat_lit 560476, nat_lit 629804, nat_lit 572740, nat_lit 725228, nat_lit 581980, nat_lit 647724, nat_lit 630084, nat_lit 583492, nat_lit 726572, nat_lit 725340, nat_lit 584220, nat_lit 648004, nat_lit 726852, nat_lit 583212, nat_lit 727580], [nat_lit 572768, nat_lit 630112, nat_lit 583520, nat_lit 648032, nat_lit 726880, nat_lit 584416, nat_lit 649824, nat_lit 727776, nat_lit 584388, nat_lit 735840, nat_lit 649796, nat_lit 742112, nat_lit 727748, nat_lit 1653344, nat_lit 734048, nat_lit 735812, nat_lit 1659616, nat_lit 742084, nat_lit 1651552, nat_lit 1653316, nat_lit 734020, nat_lit 1645280, nat_lit 1659588, nat_lit 741916, nat_lit 1644384, nat_lit 1651524, nat_lit 733740, nat_lit 1645252, nat_lit 1659420, nat_lit 1644356, nat_lit 1651244, nat_lit 1645084, nat_lit 1644076, nat_lit 1642844, nat_lit 1642732], [nat_lit 649992, nat_lit 736008, nat_lit 1653512, nat_lit 743176, nat_lit 1660680, nat_lit 743008, nat_lit 1746696, nat_lit 1660512, nat_lit 742980, nat_lit 1746528, nat_lit 1660484, nat_lit 1745632, nat_lit 1746500, nat_lit 1745604, nat_lit 1745436]]
def kb_T52 : List (List Nat) := [[nat_lit 46508, nat_lit 103852, nat_lit 48300, nat_lit 791980, nat_lit 105644, nat_lit 48468, nat_lit 793772, nat_lit 123564, nat_lit 105812, nat_lit 59220, nat_lit 811692, nat_lit 793940, nat_lit 123732, nat_lit 202580, nat_lit 59052, nat_lit 983724, nat_lit 811860, nat_lit 125524, nat_lit 1578836, nat_lit 202412, nat_lit 983892, nat_lit 813652, nat_lit 211540, nat_lit 1578668, nat_lit 209580, nat_lit 985684, nat_lit 1587796, nat_lit 209748, nat_lit 1585836, nat_lit 1003604, nat_lit 1586004, nat_lit 1671852, nat_lit 1691732, nat_lit 1672020, nat_lit 1673812], [nat_lit 48482, nat_lit 59234, nat_lit 202594, nat_lit 60130, nat_lit 1578850, nat_lit 203490, nat_lit 60116, nat_lit 1579746, nat_lit 217826, nat_lit 203476, nat_lit 1594082, nat_lit 1579732, nat_lit 217812, nat_lit 1737442, nat_lit 1594068, nat_lit 218708, nat_lit 1737428, nat_lit 1594964, nat_lit 1738324, nat_lit 1749076], [nat_lit 105826, nat_lit 793954, nat_lit 123746, nat_lit 811874, nat_lit 125538, nat_lit 983906, nat_lit 813666, nat_lit 211554, nat_lit 125706, nat_lit 985698, nat_lit 813834, nat_lit 1587810, nat_lit 209762, nat_lit 211722, nat_lit 1003618, nat_lit 985866, nat_lit 1586018, nat_lit 1587978, nat_lit 218890, nat_lit 1691746, nat_lit 1003786, nat_lit 1672034, nat_lit 1595146, nat_lit 218722, nat_lit 1673826, nat_lit 1691914, nat_lit 1005578, nat_lit 1738506, nat_lit 1594978, nat_lit 1673994, nat_lit 1693706, nat_lit 1738338, nat_lit 1751050, nat_lit 1749090, nat_lit 1749258]]
def kb_T53 : List (List Nat) := [[nat_lit 275884, nat_lit 361900, nat_lit 277676, nat_lit 363692, nat_lit 277844, nat_lit 385196, nat_lit 363860, nat_lit 288596, nat_lit 385364, nat_lit 460628, nat_lit 288428, nat_lit 387604, nat_lit 460460, nat_lit 473620, nat_lit 471212, nat_lit 1620500, nat_lit 471380, nat_lit 1618092, nat_lit 1618260, nat_lit 1607340, nat_lit 1607508], [nat_lit 277858, nat_lit 363874, nat_lit 288610, nat_lit 385378, nat_lit 460642, nat_lit 289506, nat_lit 387618, nat_lit 461538, nat_lit 289492, nat_lit 473634, nat_lit 387842, nat_lit 479458, nat_lit 461524, nat_lit 1620514, nat_lit 471394, nat_lit 473858, nat_lit 1626338, nat_lit 479444, nat_lit 1618274, nat_lit 1620738, nat_lit 481026, nat_lit 1608418, nat_lit 1626324, nat_lit 480788, nat_lit 1607522, nat_lit 1627906, nat_lit 480802, nat_lit 1608404, nat_lit 1627668, nat_lit 1742594, nat_lit 1627682, nat_lit 1742356, nat_lit 1742370, nat_lit 1741012, nat_lit 1741026], [nat_lit 369068, nat_lit 827820, nat_lit 371756, nat_lit 820652, nat_lit 830508, nat_lit 386092, nat_lit 372036, nat_lit 822444, nat_lit 830788, nat_lit 386372, nat_lit 843948, nat_lit 822612, nat_lit 845124, nat_lit 987308, nat_lit 844116, nat_lit 988484, nat_lit 844844, nat_lit 988204, nat_lit 987476, nat_lit 846356, nat_lit 989716], [nat_lit 372064, nat_lit 830816, nat_lit 386400, nat_lit 845152, nat_lit 387744, nat_lit 988512, nat_lit 846496, nat_lit 473760, nat_lit 387716, nat_lit 989856, nat_lit 846468, nat_lit 1620640, nat_lit 472416, nat_lit 473732, nat_lit 1004192, nat_lit 989828, nat_lit 1619296, nat_lit 1620612, nat_lit 472388, nat_lit 1692320, nat_lit 1004164, nat_lit 1676640, nat_lit 1619268, nat_lit 472108, nat_lit 1677984, nat_lit 1692292, nat_lit 1004052, nat_lit 1676612, nat_lit 1618988, nat_lit 1677956, nat_lit 1692180, nat_lit 1676332, nat_lit 1677844, nat_lit 1675436, nat_lit 1675604], [nat_lit 387856, nat_lit 473872, nat_lit 1620752, nat_lit 481040, nat_lit 1627920, nat_lit 480928, nat_lit 1742608, nat_lit 1627808, nat_lit 480900, nat_lit 1742496, nat_lit 1627780, nat_lit 1749664, nat_lit 1742468, nat_lit 1749636, nat_lit 1749524], [nat_lit 822626, nat_lit 844130, nat_lit 987490, nat_lit 846370, nat_lit 989730, nat_lit 846594, nat_lit 989954, nat_lit 1004290, nat_lit 1692418, nat_lit 1004066, nat_lit 1678082, nat_lit 1692194, nat_lit 1677858, nat_lit 1675618], [nat_lit 846608, nat_lit 989968, nat_lit 1004304, nat_lit 1692432, nat_lit 1005648, nat_lit 1678096, nat_lit 1693776, nat_lit 1005634, nat_lit 1751120, nat_lit 1693762, nat_lit 1749776, nat_lit 1751106, nat_lit 1749762, nat_lit 1749538]]
def kb_T54 : List (List Nat) := [[nat_lit 107436, nat_lit 795564, nat_lit 109676, nat_lit 852908, nat_lit 797804, nat_lit 124012, nat_lit 109900, nat_lit 855148, nat_lit 798028, nat_lit 124236, nat_lit 876652, nat_lit 855372, nat_lit 812364, nat_lit 991340, nat_lit 876876, nat_lit 984396, nat_lit 812140, nat_lit 984172, nat_lit 991564, nat_lit 879116, nat_lit 993804], [nat_lit 109921, nat_lit 798049, nat_lit 124257, nat_lit 812385, nat_lit 125601, nat_lit 984417, nat_lit 813729, nat_lit 211617, nat_lit 125580, nat_lit 985761, nat_lit 813708, nat_lit 1587873, nat_lit 210273, nat_lit 211596, nat_lit 1003681, nat_lit 985740, nat_lit 1586529, nat_lit 1587852, nat_lit 210252, nat_lit 1691809, nat_lit 1003660, nat_lit 1672545, nat_lit 1586508, nat_lit 210028, nat_lit 1673889, nat_lit 1691788, nat_lit 1004556, nat_lit 1672524, nat_lit 1586284, nat_lit 1673868, nat_lit 1692684, nat_lit 1672300, nat_lit 1681932, nat_lit 1679468, nat_lit 1679692], [nat_lit 125713, nat_lit 211729, nat_lit 1587985, nat_lit 218897, nat_lit 1595153, nat_lit 218785, nat_lit 1738513, nat_lit 1595041, nat_lit 218764, nat_lit 1738401, nat_lit 1595020, nat_lit 1749153, nat_lit 1738380, nat_lit 1749132, nat_lit 1750028], [nat_lit 813841, nat_lit 985873, nat_lit 1003793, nat_lit 1691921, nat_lit 1005585, nat_lit 1674001, nat_lit 1693713, nat_lit 1005697, nat_lit 1751057, nat_lit 1693825, nat_lit 1749265, nat_lit 1751169, nat_lit 1750273, nat_lit 1750049], [nat_lit 855393, nat_lit 876897, nat_lit 991585, nat_lit 879137, nat_lit 993825, nat_lit 879361, nat_lit 994049, nat_lit 1004801, nat_lit 1692929, nat_lit 1004577, nat_lit 1682177, nat_lit 1692705, nat_lit 1681953, nat_lit 1679713]]
def kb_T55 : List (List Nat) := [[nat_lit 856492, nat_lit 859180, nat_lit 877100, nat_lit 859460, nat_lit 991788, nat_lit 877380, nat_lit 992068, nat_lit 993860, nat_lit 879172, nat_lit 993888, nat_lit 879200, nat_lit 992096, nat_lit 877408, nat_lit 859488], [nat_lit 879368, nat_lit 994056, nat_lit 1004808, nat_lit 1692936, nat_lit 1004640, nat_lit 1682184, nat_lit 1692768, nat_lit 1004612, nat_lit 1682016, nat_lit 1692740, nat_lit 1680224, nat_lit 1681988, nat_lit 1680196, nat_lit 1679916], [nat_lit 1005704, nat_lit 1693832, nat_lit 1751176, nat_lit 1750280, nat_lit 1750112, nat_lit 1750084]]
def kb_T56 : List (List Nat) := [[nat_lit 44387, nat_lit 58723, nat_lit 202083, nat_lit 60067, nat_lit 1578339, nat_lit 203427, nat_lit 60179, nat_lit 1579683, nat_lit 217763, nat_lit 203539, nat_lit 1594019, nat_lit 1579795, nat_lit 217875, nat_lit 1737379, nat_lit 1594131, nat_lit 219219, nat_lit 1737491, nat_lit 1595475, nat_lit 1738835, nat_lit 1753171]]
def kb_T57 : List (List Nat) := [[nat_lit 273763, nat_lit 331107, nat_lit 288099, nat_lit 352611, nat_lit 460131, nat_lit 289443, nat_lit 354851, nat_lit 461475, nat_lit 289555, nat_lit 469539, nat_lit 355075, nat_lit 479395, nat_lit 461587, nat_lit 1616419, nat_lit 467299, nat_lit 469763, nat_lit 1626275, nat_lit 479507, nat_lit 1614179, nat_lit 1616643, nat_lit 480515, nat_lit 1608355, nat_lit 1626387, nat_lit 481299, nat_lit 1607011, nat_lit 1627395, nat_lit 480291, nat_lit 1608467, nat_lit 1628179, nat_lit 1742083, nat_lit 1627171, nat_lit 1742867, nat_lit 1741859, nat_lit 1741075, nat_lit 1740963], [nat_lit 355096, nat_lit 469784, nat_lit 1616664, nat_lit 480536, nat_lit 1627416, nat_lit 481432, nat_lit 1742104, nat_lit 1628312, nat_lit 481411, nat_lit 1743000, nat_lit 1628291, nat_lit 1753752, nat_lit 1742979, nat_lit 1753731, nat_lit 1753619]]
def kb_T58 : List (List Nat) := [[nat_lit 73059, nat_lit 531811, nat_lit 90979, nat_lit 549731, nat_lit 92771, nat_lit 721763, nat_lit 551523, nat_lit 207459, nat_lit 92939, nat_lit 723555, nat_lit 551691, nat_lit 1583715, nat_lit 205667, nat_lit 207627, nat_lit 741475, nat_lit 723723, nat_lit 1581923, nat_lit 1583883, nat_lit 218379, nat_lit 1658979, nat_lit 741643, nat_lit 1639267, nat_lit 1594635, nat_lit 218211, nat_lit 1641059, nat_lit 1659147, nat_lit 743435, nat_lit 1737995, nat_lit 1594467, nat_lit 1641227, nat_lit 1660939, nat_lit 1737827, nat_lit 1746955, nat_lit 1744995, nat_lit 1745163], [nat_lit 92953, nat_lit 207641, nat_lit 1583897, nat_lit 218393, nat_lit 1594649, nat_lit 219289, nat_lit 1738009, nat_lit 1595545, nat_lit 219275, nat_lit 1738905, nat_lit 1595531, nat_lit 1753241, nat_lit 1738891, nat_lit 1753227, nat_lit 1754123], [nat_lit 551705, nat_lit 723737, nat_lit 741657, nat_lit 1659161, nat_lit 743449, nat_lit 1641241, nat_lit 1660953, nat_lit 743617, nat_lit 1746969, nat_lit 1661121, nat_lit 1745177, nat_lit 1747137, nat_lit 1754305, nat_lit 1754137]]
def kb_T59 : List (List Nat) := [[nat_lit 560483, nat_lit 581987, nat_lit 725347, nat_lit 584227, nat_lit 727587, nat_lit 584451, nat_lit 727811, nat_lit 742147, nat_lit 1659651, nat_lit 741923, nat_lit 1645315, nat_lit 1659427, nat_lit 1645091, nat_lit 1642851], [nat_lit 584472, nat_lit 727832, nat_lit 742168, nat_lit 1659672, nat_lit 743512, nat_lit 1645336, nat_lit 1661016, nat_lit 743491, nat_lit 1747032, nat_lit 1660995, nat_lit 1745688, nat_lit 1747011, nat_lit 1745667, nat_lit 1745443], [nat_lit 743624, nat_lit 1661128, nat_lit 1747144, nat_lit 1754312, nat_lit 1754200, nat_lit 1754179]]
def kb_T60 : List (List Nat) := [[nat_lit 60186, nat_lit 203546, nat_lit 1579802, nat_lit 217882, nat_lit 1594138, nat_lit 219226, nat_lit 1737498, nat_lit 1595482, nat_lit 219338, nat_lit 1738842, nat_lit 1595594, nat_lit 1753178, nat_lit 1738954, nat_lit 1753290, nat_lit 1754634]]
def kb_T61 : List (List Nat) := [[nat_lit 289562, nat_lit 461594, nat_lit 479514, nat_lit 1626394, nat_lit 481306, nat_lit 1608474, nat_lit 1628186, nat_lit 481474, nat_lit 1742874, nat_lit 1628354, nat_lit 1741082, nat_lit 1743042, nat_lit 1753794, nat_lit 1753626], [nat_lit 481488, nat_lit 1628368, nat_lit 1743056, nat_lit 1753808, nat_lit 1754704, nat_lit 1754690]]
def kb_T62 : List (List Nat) := [[nat_lit 219345, nat_lit 1595601, nat_lit 1738961, nat_lit 1753297, nat_lit 1754641, nat_lit 1754753]]
def kb_T63 : List (List Nat) := [[nat_lit 1754760]]
def kb_T : List (List (List Nat)) := [kb_T0, kb_T1, kb_T2, kb_T3, kb_T4, kb_T5, kb_T6, kb_T7, kb_T8, kb_T9, kb_T10, kb_T11, kb_T12, kb_T13, kb_T14, kb_T15, kb_T16, kb_T17, kb_T18, kb_T19, kb_T20, kb_T21, kb_T22, kb_T23, kb_T24, kb_T25, kb_T26, kb_T27, kb_T28, kb_T29, kb_T30, kb_T31, kb_T32, kb_T33, kb_T34, kb_T35, kb_T36, kb_T37, kb_T38, kb_T39, kb_T40, kb_T41, kb_T42, kb_T43, kb_T44, kb_T45, kb_T46, kb_T47, kb_T48, kb_T49, kb_T50, kb_T51, kb_T52, kb_T53, kb_T54, kb_T55, kb_T56, kb_T57, kb_T58, kb_T59, kb_T60, kb_T61, kb_T62, kb_T63]
noncomputable def kb_el (a : Nat) (C : List Nat) : Bool := List.rec (motive := fun _ => Bool) false (fun b _ r => or (Nat.beq a b) r) C
noncomputable def kb_al (f : Nat → Bool) (C : List Nat) : Bool := List.rec (motive := fun _ => Bool) true (fun b _ r => and (f b) r) C
noncomputable def kb_AL (f : List Nat → Bool) (C : List (List Nat)) : Bool := List.rec (motive := fun _ => Bool) true (fun b _ r => and (f b) r) C
noncomputable def kb_EX (f : List Nat → Bool) (C : List (List Nat)) : Bool := List.rec (motive := fun _ => Bool) false (fun b _ r => or (f b) r) C
noncomputable def kb_AAL (f : List Nat → Bool) (C : List (List (List Nat))) : Bool := List.rec (motive := fun _ => Bool) true (fun b _ r => and (kb_AL f b) r) C
noncomputable def kb_at (C : List (List (List Nat))) : Nat → List (List Nat) := List.rec (motive := fun _ => Nat → List (List Nat)) (fun _ => []) (fun b _ r k => Nat.rec (motive := fun _ => List (List Nat)) b (fun j _ => r j) k) C
def kb_mb (c i : Nat) : Bool :=
  or (and (Nat.blt 0 i) (or (and (Nat.blt (kw_dg 7 c i) (kw_dg 7 c (i - 1))) (Nat.ble (kw_dg 7 c (i - 1)) (kw_dg 7 c (i + 1)))) (and (Nat.blt (kw_dg 7 c (i + 1)) (kw_dg 7 c (i - 1))) (Nat.ble (kw_dg 7 c (i - 1)) (kw_dg 7 c i)))))
    (and (Nat.blt (i + 2) 7) (or (and (Nat.ble (kw_dg 7 c i) (kw_dg 7 c (i + 2))) (Nat.blt (kw_dg 7 c (i + 2)) (kw_dg 7 c (i + 1)))) (and (Nat.ble (kw_dg 7 c (i + 1)) (kw_dg 7 c (i + 2))) (Nat.blt (kw_dg 7 c (i + 2)) (kw_dg 7 c i)))))
def kb_sc (c i : Nat) : Nat :=
  (c ^^^ ((kw_dg 7 c i ^^^ kw_dg 7 c (i + 1)) * 2 ^ (3 * (7 - 2 - i)))) ^^^ ((kw_dg 7 c i ^^^ kw_dg 7 c (i + 1)) * 2 ^ (3 * (7 - 2 - i) + 3))
noncomputable def kb_st (C : List Nat) (c i : Nat) : Bool := or (not (kb_mb c i)) (kb_el (kb_sc c i) C)
noncomputable def kb_ok (C : List Nat) : Bool :=
  and (Nat.ble C.length 64) (kb_al (fun c => and (Nat.blt c 2097152) (and (kb_st C c 0) (and (kb_st C c 1) (and (kb_st C c 2) (and (kb_st C c 3) (and (kb_st C c 4) (kb_st C c 5))))))) C)
theorem kb_okAll : kb_AAL kb_ok kb_T = true := by decide +kernel
noncomputable def kb_leaf (c x : Nat) : Bool := kb_EX (fun C => kb_el c C) (kb_at kb_T x)
noncomputable def kb_chk (k : Nat) : Nat → List Nat → Nat → Bool :=
  Nat.rec (motive := fun _ => Nat → List Nat → Nat → Bool) (fun c _ x => kb_leaf c x)
    (fun _ r c u x => kb_al (fun a => or (kb_el a u) (r (8 * c + a) (a :: u) (bif kb_el (a + 1) u then x + 2 ^ a else x))) [0, 1, 2, 3, 4, 5, 6]) k
theorem kb_cover : kb_chk 7 0 [] 0 = true := by decide +kernel
end
section
/-! at most 64 words come of one word by moves: the word is a monotone picture of a permutation of 0 .. 6, whose family the table holds -/
theorem kc_el {a : Nat} : ∀ {C : List Nat}, kb_el a C = true → a ∈ C
  | [], h => absurd h (by intro z; exact Bool.noConfusion z)
  | b :: t, h => by
    have h' : or (Nat.beq a b) (kb_el a t) = true := h
    rcases Bool.or_eq_true _ _ ▸ h' with h1 | h1
    · rw [Nat.eq_of_beq_eq_true h1]; exact List.mem_cons_self
    · exact List.mem_cons_of_mem _ (kc_el h1)
theorem kc_al {f : Nat → Bool} : ∀ {C : List Nat}, kb_al f C = true → ∀ b, b ∈ C → f b = true
  | [], _, b, hb => absurd hb (List.not_mem_nil)
  | c :: t, h, b, hb => by
    have h' : and (f c) (kb_al f t) = true := h
    have h2 := (Bool.and_eq_true _ _).mp h'
    rcases List.mem_cons.mp hb with e | e
    · rw [e]; exact h2.1
    · exact kc_al h2.2 b e
theorem kc_AL {f : List Nat → Bool} : ∀ {C : List (List Nat)}, kb_AL f C = true → ∀ b, b ∈ C → f b = true
  | [], _, b, hb => absurd hb (List.not_mem_nil)
  | c :: t, h, b, hb => by
    have h' : and (f c) (kb_AL f t) = true := h
    have h2 := (Bool.and_eq_true _ _).mp h'
    rcases List.mem_cons.mp hb with e | e
    · rw [e]; exact h2.1
    · exact kc_AL h2.2 b e
theorem kc_EX {f : List Nat → Bool} : ∀ {C : List (List Nat)}, kb_EX f C = true → ∃ b, b ∈ C ∧ f b = true
  | [], h => absurd h (by intro z; exact Bool.noConfusion z)
  | c :: t, h => by
    have h' : or (f c) (kb_EX f t) = true := h
    rcases Bool.or_eq_true _ _ ▸ h' with h1 | h1
    · exact ⟨c, List.mem_cons_self, h1⟩
    · obtain ⟨b, hb, hf⟩ := kc_EX h1
      exact ⟨b, List.mem_cons_of_mem _ hb, hf⟩
theorem kc_at {f : List Nat → Bool} : ∀ {T : List (List (List Nat))} {x : Nat}, kb_AAL f T = true → ∀ C, C ∈ kb_at T x → f C = true
  | [], _, _, C, hC => absurd hC (List.not_mem_nil)
  | b :: t, x, h, C, hC => by
    have h' : and (kb_AL f b) (kb_AAL f t) = true := h
    have h2 := (Bool.and_eq_true _ _).mp h'
    cases x with
    | zero => exact kc_AL h2.1 C hC
    | succ x => exact kc_at (T := t) (x := x) h2.2 C hC
theorem kc_mb {c i : Nat} (h : kw_mm (kw_dg 7 c) 7 i) : kb_mb c i = true := by
  unfold kb_mb
  unfold kw_mm at h
  simp only [Bool.or_eq_true, Bool.and_eq_true, Nat.blt_eq, Nat.ble_eq]
  exact h
theorem kc_sc {c i : Nat} (hc : c < 8 ^ 7) (hi : i < 6) : kb_sc c i = kw_cd (kw_sw (kw_dg 7 c) i) 7 := by
  have h := kw_swap_code (l := kw_dg 7 c) (n := 7) (i := i) (fun j _ => kw_dg_lt 7 c j) (by omega)
  rw [kw_cd_dg hc] at h
  exact h
theorem kc_st {C : List Nat} {c i : Nat} (hc : c < 8 ^ 7) (hi : i < 6) (h : kb_st C c i = true) (m : kw_mm (kw_dg 7 c) 7 i) : kw_cd (kw_sw (kw_dg 7 c) i) 7 ∈ C := by
  unfold kb_st at h
  rw [kc_mb m] at h
  rw [← kc_sc hc hi]
  exact kc_el h
theorem kc_ok {C : List Nat} (h : kb_ok C = true) : C.length ≤ 64 ∧ ∀ c, c ∈ C → c < 8 ^ 7 ∧ ∀ i, i < 6 → kw_mm (kw_dg 7 c) 7 i → kw_cd (kw_sw (kw_dg 7 c) i) 7 ∈ C := by
  unfold kb_ok at h
  have h2 := (Bool.and_eq_true _ _).mp h
  refine ⟨Nat.ble_eq.mp h2.1, fun c hc => ?_⟩
  have h3 := kc_al h2.2 c hc
  have h4 := (Bool.and_eq_true _ _).mp h3
  have hlt : c < 8 ^ 7 := Nat.blt_eq.mp h4.1
  have h5 := (Bool.and_eq_true _ _).mp h4.2
  have h6 := (Bool.and_eq_true _ _).mp h5.2
  have h7 := (Bool.and_eq_true _ _).mp h6.2
  have h8 := (Bool.and_eq_true _ _).mp h7.2
  have h9 := (Bool.and_eq_true _ _).mp h8.2
  refine ⟨hlt, fun i hi m => ?_⟩
  match i, hi, m with
  | 0, hi, m => exact kc_st hlt hi h5.1 m
  | 1, hi, m => exact kc_st hlt hi h6.1 m
  | 2, hi, m => exact kc_st hlt hi h7.1 m
  | 3, hi, m => exact kc_st hlt hi h8.1 m
  | 4, hi, m => exact kc_st hlt hi h9.1 m
  | 5, hi, m => exact kc_st hlt hi h9.2 m
theorem kc_seven {a : Nat} (h : a < 7) : a ∈ [0, 1, 2, 3, 4, 5, 6] := by
  match a, h with
  | 0, _ => decide
  | 1, _ => decide
  | 2, _ => decide
  | 3, _ => decide
  | 4, _ => decide
  | 5, _ => decide
  | 6, _ => decide
theorem kc_cov {p : Nat → Nat} (h7 : ∀ i, i < 7 → p i < 7) (hj : ∀ i, i < 7 → ∀ j, j < 7 → p i = p j → i = j) :
    ∀ k d : Nat, d + k = 7 → ∀ (u : List Nat) (x : Nat), (∀ a, a ∈ u → ∃ i, i < d ∧ p i = a) → kb_chk k (kw_cd p d) u x = true → ∃ C, kb_ok C = true ∧ kw_cd p 7 ∈ C
  | 0, d, hd, u, x, _, h => by
    have e : d = 7 := by omega
    subst e
    have h' : kb_leaf (kw_cd p 7) x = true := h
    obtain ⟨C, hC, hm⟩ := kc_EX h'
    exact ⟨C, kc_at kb_okAll C hC, kc_el hm⟩
  | k + 1, d, hd, u, x, hu, h => by
    have h0 : kb_al (fun a => or (kb_el a u) (kb_chk k (8 * kw_cd p d + a) (a :: u) (bif kb_el (a + 1) u then x + 2 ^ a else x))) [0, 1, 2, 3, 4, 5, 6] = true := h
    have h' := kc_al h0 (p d) (kc_seven (h7 d (by omega)))
    rcases Bool.or_eq_true _ _ ▸ h' with h1 | h1
    · obtain ⟨i, hi, e⟩ := hu _ (kc_el h1)
      have := hj i (by omega) d (by omega) e
      omega
    · refine kc_cov h7 hj k (d + 1) (by omega) (p d :: u) _ ?_ h1
      intro a ha
      rcases List.mem_cons.mp ha with e | e
      · exact ⟨d, by omega, e.symm⟩
      · obtain ⟨i, hi, e⟩ := hu a e
        exact ⟨i, by omega, e⟩
theorem kc_perm {p : Nat → Nat} (h7 : ∀ i, i < 7 → p i < 7) (hj : ∀ i, i < 7 → ∀ j, j < 7 → p i = p j → i = j) : ∃ C, kb_ok C = true ∧ kw_cd p 7 ∈ C :=
  kc_cov h7 hj 7 0 rfl [] 0 (fun a ha => absurd ha List.not_mem_nil) kb_cover
/-! ranks -/
def kr_lt (l : Nat → Nat) (i j : Nat) : Prop := l i < l j ∨ (l i = l j ∧ i < j)
def kr_ct (P : Nat → Bool) : Nat → Nat
  | 0 => 0
  | n + 1 => kr_ct P n + (if P n then 1 else 0)
theorem kr_le {P Q : Nat → Bool} : ∀ {n : Nat}, (∀ j, j < n → P j = true → Q j = true) → kr_ct P n ≤ kr_ct Q n
  | 0, _ => Nat.le_refl _
  | n + 1, h => by
    show kr_ct P n + (if P n then 1 else 0) ≤ kr_ct Q n + (if Q n then 1 else 0)
    have h1 := kr_le (n := n) (fun j hj => h j (by omega))
    have h2 := h n (by omega)
    by_cases hp : P n = true
    · rw [if_pos hp, if_pos (h2 hp)]; omega
    · rw [if_neg hp]; omega
theorem kr_ltc {P Q : Nat → Bool} {j0 : Nat} : ∀ {n : Nat}, (∀ j, j < n → P j = true → Q j = true) → j0 < n → P j0 = false → Q j0 = true → kr_ct P n < kr_ct Q n
  | 0, _, h, _, _ => absurd h (by omega)
  | n + 1, h, hj, hp, hq => by
    show kr_ct P n + (if P n then 1 else 0) < kr_ct Q n + (if Q n then 1 else 0)
    by_cases e : j0 = n
    · subst e
      have h1 := kr_le (n := j0) (fun j hj => h j (by omega))
      rw [hp, hq]
      simp
      omega
    · have h1 := kr_ltc (n := n) (fun j hj => h j (by omega)) (by omega) hp hq
      have h2 := h n (by omega)
      by_cases hp : P n = true
      · rw [if_pos hp, if_pos (h2 hp)]; omega
      · rw [if_neg hp]; omega
theorem kr_ct_all : ∀ n : Nat, kr_ct (fun _ => true) n = n
  | 0 => rfl
  | n + 1 => by
    show kr_ct (fun _ => true) n + 1 = n + 1
    rw [kr_ct_all n]
noncomputable def kr_rk (l : Nat → Nat) (i : Nat) : Nat := kr_ct (fun j => decide (l j < l i ∨ (l j = l i ∧ j < i))) 7
theorem kr_rk_7 (l : Nat → Nat) {i : Nat} (hi : i < 7) : kr_rk l i < 7 := by
  have h := kr_ltc (P := fun j => decide (l j < l i ∨ (l j = l i ∧ j < i))) (Q := fun _ => true) (j0 := i) (n := 7) (fun _ _ _ => rfl) hi (by simp) rfl
  rw [kr_ct_all] at h
  exact h
theorem kr_rk_lt {l : Nat → Nat} {i j : Nat} (hi : i < 7) (h : kr_lt l i j) : kr_rk l i < kr_rk l j := by
  unfold kr_lt at h
  refine kr_ltc (j0 := i) ?_ hi (by simp) (by simpa using h)
  intro a _ ha
  have ha' : l a < l i ∨ (l a = l i ∧ a < i) := by simpa using ha
  have : l a < l j ∨ (l a = l j ∧ a < j) := by omega
  simpa using this
theorem kr_tri (l : Nat → Nat) (i j : Nat) : i = j ∨ kr_lt l i j ∨ kr_lt l j i := by unfold kr_lt; omega
theorem kr_asym {l : Nat → Nat} {i j : Nat} (h : kr_lt l i j) : ¬ kr_lt l j i := by unfold kr_lt at *; omega
theorem kr_rk_iff {l : Nat → Nat} {i j : Nat} (hi : i < 7) (hj : j < 7) : kr_rk l i < kr_rk l j ↔ kr_lt l i j := by
  constructor
  · intro h
    rcases kr_tri l i j with e | e | e
    · subst e; omega
    · exact e
    · have := kr_rk_lt hj e; omega
  · exact kr_rk_lt hi
theorem kr_rk_inj {l : Nat → Nat} {i j : Nat} (hi : i < 7) (hj : j < 7) (h : kr_rk l i = kr_rk l j) : i = j := by
  rcases kr_tri l i j with e | e | e
  · exact e
  · have := kr_rk_lt hi e; omega
  · have := kr_rk_lt hj e; omega
theorem kr_f {p l : Nat → Nat} (hj : ∀ i, i < 7 → ∀ j, j < 7 → p i = p j → i = j) : ∃ f : Nat → Nat, ∀ i, i < 7 → f (p i) = l i := by
  refine ⟨fun r => l (Classical.epsilon fun i => i < 7 ∧ p i = r), fun i hi => ?_⟩
  have s := Classical.epsilon_spec (p := fun j => j < 7 ∧ p j = p i) ⟨i, hi, rfl⟩
  show l (Classical.epsilon fun j => j < 7 ∧ p j = p i) = l i
  rw [hj _ s.1 _ hi s.2]
/-! one move on both -/
theorem kr_mm {g p : Nat → Nat} {n i : Nat} (hn : n ≤ 7) (hi : i + 1 < n) (R : ∀ a, a < n → ∀ b, b < n → (p a < p b ↔ kr_lt g a b)) (m : kw_mm g n i) : kw_mm p 7 i := by
  have r := fun a b ha hb => (R a ha b hb).mpr
  unfold kw_mm at *
  unfold kr_lt at r
  rcases m with ⟨h0, ⟨h1, h2⟩ | ⟨h1, h2⟩⟩ | ⟨h0, ⟨h1, h2⟩ | ⟨h1, h2⟩⟩
  · have a := r i (i - 1) (by omega) (by omega) (by omega)
    have b := r (i - 1) (i + 1) (by omega) (by omega) (by omega)
    exact Or.inl ⟨h0, Or.inl ⟨a, Nat.le_of_lt b⟩⟩
  · have a := r (i + 1) (i - 1) (by omega) (by omega) (by omega)
    have b := r (i - 1) i (by omega) (by omega) (by omega)
    exact Or.inl ⟨h0, Or.inr ⟨a, Nat.le_of_lt b⟩⟩
  · have a := r i (i + 2) (by omega) (by omega) (by omega)
    have b := r (i + 2) (i + 1) (by omega) (by omega) (by omega)
    exact Or.inr ⟨by omega, Or.inl ⟨Nat.le_of_lt a, b⟩⟩
  · have a := r (i + 1) (i + 2) (by omega) (by omega) (by omega)
    have b := r (i + 2) i (by omega) (by omega) (by omega)
    exact Or.inr ⟨by omega, Or.inr ⟨Nat.le_of_lt a, b⟩⟩
theorem kr_ne {g : Nat → Nat} {n i : Nat} (m : kw_mm g n i) : g i ≠ g (i + 1) := by
  unfold kw_mm at m; omega
def kr_tau (i j : Nat) : Nat := if j = i then i + 1 else if j = i + 1 then i else j
theorem kr_sw (l : Nat → Nat) (i j : Nat) : kw_sw l i j = l (kr_tau i j) := by
  unfold kw_sw kr_tau
  by_cases h : j = i
  · rw [if_pos h, if_pos h]
  · rw [if_neg h, if_neg h]
    by_cases h2 : j = i + 1
    · rw [if_pos h2, if_pos h2]
    · rw [if_neg h2, if_neg h2]
theorem kr_tau_c (i j : Nat) : (j = i ∧ kr_tau i j = i + 1) ∨ (j = i + 1 ∧ kr_tau i j = i) ∨ (j ≠ i ∧ j ≠ i + 1 ∧ kr_tau i j = j) := by
  unfold kr_tau
  by_cases h : j = i
  · rw [if_pos h]; omega
  · rw [if_neg h]
    by_cases h2 : j = i + 1
    · rw [if_pos h2]; omega
    · rw [if_neg h2]; omega
theorem kr_tau_lt {i j n : Nat} (hi : i + 1 < n) (hj : j < n) : kr_tau i j < n := by unfold kr_tau; split <;> (try split) <;> omega
theorem kr_tau_ord {i a b : Nat} (h : kr_tau i a ≠ i ∨ kr_tau i b ≠ i + 1) (h' : kr_tau i a ≠ i + 1 ∨ kr_tau i b ≠ i) : kr_tau i a < kr_tau i b ↔ a < b := by
  have ha := kr_tau_c i a
  have hb := kr_tau_c i b
  generalize kr_tau i a = x at *
  generalize kr_tau i b = y at *
  omega
theorem kr_R {g p : Nat → Nat} {n i : Nat} (hi : i + 1 < n) (R : ∀ a, a < n → ∀ b, b < n → (p a < p b ↔ kr_lt g a b)) (hne : g i ≠ g (i + 1)) :
    ∀ a, a < n → ∀ b, b < n → (kw_sw p i a < kw_sw p i b ↔ kr_lt (kw_sw g i) a b) := by
  intro a ha b hb
  have h := R _ (kr_tau_lt hi ha) _ (kr_tau_lt hi hb)
  unfold kr_lt at *
  rw [kr_sw, kr_sw, kr_sw, kr_sw, h]
  by_cases e : g (kr_tau i a) = g (kr_tau i b)
  · have o : kr_tau i a < kr_tau i b ↔ a < b := by
      apply kr_tau_ord
      · by_cases x : kr_tau i a = i
        · right; intro y; rw [x, y] at e; exact hne e
        · exact Or.inl x
      · by_cases x : kr_tau i a = i + 1
        · right; intro y; rw [x, y] at e; exact hne e.symm
        · exact Or.inl x
    rw [o]
  · constructor
    · rintro (h | ⟨h, _⟩)
      · exact Or.inl h
      · exact absurd h e
    · rintro (h | ⟨h, _⟩)
      · exact Or.inl h
      · exact absurd h e
/-- the words that come of one word: closed under moves, letters 1 to 7, at most 64 -/
theorem kc_main {l : Nat → Nat} {n : Nat} (hn : n ≤ 7) (hl : ∀ i, i < n → 1 ≤ l i ∧ l i ≤ 7) :
    ∃ (K : Nat → Prop) (D : List Nat), D.length ≤ 64 ∧ (∀ c, K c → c ∈ D) ∧ K (kw_cd l n) ∧
      ∀ c, K c → c < 8 ^ n ∧ (∀ i, i < n → 1 ≤ kw_dg n c i ∧ kw_dg n c i ≤ 7) ∧ ∀ i, i + 1 < n → kw_mm (kw_dg n c) n i → K (kw_cd (kw_sw (kw_dg n c) i) n) := by
  obtain ⟨C, hC, h0⟩ := kc_perm (p := kr_rk l) (fun i hi => kr_rk_7 l hi) (fun i hi j hj => kr_rk_inj hi hj)
  obtain ⟨f, hf⟩ := kr_f (p := kr_rk l) (l := l) (fun i hi j hj => kr_rk_inj hi hj)
  obtain ⟨hlen, hcl⟩ := kc_ok hC
  refine ⟨fun c => ∃ p : Nat → Nat, (∀ i, i < 7 → p i < 7) ∧ kw_cd p 7 ∈ C ∧ (∀ a, a < n → ∀ b, b < n → (p a < p b ↔ kr_lt (fun i => f (p i)) a b)) ∧
      c = kw_cd (fun i => f (p i)) n ∧ (∀ i, i < n → 1 ≤ f (p i) ∧ f (p i) ≤ 7), C.map (fun q => kw_cd (fun i => f (kw_dg 7 q i)) n), ?_, ?_, ?_, ?_⟩
  · rw [List.length_map]; exact hlen
  · rintro c ⟨p, p7, pC, _, rfl, _⟩
    refine List.mem_map.mpr ⟨kw_cd p 7, pC, kw_cd_congr fun i hi => ?_⟩
    rw [kw_dg_cd (fun j hj => by have := p7 j hj; omega) (by omega)]
  · refine ⟨kr_rk l, fun i hi => kr_rk_7 l hi, h0, ?_, ?_, ?_⟩
    · intro a ha b hb
      rw [kr_rk_iff (by omega) (by omega)]
      unfold kr_lt
      dsimp only
      rw [hf a (by omega), hf b (by omega)]
    · exact kw_cd_congr fun i hi => (hf i (by omega)).symm
    · intro i hi
      rw [hf i (by omega)]
      exact hl i hi
  · rintro c ⟨p, p7, pC, R, rfl, h17⟩
    have hd : ∀ j, j < n → kw_dg n (kw_cd (fun i => f (p i)) n) j = f (p j) := fun j hj => kw_dg_cd (l := fun i => f (p i)) (fun j hj => by have := (h17 j hj).2; omega) hj
    refine ⟨kw_cd_lt fun i hi => by have := (h17 i hi).2; omega, fun i hi => by rw [hd i hi]; exact h17 i hi, fun i hi m => ?_⟩
    have m' : kw_mm (fun i => f (p i)) n i := kw_mm_congr hd hi m
    have mp := kr_mm hn hi R m'
    have hd7 : ∀ j, j < 7 → kw_dg 7 (kw_cd p 7) j = p j := fun j hj => kw_dg_cd (fun j hj => by have := p7 j hj; omega) hj
    have q := (hcl _ pC).2 i (by omega) (kw_mm_congr (fun j hj => (hd7 j hj).symm) (by omega) mp)
    rw [kw_cd_congr (kw_sw_congr hd7 (by omega))] at q
    have es : (fun j => f (kw_sw p i j)) = kw_sw (fun j => f (p j)) i := by
      funext j
      rw [kr_sw, kr_sw]
    refine ⟨kw_sw p i, kw_sw_lt (P := fun x => x < 7) p7 (by omega), q, ?_, ?_, ?_⟩
    · rw [es]
      exact kr_R hi R (kr_ne m')
    · rw [es]
      exact kw_cd_congr (kw_sw_congr hd hi)
    · intro j hj
      have := kw_sw_lt (P := fun x => 1 ≤ x ∧ x ≤ 7) h17 hi j hj
      rw [← es] at this
      exact this
/-- a row without repetitions in it is at most 64 long -/
theorem kc_pigeon {K : Nat → Prop} {D : List Nat} (hD : D.length ≤ 64) (hK : ∀ c, K c → c ∈ D) {g : Nat → Nat} {m : Nat} (hg : ∀ j, j < m → K (g j))
    (hi : ∀ i, i < m → ∀ j, j < m → g i = g j → i = j) : m ≤ 64 := by
  have nd : ((List.range m).map g).Nodup := by
    unfold List.Nodup
    rw [List.pairwise_map]
    refine List.Pairwise.imp_of_mem ?_ (List.pairwise_lt_range (n := m))
    intro a b ha hb hab e
    have := hi a (List.mem_range.mp ha) b (List.mem_range.mp hb) e
    omega
  have sb : (List.range m).map g ⊆ D := by
    intro x hx
    obtain ⟨j, hj, rfl⟩ := List.mem_map.mp hx
    exact hK _ (hg j (List.mem_range.mp hj))
  have := List.Nodup.length_le_of_subset nd sb
  rw [List.length_map, List.length_range] at this
  omega
end
section
/-! parts, assignments of places to parts, least numbers of parts -/
def kv_fit (up : Bool) (x e : Nat) : Prop := match up with
  | true => e ≤ x
  | false => x < e
def kv_in (up : Bool) : Nat := match up with
  | true => 0
  | false => 8
/-- kv_pw l up M i e: the places j < i with M j make a part, whose last letter is e -/
def kv_pw (l : Nat → Nat) (up : Bool) (M : Nat → Bool) : Nat → Nat → Prop
  | 0 => fun e => e = kv_in up
  | i + 1 => fun e => (M i = true ∧ e = l i ∧ ∃ e', kv_pw l up M i e' ∧ kv_fit up (l i) e') ∨ (M i = false ∧ kv_pw l up M i e)
def kv_pt (l : Nat → Nat) (up : Bool) (M : Nat → Bool) (n : Nat) : Prop := ∃ e, kv_pw l up M n e
theorem kv_pw_fun {l : Nat → Nat} {up : Bool} {M : Nat → Bool} : ∀ {n e e' : Nat}, kv_pw l up M n e → kv_pw l up M n e' → e = e'
  | 0, _, _, h, h' => Eq.trans h (Eq.symm h')
  | n + 1, _, _, h, h' => by
    rcases h with ⟨h1, h2, _⟩ | ⟨h1, h2⟩ <;> rcases h' with ⟨g1, g2, _⟩ | ⟨g1, g2⟩
    · rw [h2, g2]
    · rw [h1] at g1; exact Bool.noConfusion g1
    · rw [h1] at g1; exact Bool.noConfusion g1
    · exact kv_pw_fun h2 g2
theorem kv_pw_congr {l : Nat → Nat} {up : Bool} {M M' : Nat → Bool} : ∀ {n e : Nat}, (∀ j, j < n → M j = M' j) → kv_pw l up M n e → kv_pw l up M' n e
  | 0, _, _, h => h
  | n + 1, _, c, h => by
    rcases h with ⟨h1, h2, e', h3, h4⟩ | ⟨h1, h2⟩
    · exact Or.inl ⟨by rw [← c n (by omega)]; exact h1, h2, e', kv_pw_congr (fun j hj => c j (by omega)) h3, h4⟩
    · exact Or.inr ⟨by rw [← c n (by omega)]; exact h1, kv_pw_congr (fun j hj => c j (by omega)) h2⟩
theorem kv_pt_congr {l : Nat → Nat} {up : Bool} {M M' : Nat → Bool} {n : Nat} (c : ∀ j, j < n → M j = M' j) (h : kv_pt l up M n) : kv_pt l up M' n := by
  obtain ⟨e, he⟩ := h
  exact ⟨e, kv_pw_congr c he⟩
theorem kv_pw_none {l : Nat → Nat} {up : Bool} {M : Nat → Bool} : ∀ {n : Nat}, (∀ j, j < n → M j = false) → kv_pw l up M n (kv_in up)
  | 0, _ => rfl
  | n + 1, h => Or.inr ⟨h n (by omega), kv_pw_none (fun j hj => h j (by omega))⟩
theorem kv_pt_down {l : Nat → Nat} {up : Bool} {M : Nat → Bool} {n : Nat} (h : kv_pt l up M (n + 1)) : kv_pt l up M n := by
  obtain ⟨e, ⟨_, _, e', h, _⟩ | ⟨_, h⟩⟩ := h
  · exact ⟨e', h⟩
  · exact ⟨e, h⟩
theorem kv_pt_le {l : Nat → Nat} {up : Bool} {M : Nat → Bool} {m : Nat} : ∀ {n : Nat}, m ≤ n → kv_pt l up M n → kv_pt l up M m
  | 0, h, p => by have : m = 0 := by omega
                  rw [this]; exact p
  | n + 1, h, p => by
    by_cases e : m = n + 1
    · rw [e]; exact p
    · exact kv_pt_le (by omega) (kv_pt_down p)
def kv_ok (l : Nat → Nat) (up : Bool) (a : Nat → Nat) (k n : Nat) : Prop := ∀ q, 1 ≤ q → q ≤ k → kv_pt l up (fun j => decide (a j = q)) n
def kv_ct (a : Nat → Nat) (n : Nat) : Nat := kr_ct (fun j => decide (a j ≠ 0)) n
theorem kv_ok_congr {l : Nat → Nat} {up : Bool} {a b : Nat → Nat} {k n : Nat} (c : ∀ j, j < n → a j = b j) (h : kv_ok l up a k n) : kv_ok l up b k n :=
  fun q h1 h2 => kv_pt_congr (fun j hj => by rw [c j hj]) (h q h1 h2)
theorem kr_congr {P Q : Nat → Bool} : ∀ {n : Nat}, (∀ j, j < n → P j = Q j) → kr_ct P n = kr_ct Q n
  | 0, _ => rfl
  | n + 1, h => by
    show kr_ct P n + (if P n then 1 else 0) = kr_ct Q n + (if Q n then 1 else 0)
    rw [kr_congr (n := n) (fun j hj => h j (by omega)), h n (by omega)]
theorem kr_ct_le (P : Nat → Bool) : ∀ n : Nat, kr_ct P n ≤ n
  | 0 => Nat.le_refl _
  | n + 1 => by
    show kr_ct P n + (if P n then 1 else 0) ≤ n + 1
    have := kr_ct_le P n
    split <;> omega
theorem kr_ct_more {P : Nat → Bool} {n : Nat} : ∀ k : Nat, (∀ j, n ≤ j → P j = false) → kr_ct P (n + k) = kr_ct P n
  | 0, _ => rfl
  | k + 1, h => by
    show kr_ct P (n + k) + (if P (n + k) then 1 else 0) = kr_ct P n
    rw [kr_ct_more k h, h (n + k) (by omega)]
    rfl
theorem kv_ct_congr {a b : Nat → Nat} {n : Nat} (c : ∀ j, j < n → a j = b j) : kv_ct a n = kv_ct b n := kr_congr (fun j hj => by rw [c j hj])
/-- r is the greatest number of places that k parts can have together -/
def kv_mx (l : Nat → Nat) (up : Bool) (k n r : Nat) : Prop :=
  (r = 0 ∨ ∃ a : Nat → Nat, (∀ j, j < n → a j ≤ k) ∧ kv_ok l up a k n ∧ kv_ct a n = r) ∧
  ∀ a : Nat → Nat, (∀ j, j < n → a j ≤ k) → kv_ok l up a k n → kv_ct a n ≤ r
theorem kv_uniq {l : Nat → Nat} {up : Bool} {k n r r' : Nat} (h : kv_mx l up k n r) (h' : kv_mx l up k n r') : r = r' := by
  have a : r ≤ r' := by
    rcases h.1 with e | ⟨a, h1, h2, h3⟩
    · omega
    · rw [← h3]; exact h'.2 a h1 h2
  have b : r' ≤ r := by
    rcases h'.1 with e | ⟨a, h1, h2, h3⟩
    · omega
    · rw [← h3]; exact h.2 a h1 h2
  omega
/-! ways as numbers: the digits to the base b -/
def kv_dd (b w : Nat) : Nat → Nat := fun j => w / b ^ j % b
theorem kv_dd_s (b w j : Nat) : kv_dd b w (j + 1) = kv_dd b (w / b) j := by
  show w / b ^ (j + 1) % b = w / b / b ^ j % b
  rw [Nat.pow_succ, Nat.mul_comm, ← Nat.div_div_eq_div_mul]
theorem kv_enc {b : Nat} (hb : 0 < b) : ∀ (n : Nat) (a : Nat → Nat), (∀ j, j < n → a j < b) → ∃ w, w < b ^ n ∧ ∀ j, j < n → kv_dd b w j = a j
  | 0, _, _ => ⟨0, Nat.zero_lt_one, fun _ h => absurd h (by omega)⟩
  | n + 1, a, h => by
    obtain ⟨w, hw, hd⟩ := kv_enc hb n (fun j => a (j + 1)) (fun j hj => h (j + 1) (by omega))
    have ha := h 0 (by omega)
    refine ⟨b * w + a 0, ?_, ?_⟩
    · rw [Nat.pow_succ]
      have h1 : b * (w + 1) ≤ b * b ^ n := Nat.mul_le_mul_left b hw
      rw [Nat.mul_add, Nat.mul_one] at h1
      rw [Nat.mul_comm (b ^ n) b]
      omega
    · intro j hj
      cases j with
      | zero =>
        show (b * w + a 0) / b ^ 0 % b = a 0
        rw [Nat.pow_zero, Nat.div_one, Nat.mul_add_mod, Nat.mod_eq_of_lt ha]
      | succ j =>
        rw [kv_dd_s, Nat.mul_add_div hb, Nat.div_eq_of_lt ha]
        exact hd j (by omega)
theorem kv_mxw {l : Nat → Nat} {up : Bool} {k n r : Nat}
    (h1 : r = 0 ∨ ∃ w, w < (k + 1) ^ n ∧ kv_ok l up (kv_dd (k + 1) w) k n ∧ kv_ct (kv_dd (k + 1) w) n = r)
    (h2 : ∀ w, w < (k + 1) ^ n → kv_ok l up (kv_dd (k + 1) w) k n → kv_ct (kv_dd (k + 1) w) n ≤ r) : kv_mx l up k n r := by
  constructor
  · rcases h1 with e | ⟨w, _, h3, h4⟩
    · exact Or.inl e
    · exact Or.inr ⟨kv_dd (k + 1) w, fun j _ => Nat.le_of_lt_succ (Nat.mod_lt _ (by omega)), h3, h4⟩
  · intro a ha hok
    obtain ⟨w, hw, hd⟩ := kv_enc (b := k + 1) (by omega) n a (fun j hj => by have := ha j hj; omega)
    rw [← kv_ct_congr hd]
    exact h2 w hw (kv_ok_congr (fun j hj => (hd j hj).symm) hok)
/-! sets of places as numbers -/
theorem kv_mask (M : Nat → Bool) : ∀ n : Nat, ∃ p, p < 2 ^ n ∧ ∀ j, j < n → p.testBit j = M j
  | 0 => ⟨0, Nat.zero_lt_one, fun _ h => absurd h (by omega)⟩
  | n + 1 => by
    obtain ⟨p, hp, hb⟩ := kv_mask M n
    have h2 : p < 2 ^ (n + 1) := Nat.lt_trans hp (Nat.pow_lt_pow_right (by decide) (by omega))
    by_cases h : M n = true
    · refine ⟨p ||| 2 ^ n, Nat.or_lt_two_pow h2 (Nat.pow_lt_pow_right (by decide) (by omega)), fun j hj => ?_⟩
      rw [Nat.testBit_or, Nat.testBit_two_pow]
      by_cases e : j = n
      · subst e
        simp [h]
      · rw [hb j (by omega), decide_eq_false (by omega), Bool.or_false]
    · refine ⟨p, h2, fun j hj => ?_⟩
      by_cases e : j = n
      · subst e
        rw [Nat.testBit_lt_two_pow hp]
        simpa using h
      · exact hb j (by omega)
theorem kv_big {p n j : Nat} (hp : p < 2 ^ n) (h : n ≤ j) : p.testBit j = false :=
  Nat.testBit_lt_two_pow (Nat.lt_of_lt_of_le hp (Nat.pow_le_pow_right (by decide) h))
theorem kv_bz {p n : Nat} (hp : p < 2 ^ n) (h : ∀ j, j < n → p.testBit j = false) : p = 0 := by
  apply Nat.eq_of_testBit_eq
  intro j
  rw [Nat.zero_testBit]
  by_cases e : j < n
  · exact h j e
  · exact kv_big hp (by omega)
def kv_sz (s : Nat) : Nat := kr_ct (fun j => s.testBit j) 7
def kv_D (l : Nat → Nat) (up : Bool) (n k s : Nat) : Prop :=
  ∃ a : Nat → Nat, (∀ j, j < n → a j ≤ k) ∧ (∀ j, j < n → (a j ≠ 0 ↔ s.testBit j = true)) ∧ kv_ok l up a k n
theorem kv_sz_ct {s n : Nat} {a : Nat → Nat} (hn : n ≤ 7) (hs : s < 2 ^ n) (h : ∀ j, j < n → (a j ≠ 0 ↔ s.testBit j = true)) : kv_ct a n = kv_sz s := by
  have e : kv_sz s = kr_ct (fun j => s.testBit j) n := by
    have := kr_ct_more (P := fun j => s.testBit j) (n := n) (7 - n) (fun j hj => kv_big hs hj)
    rw [← this]
    have e : n + (7 - n) = 7 := by omega
    rw [e]
    rfl
  rw [e]
  apply kr_congr
  intro j hj
  have := h j hj
  show decide (a j ≠ 0) = s.testBit j
  by_cases b : s.testBit j = true
  · rw [b]; exact decide_eq_true (this.mpr b)
  · rw [decide_eq_false (fun z => b (this.mp z))]
    simpa using (Eq.symm (by simpa using b : s.testBit j = false))
theorem kv_mxs {l : Nat → Nat} {up : Bool} {k n r : Nat} (hn : n ≤ 7)
    (h1 : r = 0 ∨ ∃ s, s < 2 ^ n ∧ kv_D l up n k s ∧ kv_sz s = r)
    (h2 : ∀ s, s < 2 ^ n → kv_D l up n k s → kv_sz s ≤ r) : kv_mx l up k n r := by
  constructor
  · rcases h1 with e | ⟨s, hs, ⟨a, a1, a2, a3⟩, e⟩
    · exact Or.inl e
    · exact Or.inr ⟨a, a1, a3, by rw [kv_sz_ct hn hs a2, e]⟩
  · intro a ha hok
    obtain ⟨s, hs, hb⟩ := kv_mask (fun j => decide (a j ≠ 0)) n
    have a2 : ∀ j, j < n → (a j ≠ 0 ↔ s.testBit j = true) := fun j hj => by rw [hb j hj, decide_eq_true_iff]
    rw [kv_sz_ct hn hs a2]
    exact h2 s hs ⟨a, ha, a2, hok⟩
theorem kv_D0 {l : Nat → Nat} {up : Bool} {n s : Nat} (hs : s < 2 ^ n) (h : kv_D l up n 0 s) : s = 0 := by
  obtain ⟨a, a1, a2, _⟩ := h
  refine kv_bz hs fun j hj => ?_
  have h1 := a1 j hj
  have h2 := a2 j hj
  by_cases b : s.testBit j = true
  · have := h2.mpr b; omega
  · simpa using b
theorem kv_Dz (l : Nat → Nat) (up : Bool) (n k : Nat) : kv_D l up n k 0 :=
  ⟨fun _ => 0, fun _ _ => Nat.zero_le _, fun j _ => by rw [Nat.zero_testBit]; simp, fun q h1 _ => ⟨_, kv_pw_none (fun j _ => decide_eq_false (show ¬ 0 = q by omega))⟩⟩
theorem kv_subb {p s : Nat} (h : p &&& s = p) (j : Nat) (hj : p.testBit j = true) : s.testBit j = true := by
  have : (p &&& s).testBit j = true := by rw [h]; exact hj
  rw [Nat.testBit_and, hj, Bool.true_and] at this
  exact this
theorem kv_Ds {l : Nat → Nat} {up : Bool} {n k s p : Nat} (hsub : p &&& s = p) (hpt : kv_pt l up (fun j => p.testBit j) n) (h : kv_D l up n k (s ^^^ p)) : kv_D l up n (k + 1) s := by
  obtain ⟨a, a1, a2, a3⟩ := h
  refine ⟨fun j => if p.testBit j = true then k + 1 else a j, ?_, ?_, ?_⟩
  · intro j hj
    have := a1 j hj
    show (if p.testBit j = true then k + 1 else a j) ≤ k + 1
    split <;> omega
  · intro j hj
    show (if p.testBit j = true then k + 1 else a j) ≠ 0 ↔ s.testBit j = true
    by_cases b : p.testBit j = true
    · rw [if_pos b]
      exact ⟨fun _ => kv_subb hsub j b, fun _ => by omega⟩
    · rw [if_neg b, a2 j hj, Nat.testBit_xor]
      have : p.testBit j = false := by simpa using b
      rw [this, Bool.xor_false]
  · intro q h1 h2
    by_cases e : q = k + 1
    · refine kv_pt_congr (fun j hj => ?_) hpt
      have := a1 j hj
      show p.testBit j = decide ((if p.testBit j = true then k + 1 else a j) = q)
      by_cases b : p.testBit j = true
      · rw [if_pos b, b, decide_eq_true e.symm]
      · rw [if_neg b, decide_eq_false (by omega)]
        simpa using b
    · refine kv_pt_congr (fun j hj => ?_) (a3 q h1 (by omega))
      show decide (a j = q) = decide ((if p.testBit j = true then k + 1 else a j) = q)
      by_cases b : p.testBit j = true
      · rw [if_pos b, decide_eq_false (p := k + 1 = q) (by omega)]
        have z := a2 j hj
        rw [Nat.testBit_xor, b, kv_subb hsub j b] at z
        have : a j = 0 := by
          by_cases y : a j = 0
          · exact y
          · have := z.mp y; exact absurd this (by decide)
        exact decide_eq_false (by omega)
      · rw [if_neg b]
theorem kv_Di {l : Nat → Nat} {up : Bool} {n k s : Nat} (hs : s < 2 ^ n) (h : kv_D l up n (k + 1) s) :
    kv_D l up n k s ∨ ∃ p, p ≠ 0 ∧ p < 2 ^ n ∧ p &&& s = p ∧ kv_pt l up (fun j => p.testBit j) n ∧ kv_D l up n k (s ^^^ p) := by
  obtain ⟨a, a1, a2, a3⟩ := h
  obtain ⟨p, hp, hb⟩ := kv_mask (fun j => decide (a j = k + 1)) n
  by_cases z : p = 0
  · left
    have hk : ∀ j, j < n → a j ≤ k := by
      intro j hj
      have h1 := a1 j hj
      have h2 := hb j hj
      rw [z, Nat.zero_testBit] at h2
      have h3 : ¬ a j = k + 1 := of_decide_eq_false h2.symm
      omega
    exact ⟨a, hk, a2, fun q h1 h2 => a3 q h1 (by omega)⟩
  · right
    have pb : ∀ j, j < n → (p.testBit j = true ↔ a j = k + 1) := fun j hj => by rw [hb j hj, decide_eq_true_iff]
    have hsub : p &&& s = p := by
      apply Nat.eq_of_testBit_eq
      intro j
      rw [Nat.testBit_and]
      by_cases e : j < n
      · by_cases b : p.testBit j = true
        · have h1 := (pb j e).mp b
          have h2 := (a2 j e).mp (by omega)
          rw [b, h2]
          rfl
        · have : p.testBit j = false := by simpa using b
          rw [this, Bool.false_and]
      · rw [kv_big hp (by omega), Bool.false_and]
    refine ⟨p, z, hp, hsub, ?_, ?_⟩
    · exact kv_pt_congr (fun j hj => (hb j hj).symm) (a3 (k + 1) (by omega) (by omega))
    · refine ⟨fun j => if a j = k + 1 then 0 else a j, ?_, ?_, ?_⟩
      · intro j hj
        have := a1 j hj
        show (if a j = k + 1 then 0 else a j) ≤ k
        split <;> omega
      · intro j hj
        show (if a j = k + 1 then 0 else a j) ≠ 0 ↔ (s ^^^ p).testBit j = true
        have h1 := pb j hj
        have h2 := a2 j hj
        rw [Nat.testBit_xor]
        by_cases e : a j = k + 1
        · rw [if_pos e, h1.mpr e, h2.mp (by omega)]
          exact ⟨fun z => absurd rfl z, fun z => absurd z (by decide)⟩
        · rw [if_neg e]
          have : p.testBit j = false := by
            by_cases b : p.testBit j = true
            · exact absurd (h1.mp b) e
            · simpa using b
          rw [this, Bool.xor_false]
          exact h2
      · intro q h1 h2
        refine kv_pt_congr (fun j hj => ?_) (a3 q h1 (by omega))
        show decide (a j = q) = decide ((if a j = k + 1 then 0 else a j) = q)
        by_cases e : a j = k + 1
        · rw [if_pos e, decide_eq_false (p := 0 = q) (by omega), decide_eq_false (by omega)]
        · rw [if_neg e]
theorem kv_b1 (b : Bool) : b = decide ((if b = true then 1 else 0) = 1) := by cases b <;> rfl
theorem kv_D1 {l : Nat → Nat} {up : Bool} {n s : Nat} : kv_D l up n 1 s ↔ kv_pt l up (fun j => s.testBit j) n := by
  constructor
  · rintro ⟨a, a1, a2, a3⟩
    refine kv_pt_congr (fun j hj => ?_) (a3 1 (by omega) (by omega))
    have h1 := a1 j hj
    have h2 := a2 j hj
    show decide (a j = 1) = s.testBit j
    by_cases b : s.testBit j = true
    · have := h2.mpr b
      rw [b]
      exact decide_eq_true (by omega)
    · have c : s.testBit j = false := by simpa using b
      rw [c]
      exact decide_eq_false (fun z => b (h2.mp (by omega)))
  · intro h
    refine ⟨fun j => if s.testBit j = true then 1 else 0, ?_, ?_, ?_⟩
    · intro j _
      show (if s.testBit j = true then 1 else 0) ≤ 1
      split <;> omega
    · intro j _
      show (if s.testBit j = true then 1 else 0) ≠ 0 ↔ s.testBit j = true
      by_cases b : s.testBit j = true
      · rw [if_pos b]; exact ⟨fun _ => b, fun _ => by omega⟩
      · rw [if_neg b]; exact ⟨fun z => absurd rfl z, fun z => absurd z b⟩
    · intro q h1 h2
      have e : q = 1 := by omega
      subst e
      refine kv_pt_congr (fun j _ => ?_) h
      exact kv_b1 (s.testBit j)
/-! the least number of parts -/
def kv_nd (l : Nat → Nat) (up : Bool) (n s v : Nat) : Prop := v ≤ 8 ∧ ∀ j, j < 8 → (v ≤ j ↔ kv_D l up n j s)
theorem kv_nd0 (l : Nat → Nat) (up : Bool) (n : Nat) : kv_nd l up n 0 0 := ⟨by omega, fun j _ => ⟨fun _ => kv_Dz l up n j, fun _ => by omega⟩⟩
theorem kv_nds {l : Nat → Nat} {up : Bool} {n t v : Nat} {N : Nat → Nat} (ht : t < 2 ^ n) (h0 : t ≠ 0)
    (hN : ∀ p, p ≠ 0 → p &&& t = p → kv_nd l up n (t ^^^ p) (N (t ^^^ p))) (h8 : v ≤ 8)
    (hv : ∀ j, j < 8 → (v ≤ j ↔ ∃ p, p ≠ 0 ∧ p &&& t = p ∧ kv_pt l up (fun i => p.testBit i) n ∧ N (t ^^^ p) + 1 ≤ j)) : kv_nd l up n t v := by
  refine ⟨h8, ?_⟩
  intro j
  induction j with
  | zero =>
    intro hj
    rw [hv 0 hj]
    constructor
    · rintro ⟨p, _, _, _, h⟩; omega
    · intro h; exact absurd (kv_D0 ht h) h0
  | succ j ih =>
    intro hj
    rw [hv (j + 1) hj]
    constructor
    · rintro ⟨p, p1, p2, p3, h⟩
      have := (hN p p1 p2).2 j (by omega)
      exact kv_Ds p2 p3 (this.mp (by omega))
    · intro h
      rcases kv_Di ht h with d | ⟨p, p1, _, p3, p4, d⟩
      · obtain ⟨p, q1, q2, q3, q4⟩ := (hv j (by omega)).mp ((ih (by omega)).mpr d)
        exact ⟨p, q1, q2, q3, by omega⟩
      · have := ((hN p p1 p3).2 j (by omega)).mpr d
        exact ⟨p, p1, p3, p4, by omega⟩
/-! submasks, the next one below -/
theorem kv_and2 (x y : Nat) : x &&& y = 2 * (x / 2 &&& y / 2) + (x % 2) * (y % 2) := by
  have d : (x &&& y) / 2 ^ 1 = x / 2 ^ 1 &&& y / 2 ^ 1 := Nat.and_div_two_pow
  have m : (x &&& y) % 2 ^ 1 = x % 2 ^ 1 &&& y % 2 ^ 1 := Nat.and_mod_two_pow
  have e : x % 2 ^ 1 &&& y % 2 ^ 1 = (x % 2) * (y % 2) := by
    have hx : x % 2 ^ 1 = 0 ∨ x % 2 ^ 1 = 1 := by omega
    have hy : y % 2 ^ 1 = 0 ∨ y % 2 ^ 1 = 1 := by omega
    have hx' : x % 2 = x % 2 ^ 1 := rfl
    have hy' : y % 2 = y % 2 ^ 1 := rfl
    rw [hx', hy']
    rcases hx with a | a <;> rcases hy with b | b <;> rw [a, b] <;> rfl
  rw [e] at m
  have := Nat.div_add_mod (x &&& y) (2 ^ 1)
  rw [d, m] at this
  exact this.symm
theorem kv_xor2 (x y : Nat) : x ^^^ y = 2 * (x / 2 ^^^ y / 2) + (x % 2 + y % 2) % 2 := by
  have d : (x ^^^ y) / 2 ^ 1 = x / 2 ^ 1 ^^^ y / 2 ^ 1 := Nat.xor_div_two_pow
  have m : (x ^^^ y) % 2 ^ 1 = x % 2 ^ 1 ^^^ y % 2 ^ 1 := Nat.xor_mod_two_pow
  have e : x % 2 ^ 1 ^^^ y % 2 ^ 1 = (x % 2 + y % 2) % 2 := by
    have hx : x % 2 ^ 1 = 0 ∨ x % 2 ^ 1 = 1 := by omega
    have hy : y % 2 ^ 1 = 0 ∨ y % 2 ^ 1 = 1 := by omega
    have hx' : x % 2 = x % 2 ^ 1 := rfl
    have hy' : y % 2 = y % 2 ^ 1 := rfl
    rw [hx', hy']
    rcases hx with a | a <;> rcases hy with b | b <;> rw [a, b] <;> rfl
  rw [e] at m
  have := Nat.div_add_mod (x ^^^ y) (2 ^ 1)
  rw [d, m] at this
  exact this.symm
theorem kv_hb {x y : Nat} (h : x &&& y = x) : x / 2 &&& y / 2 = x / 2 ∧ x % 2 ≤ y % 2 := by
  have e := kv_and2 x y
  rw [h] at e
  have hx : x % 2 = 0 ∨ x % 2 = 1 := by omega
  have hy : y % 2 = 0 ∨ y % 2 = 1 := by omega
  generalize x / 2 &&& y / 2 = z at *
  rcases hx with a | a <;> rcases hy with b | b <;> rw [a, b] at e <;> omega
theorem kv_next : ∀ (b p s q : Nat), p < 2 ^ b → p &&& s = p → q &&& s = q → q < p → q ≤ (p - 1) &&& s
  | 0, p, s, q, hp, _, _, h => by simp at hp; omega
  | b + 1, p, s, q, hp, h1, h2, h => by
    obtain ⟨g1, g2⟩ := kv_hb h1
    obtain ⟨g3, g4⟩ := kv_hb h2
    rw [kv_and2 (p - 1) s]
    have hp' : p / 2 < 2 ^ b := by rw [Nat.pow_succ] at hp; omega
    by_cases c : p % 2 = 1
    · have e1 : (p - 1) / 2 = p / 2 := by omega
      have e2 : (p - 1) % 2 = 0 := by omega
      rw [e1, e2, g1]
      omega
    · have e1 : (p - 1) / 2 = p / 2 - 1 := by omega
      have e2 : (p - 1) % 2 = 1 := by omega
      have ih := kv_next b (p / 2) (s / 2) (q / 2) hp' g1 g3 (by omega)
      rw [e1, e2]
      omega
theorem kv_xsub : ∀ (b p s : Nat), p < 2 ^ b → p &&& s = p → (s ^^^ p) + p = s
  | 0, p, s, hp, _ => by
    have : p = 0 := by simpa using hp
    subst this
    rw [Nat.xor_zero]
    rfl
  | b + 1, p, s, hp, h => by
    obtain ⟨g1, g2⟩ := kv_hb h
    have hp' : p / 2 < 2 ^ b := by rw [Nat.pow_succ] at hp; omega
    have ih := kv_xsub b (p / 2) (s / 2) hp' g1
    rw [kv_xor2]
    omega
end
section
/-! numbers at the walks -/
theorem kx_sle {n m j : Nat} (hn : n < 2 ^ 30) (hm : m < 2 ^ 30) (hj : j < 2 ^ 31) : nI n - nI m ≤ nI j ↔ n ≤ j + m := by
  rw [Int32.le_iff_toInt_le, pk_sub_toInt hn hm, nI_toInt hj]
  omega
theorem kx_lts {n m j : Nat} (hn : n < 2 ^ 30) (hm : m < 2 ^ 30) (hj : j < 2 ^ 31) : nI j < nI n - nI m ↔ j + m < n := by
  rw [Int32.lt_iff_toInt_lt, pk_sub_toInt hn hm, nI_toInt hj]
  omega
theorem kx_7 {p0 p1 : Int32} {w i : Nat} (h0 : p0 = nI w) (h1 : p1 = nI i) : 7 * p0 + p1 = nI (7 * w + i) := by
  rw [h0, h1, show (7 : Int32) = nI 7 from rfl, pk_mul, nI_add]
theorem kx_w (p0 : Int32) : (∃ j, j < 2 ∧ p0 = nI j) ∨ (¬ p0 = 0 ∧ ¬ p0 = 1 ∧ (p0 < 0 ∨ (¬ p0 < 0 ∧ ¬ p0 ≤ 1))) := by
  rcases pk_ix p0 (n := 2) (by decide) with h | h | ⟨j, hj, e⟩
  · right
    refine ⟨?_, ?_, Or.inl h⟩
    · intro e; rw [e] at h; exact absurd h (by decide)
    · intro e; rw [e] at h; exact absurd h (by decide)
  · right
    have h0 : ¬ p0 < 0 := by
      intro z
      have := Int32.lt_of_le_of_lt h z
      exact absurd this (by decide)
    obtain ⟨j, hj, rfl⟩ := nI_of h0
    rw [nI_leI (by decide) hj] at h
    refine ⟨?_, ?_, Or.inr ⟨h0, ?_⟩⟩
    · intro e
      rw [← nI_0, nI_eq hj (by decide)] at e
      omega
    · intro e
      have e' : nI j = nI 1 := e
      rw [nI_eq hj (by decide)] at e'
      omega
    · intro e
      have e' : nI j ≤ nI 1 := e
      rw [nI_leI hj (by decide)] at e'
      omega
  · exact Or.inl ⟨j, hj, e⟩
theorem kx_isW {post : Int32 → Prop} {w : Nat} (hw : w < 2) (h : post 1) : wpX_isWord post (nI w) := by
  match w, hw with
  | 0, _ => exact br_t rfl h
  | 1, _ => exact br_f (by decide) (br_t rfl h)
theorem kx_isN {post : Int32 → Prop} {p0 : Int32} (h0 : ¬ p0 = 0) (h1 : ¬ p0 = 1) (h : post 0) : wpX_isWord post p0 := br_f h0 (br_f h1 h)
theorem ky_isW {post : Int32 → Prop} {f : Int32} {lt sz row cY sg nd : Nat → Int32} {w : Nat} (hw : w < 2) (h : post 0) : wpY_bad post (f, lt, sz, row, cY, sg, nd) (nI w) := by
  match w, hw with
  | 0, _ => exact br_f (by decide) (br_t (by decide) h)
  | 1, _ => exact br_f (by decide) (br_t (by decide) h)
theorem ky_isN {post : Int32 → Prop} {f : Int32} {lt sz row cY sg nd : Nat → Int32} {p0 : Int32} (h0 : p0 < 0 ∨ (¬ p0 < 0 ∧ ¬ p0 ≤ 1)) (h : post 1) : wpY_bad post (f, lt, sz, row, cY, sg, nd) p0 := by
  rcases h0 with h0 | ⟨h0, h1⟩
  · exact br_t h0 h
  · exact br_f h0 (br_f h1 h)
theorem kx_1n0 : ¬ (1 : Int32) = 0 := by decide
/-- n letters, each 1 to 7 -/
def kx_V (n : Nat) (l : Nat → Nat) : Prop := n ≤ 7 ∧ ∀ i, i < n → 1 ≤ l i ∧ l i ≤ 7
theorem kx_V8 {n : Nat} {l : Nat → Nat} (h : kx_V n l) : ∀ j, j < n → l j < 8 := fun j hj => by have := (h.2 j hj).2; omega
theorem kx_c7 {n c : Nat} (hn : n ≤ 7) (h : c < 8 ^ n) : c < 2097152 :=
  Nat.lt_of_lt_of_le h (Nat.le_trans (Nat.pow_le_pow_right (by decide) hn) (by decide))
theorem kx_cl {n : Nat} {l : Nat → Nat} (h : kx_V n l) : kw_cd l n < 2097152 := kx_c7 h.1 (kw_cd_lt (kx_V8 h))
/-! the component's small methods -/
theorem kx_shr {c m : Nat} (hc : c < 2097152) (hm : m < 32) : nI c >>> (nI m &&& 31) = nI (c / 2 ^ m) := pk_shrN (by omega) _ m (s_l m hm)
theorem kx_let {post : Int32 → Prop} {l : Nat → Nat} {n i : Nat} {p0 p1 p2 : Int32} (h0 : p0 = nI (kw_cd l n)) (h1 : p1 = nI n) (h2 : p2 = nI i)
    (hn : n ≤ 7) (hl : ∀ j, j < n → l j < 8) (hi : i < n) (h : post (nI (l i))) : wpX_letterIn post p0 p1 p2 := by
  subst h0 h1 h2
  have hc : kw_cd l n < 2097152 := kx_c7 hn (kw_cd_lt hl)
  show post ((nI (kw_cd l n) >>> ((3 * ((nI n - 1) - nI i)) &&& 31)) &&& 7)
  rw [show (1 : Int32) = nI 1 from rfl, pk_sub (show 1 ≤ n by omega), pk_sub (show i ≤ n - 1 by omega), show (3 : Int32) = nI 3 from rfl, pk_mul, kx_shr hc (by omega),
    pk_andN (Nat.lt_of_le_of_lt (Nat.div_le_self _ _) (by omega)) 3 (by decide), ← kw_8p, show (2 : Nat) ^ 3 = 8 from rfl, kw_dig hl hi]
  exact h
theorem kx_m75 {post : Int32 → Prop} {l : Nat → Nat} {n i x z : Nat} (hn : n ≤ 7) (hl : ∀ j, j < n → l j < 8) (hi : i + 1 < n) (hx : x < 8) (hz : z < 8)
    (h1 : (i + 2 < n ∧ x ≤ l (i + 2) ∧ l (i + 2) < z) → post 1) (h0 : ¬ (i + 2 < n ∧ x ≤ l (i + 2) ∧ l (i + 2) < z) → post 0) :
    wX_mayMove_75 post (nI (kw_cd l n)) (nI n) (nI i) (nI x) (nI z) := by
  refine pk_le (n - 2) i (fun a => h0 (by omega)) (fun a => ?_) (pk_sub (a := n) (b := 2) (by omega)) rfl (by omega) (by omega)
  have hy := hl (i + 2) (by omega)
  refine kx_let rfl rfl (nI_add i 2) hn hl (by omega) ?_
  refine pk_lt (l (i + 2)) x (fun b => h0 (by omega)) (fun b => ?_) rfl rfl (by omega) (by omega)
  exact pk_le z (l (i + 2)) (fun c => h0 (by omega)) (fun c => h1 ⟨by omega, b, c⟩) rfl rfl (by omega) (by omega)
theorem kx_m43 {post : Int32 → Prop} {l : Nat → Nat} {n i x z : Nat} (hn : n ≤ 7) (hl : ∀ j, j < n → l j < 8) (hi : i + 1 < n) (hx : x < 8) (hz : z < 8)
    (h1 : ((0 < i ∧ x < l (i - 1) ∧ l (i - 1) ≤ z) ∨ (i + 2 < n ∧ x ≤ l (i + 2) ∧ l (i + 2) < z)) → post 1)
    (h0 : ¬ ((0 < i ∧ x < l (i - 1) ∧ l (i - 1) ≤ z) ∨ (i + 2 < n ∧ x ≤ l (i + 2) ∧ l (i + 2) < z)) → post 0) :
    wX_mayMove_43 post (nI (kw_cd l n)) (nI n) (nI i) (nI x) (nI z) := by
  have f : (¬ (0 < i ∧ x < l (i - 1) ∧ l (i - 1) ≤ z)) → wX_mayMove_75 post (nI (kw_cd l n)) (nI n) (nI i) (nI x) (nI z) :=
    fun c => kx_m75 hn hl hi hx hz (fun d => h1 (Or.inr d)) (fun d => h0 (fun e => e.elim c d))
  refine pk_le i 0 (fun a => f (by omega)) (fun a => ?_) rfl rfl (by omega) (by omega)
  have hy := hl (i - 1) (by omega)
  refine kx_let rfl rfl (pk_sub (a := i) (b := 1) (by omega)) hn hl (by omega) ?_
  refine pk_le (l (i - 1)) x (fun b => f (by omega)) (fun b => ?_) rfl rfl (by omega) (by omega)
  exact pk_lt z (l (i - 1)) (fun c => f (by omega)) (fun c => h1 (Or.inl ⟨a, b, c⟩)) rfl rfl (by omega) (by omega)
theorem kx_may {post : Int32 → Prop} {l : Nat → Nat} {n i : Nat} {p0 p1 p2 : Int32} (e0 : p0 = nI (kw_cd l n)) (e1 : p1 = nI n) (e2 : p2 = nI i) (hn : n ≤ 7) (hl : ∀ j, j < n → l j < 8) (hi : i + 1 < n)
    (h1 : kw_mm l n i → post 1) (h0 : ¬ kw_mm l n i → post 0) : wpX_mayMove post p0 p1 p2 := by
  subst e0 e1 e2
  have ha := hl i (by omega)
  have hb := hl (i + 1) hi
  unfold kw_mm at h1 h0
  unfold wpX_mayMove
  refine kx_let rfl rfl rfl hn hl (by omega) ?_
  refine kx_let rfl rfl (nI_1 i) hn hl hi ?_
  refine pk_le (l (i + 1)) (l i) (fun a => ?_) (fun a => ?_) rfl rfl (by omega) (by omega)
  · refine pk_le (l (i + 1)) (l i) (fun a => ?_) (fun b => absurd b (by omega)) rfl rfl (by omega) (by omega)
    exact kx_m43 hn hl hi hb ha (fun c => h1 (by omega)) (fun c => h0 (by omega))
  · refine pk_le (l (i + 1)) (l i) (fun b => absurd b (by omega)) (fun _ => ?_) rfl rfl (by omega) (by omega)
    exact kx_m43 hn hl hi ha hb (fun c => h1 (by omega)) (fun c => h0 (by omega))
theorem kx_shl {d m : Nat} (hd : d < 8) (hm : m ≤ 21) : nI d <<< (nI m &&& 31) = nI (d * 2 ^ m) := by
  refine pk_shlN _ m (s_l m (by omega)) ?_
  have h1 : 2 ^ m ≤ 2 ^ 21 := Nat.pow_le_pow_right (by decide) hm
  have h2 : d * 2 ^ m ≤ 8 * 2 ^ 21 := Nat.mul_le_mul (by omega) h1
  exact Nat.lt_of_le_of_lt h2 (by decide)
theorem kx_exd {post : Int32 → Prop} {l : Nat → Nat} {n i : Nat} {p0 p1 p2 : Int32} (e0 : p0 = nI (kw_cd l n)) (e1 : p1 = nI n) (e2 : p2 = nI i) (hn : n ≤ 7) (hl : ∀ j, j < n → l j < 8) (hi : i + 1 < n)
    (h : post (nI (kw_cd (kw_sw l i) n))) : wpX_exchanged post p0 p1 p2 := by
  subst e0 e1 e2
  unfold wpX_exchanged
  refine kx_let rfl rfl rfl hn hl (by omega) ?_
  refine kx_let rfl rfl (nI_1 i) hn hl hi ?_
  have hd : l i ^^^ l (i + 1) < 8 := Nat.xor_lt_two_pow (n := 3) (hl i (by omega)) (hl (i + 1) hi)
  have e : 3 * ((nI n - 2) - nI i) = nI (3 * (n - 2 - i)) := by
    rw [show (2 : Int32) = nI 2 from rfl, pk_sub (show 2 ≤ n by omega), pk_sub (show i ≤ n - 2 by omega), show (3 : Int32) = nI 3 from rfl, pk_mul]
  refine nm_r (nx_xor _ _) (nm_r e ?_)
  rw [show (3 : Int32) = nI 3 from rfl, nI_add, kx_shl hd (by omega), kx_shl hd (by omega), nx_xor, nx_xor, kw_swap_code hl hi]
  exact h
theorem kx_ix {n : Nat} (hn : n ≤ 7) (x : Int32) : x < 0 ∨ (¬ x < 0 ∧ nI n - 1 ≤ x ∧ ¬ x < nI n - 1) ∨ (∃ i, x = nI i ∧ i + 1 < n ∧ ¬ x < 0 ∧ ¬ nI n - 1 ≤ x ∧ x < nI n - 1) := by
  by_cases h : x < 0
  · exact Or.inl h
  · obtain ⟨j, hj, rfl⟩ := nI_of h
    have a := kx_sle (n := n) (m := 1) (j := j) (by omega) (by omega) hj
    have b := kx_lts (n := n) (m := 1) (j := j) (by omega) (by omega) hj
    rw [show (nI 1 : Int32) = 1 from rfl] at a b
    by_cases c : j + 1 < n
    · exact Or.inr (Or.inr ⟨j, rfl, c, h, fun z => by have := a.mp z; omega, b.mpr c⟩)
    · exact Or.inr (Or.inl ⟨h, a.mpr (by omega), fun z => c (b.mp z)⟩)
/-! the reference's small methods -/
section
variable {f : Int32} {lt sz row cY sg nd : Nat → Int32}
theorem ky_take {post : Int32 → SY → Prop} {p0 : Int32} {w n : Nat} {l : Nat → Nat} (hw : w < 2) (e0 : p0 = nI w) (hn : n ≤ 7) (hz : sz w = nI n) (hlt : ∀ i, i < n → lt (7 * w + i) = nI (l i))
    (H : ∀ row', (∀ i, i < n → row' i = nI (l i)) → post (nI n) (f, lt, sz, row', cY, sg, nd)) : wpY_take post (f, lt, sz, row, cY, sg, nd) p0 := by
  subst e0
  have hwc : (nI w).toNatClampNeg = w := nI_clamp (by omega)
  have hz' : sz (nI w).toNatClampNeg = nI n := by rw [hwc]; exact hz
  have hv : vp_in (nI w) 2 := vp_in_nI hw (by omega)
  refine loop_0 (fun m i s => wY_take_2 post (nI w) f m (nI i) lt sz s cY sg nd) (fun i s => ∀ j, j < i → s j = nI (l j)) n row (fun _ h => absurd h (by omega)) ?_ ?_
  · intro m s hs
    refine ⟨hv, pk_le n n (fun _ => ⟨hv, ?_⟩) (fun z => absurd z (by omega)) hz' rfl (by omega) (by omega)⟩
    rw [hz']
    exact H s hs
  · intro m i s hi hs ih
    refine ⟨hv, pk_le n i (fun z => absurd z (by omega)) (fun _ => ?_) hz' rfl (by omega) (by omega)⟩
    refine ⟨pk_in (7 * w + i) 14 (by omega) (kx_7 rfl rfl) (by omega), pk_in i 7 (by omega) rfl (by omega), ?_⟩
    refine nm_e (nm_r (nI_1 i) ?_)
    refine ih _ fun j hj => ?_
    rw [nI_clamp (show i < 2 ^ 31 by omega)]
    by_cases e : j = i
    · rw [e, pk_us, pk_cl (7 * w + i) (kx_7 rfl rfl) (by omega)]
      exact hlt i hi
    · rw [pk_un e]
      exact hs j (by omega)
theorem ky_m86 {post : Int32 → Prop} {l : Nat → Nat} {n i x z : Nat} (hn : n ≤ 7) (hl : ∀ j, j < n → l j < 8) (hr : ∀ j, j < n → row j = nI (l j)) (hi : i + 1 < n) (hx : x < 8) (hz : z < 8)
    (h1 : (i + 2 < n ∧ x ≤ l (i + 2) ∧ l (i + 2) < z) → post 1) (h0 : ¬ (i + 2 < n ∧ x ≤ l (i + 2) ∧ l (i + 2) < z) → post 0) :
    wY_isMove_86 post (nI n) (nI i) (nI x) (nI z) f lt sz row cY sg nd := by
  refine pk_le n (i + 2) (fun a => h0 (by omega)) (fun a => ?_) rfl (nI_add i 2) (by omega) (by omega)
  have hy := hl (i + 2) (by omega)
  have e : row (nI i + 2).toNatClampNeg = nI (l (i + 2)) := by
    rw [pk_cl (x := nI i + 2) (i + 2) (nI_add i 2) (by omega)]; exact hr _ (by omega)
  have hv : vp_in (nI i + 2) 7 := pk_in (i + 2) 7 (by omega) (nI_add i 2) (by omega)
  refine ⟨hv, pk_lt (l (i + 2)) x (fun b => h0 (by omega)) (fun b => ⟨hv, ?_⟩) e rfl (by omega) (by omega)⟩
  exact pk_le z (l (i + 2)) (fun c => h0 (by omega)) (fun c => h1 ⟨by omega, b, c⟩) rfl e (by omega) (by omega)
theorem ky_m43 {post : Int32 → Prop} {l : Nat → Nat} {n i x z : Nat} (hn : n ≤ 7) (hl : ∀ j, j < n → l j < 8) (hr : ∀ j, j < n → row j = nI (l j)) (hi : i + 1 < n) (hx : x < 8) (hz : z < 8)
    (h1 : ((0 < i ∧ x < l (i - 1) ∧ l (i - 1) ≤ z) ∨ (i + 2 < n ∧ x ≤ l (i + 2) ∧ l (i + 2) < z)) → post 1)
    (h0 : ¬ ((0 < i ∧ x < l (i - 1) ∧ l (i - 1) ≤ z) ∨ (i + 2 < n ∧ x ≤ l (i + 2) ∧ l (i + 2) < z)) → post 0) :
    wY_isMove_43 post (nI n) (nI i) (nI x) (nI z) f lt sz row cY sg nd := by
  have g : (¬ (0 < i ∧ x < l (i - 1) ∧ l (i - 1) ≤ z)) → wY_isMove_86 post (nI n) (nI i) (nI x) (nI z) f lt sz row cY sg nd :=
    fun c => ky_m86 hn hl hr hi hx hz (fun d => h1 (Or.inr d)) (fun d => h0 (fun e => e.elim c d))
  refine pk_eq x z (fun a => h0 (by omega)) (fun _ => ?_) rfl rfl (by omega) (by omega)
  refine pk_le i 0 (fun a => g (by omega)) (fun a => ?_) rfl rfl (by omega) (by omega)
  have hy := hl (i - 1) (by omega)
  have es : nI i - 1 = nI (i - 1) := pk_sub (a := i) (b := 1) (by omega)
  have e : row (nI i - 1).toNatClampNeg = nI (l (i - 1)) := by
    rw [pk_cl (i - 1) es (by omega)]; exact hr _ (by omega)
  have hv : vp_in (nI i - 1) 7 := pk_in (i - 1) 7 (by omega) es (by omega)
  refine ⟨hv, pk_le (l (i - 1)) x (fun b => g (by omega)) (fun b => ⟨hv, ?_⟩) e rfl (by omega) (by omega)⟩
  exact pk_lt z (l (i - 1)) (fun c => g (by omega)) (fun c => h1 (Or.inl ⟨a, b, c⟩)) rfl e (by omega) (by omega)
theorem ky_may {post : Int32 → Prop} {l : Nat → Nat} {n i : Nat} {p0 p1 : Int32} (e0 : p0 = nI n) (e1 : p1 = nI i) (hn : n ≤ 7) (hl : ∀ j, j < n → l j < 8) (hr : ∀ j, j < n → row j = nI (l j)) (hi : i + 1 < n)
    (h1 : kw_mm l n i → post 1) (h0 : ¬ kw_mm l n i → post 0) : wpY_isMove post (f, lt, sz, row, cY, sg, nd) p0 p1 := by
  subst e0 e1
  have ha := hl i (by omega)
  have hb := hl (i + 1) hi
  unfold kw_mm at h1 h0
  have ea : row (nI i).toNatClampNeg = nI (l i) := by rw [nI_clamp (by omega)]; exact hr _ (by omega)
  have eb : row (nI i + 1).toNatClampNeg = nI (l (i + 1)) := by rw [pk_cl (i + 1) (nI_1 i) (by omega)]; exact hr _ hi
  refine ⟨pk_in i 7 (by omega) rfl (by omega), nm_r ea ⟨pk_in (i + 1) 7 (by omega) (nI_1 i) (by omega), nm_r eb ?_⟩⟩
  refine pk_le (l (i + 1)) (l i) (fun a => ?_) (fun a => ?_) rfl rfl (by omega) (by omega)
  · refine pk_le (l (i + 1)) (l i) (fun a => ?_) (fun b => absurd b (by omega)) rfl rfl (by omega) (by omega)
    exact ky_m43 hn hl hr hi hb ha (fun c => h1 (by omega)) (fun c => h0 (by omega))
  · refine pk_le (l (i + 1)) (l i) (fun b => absurd b (by omega)) (fun _ => ?_) rfl rfl (by omega) (by omega)
    exact ky_m43 hn hl hr hi ha hb (fun c => h1 (by omega)) (fun c => h0 (by omega))
theorem ky_code {post : Int32 → Prop} {l : Nat → Nat} {n : Nat} {p0 : Int32} (e0 : p0 = nI n) (hn : n ≤ 7) (hr : ∀ j, j < n → row j = nI (l j)) (h : post (nI (kw_cd l n))) :
    wpY_codeOfRow post (f, lt, sz, row, cY, sg, nd) p0 := by
  subst e0
  refine loop_0 (fun m i (s : Int32) => wY_codeOfRow_4 post (nI n) f lt sz row cY sg nd m s (nI i)) (fun i s => s = nI (kw_cd l i)) n 0 rfl ?_ ?_
  · intro m s hs
    exact pk_le n n (fun _ => by rw [hs]; exact h) (fun z => absurd z (by omega)) rfl rfl (by omega) (by omega)
  · intro m i s hi hs ih
    refine pk_le n i (fun z => absurd z (by omega)) (fun _ => ?_) rfl rfl (by omega) (by omega)
    refine ⟨pk_in i 7 (by omega) rfl (by omega), nm_r (e' := nI (kw_cd l (i + 1))) ?_ (nm_r (nI_1 i) (ih _ rfl))⟩
    rw [hs, nI_clamp (show i < 2 ^ 31 by omega), hr i hi, show (8 : Int32) = nI 8 from rfl, pk_mul, nI_add]
    rfl
theorem ky_spread {post : SY → Prop} {n c : Nat} {p0 p1 : Int32} (e0 : p0 = nI c) (e1 : p1 = nI n) (hn : n ≤ 7) (hc : c < 8 ^ n)
    (H : ∀ row', (∀ i, i < n → row' i = nI (kw_dg n c i)) → post (f, lt, sz, row', cY, sg, nd)) : wpY_spread post (f, lt, sz, row, cY, sg, nd) p0 p1 := by
  subst e0 e1
  have hc7 := kx_c7 hn hc
  have hdz : ∀ m, c / 8 ^ m < 2 ^ 31 := fun m => Nat.lt_of_le_of_lt (Nat.div_le_self _ _) (by omega)
  refine nm_e ⟨n + 1, ?_⟩
  have key := pk_loopD (fun fu m (s : Nat → Int32) => wY_spread_7 post f fu (nI (c / 8 ^ (n - m))) (nI m - 1) lt sz s cY sg nd)
    (fun m s => m ≤ n ∧ ∀ j, m ≤ j → j < n → s j = nI (kw_dg n c j)) ?_ ?_ n row ⟨Nat.le_refl _, fun j h1 h2 => absurd h1 (by omega)⟩
  · have e : c / 8 ^ (n - n) = c := by rw [Nat.sub_self, Nat.pow_zero, Nat.div_one]
    simp only [e] at key
    exact key
  · intro m s hs
    exact br_t (by decide) (H s fun i hi => hs.2 i (by omega) hi)
  · intro m i s hs ih
    have hn1 := hs.1
    rw [nI_pred]
    refine br_f (nI_pos (by omega)) ⟨by decide, pk_in i 7 (by omega) rfl (by omega), nm_e ⟨by decide, ?_⟩⟩
    have ed : nI (c / 8 ^ (n - (i + 1))) / 8 = nI (c / 8 ^ (n - i)) := by
      have e : n - i = (n - (i + 1)) + 1 := by omega
      rw [show (8 : Int32) = nI 8 from rfl, pk_div (hdz _) (by decide) (by decide), Nat.div_div_eq_div_mul, e, Nat.pow_succ]
    have er : nI (c / 8 ^ (n - (i + 1))) - nI (c / 8 ^ (n - (i + 1))) / 8 * 8 = nI (kw_dg n c i) := by
      rw [show (8 : Int32) = nI 8 from rfl, pk_rem (hdz _) (by decide) (by decide)]
      have e : n - (i + 1) = n - 1 - i := by omega
      rw [e]
      rfl
    refine nm_r ed (nm_r (show nI i + (-1) = nI i - 1 from (Int32.sub_eq_add_neg _ _).symm) (ih _ ⟨by omega, fun j h1 h2 => ?_⟩))
    rw [nI_clamp (show i < 2 ^ 31 by omega), er]
    by_cases e : j = i
    · rw [e, pk_us]
    · rw [pk_un e]
      exact hs.2 j (by omega) h2
end
end
section
/-! the relation: both words are the same on both sides; everything else is made anew by each call -/
def kx_J (cX sz lt : Nat → Int32) : Prop := ∀ w, w < 2 → ∃ (n : Nat) (l : Nat → Nat), kx_V n l ∧ sz w = nI n ∧ cX w = nI (kw_cd l n) ∧ ∀ i, i < n → lt (7 * w + i) = nI (l i)
def i_Rel (k : Nat) (u : SX) (v : SY) : Prop :=
  ∃ (fc : Int32) (cX sz fd en : Nat → Int32) (f : Int32) (lt row cY sg nd : Nat → Int32), u = (fc, cX, sz, fd, en) ∧ v = (f, lt, sz, row, cY, sg, nd) ∧ kx_J cX sz lt
theorem kx_mk {k : Nat} {fc f : Int32} {cX sz fd en lt row cY sg nd : Nat → Int32} (J : kx_J cX sz lt) : i_Rel k (fc, cX, sz, fd, en) (f, lt, sz, row, cY, sg, nd) :=
  ⟨fc, cX, sz, fd, en, f, lt, row, cY, sg, nd, rfl, rfl, J⟩
theorem i_up {k : Nat} {u : SX} {v : SY} (h : i_Rel k u v) : i_Rel (k + 3) u v := h
theorem i_vc0 : wpX_init (fun u => wpY_init (fun v => i_Rel 0 u v)) :=
  kx_mk (k := 0) (fun w _ => ⟨0, fun _ => 0, ⟨by omega, fun _ h => absurd h (by omega)⟩, rfl, rfl, fun _ h => absurd h (by omega)⟩)
theorem kx_Ju {cX sz lt cX' sz' lt' : Nat → Int32} {w n : Nat} {l : Nat → Nat} (J : kx_J cX sz lt) (hw : w < 2) (V : kx_V n l) (h1 : sz' w = nI n) (h2 : cX' w = nI (kw_cd l n))
    (h3 : ∀ i, i < n → lt' (7 * w + i) = nI (l i)) (g1 : ∀ x, x ≠ w → sz' x = sz x) (g2 : ∀ x, x ≠ w → cX' x = cX x) (g3 : ∀ x, x ≠ w → ∀ i, i < 7 → lt' (7 * x + i) = lt (7 * x + i)) : kx_J cX' sz' lt' := by
  intro x hx
  by_cases e : x = w
  · subst e
    exact ⟨n, l, V, h1, h2, h3⟩
  · obtain ⟨m, k, V', a, b, c⟩ := J x hx
    refine ⟨m, k, V', by rw [g1 x e, a], by rw [g2 x e, b], fun i hi => ?_⟩
    rw [g3 x e i (by have := V'.1; omega)]
    exact c i hi
theorem kx_bs {A B : Prop} {n i : Nat} (hn : n ≤ 7) (hi : i < 2 ^ 31) (f : n ≤ i + 1 → A) (g : i + 1 < n → B) : (nI n - 1 ≤ nI i → A) ∧ (¬ nI n - 1 ≤ nI i → B) := by
  have a := kx_sle (n := n) (m := 1) (j := i) (by omega) (by omega) hi
  exact ⟨fun h => f (a.mp h), fun h => g (by by_cases c : n ≤ i + 1; exact absurd (a.mpr c) h; omega)⟩
theorem kx_cw {w : Nat} (hw : w < 2) : (nI w).toNatClampNeg = w := nI_clamp (by omega)
theorem kx_vw {w : Nat} (hw : w < 2) : vp_in (nI w) 2 := vp_in_nI hw (by omega)
/-! add -/
theorem i_vc_add {k : Nat} {u : SX} {v : SY} (I : i_Rel k u v) (hk : k + 3 ≤ 1536) (v1 : Int32) (v2 : Int32) : wpX_add (fun r u' => wpY_add (fun r' v' => r' = r ∧ i_Rel (k + 3) u' v') v v1 v2) u v1 v2 := by
  obtain ⟨fc, cX, sz, fd, en, f, lt, row, cY, sg, nd, rfl, rfl, J⟩ := I
  have R : i_Rel (k + 3) (fc, cX, sz, fd, en) (f, lt, sz, row, cY, sg, nd) := kx_mk J
  unfold wpX_add wpY_add
  dsimp only
  rcases kx_w v1 with ⟨w, hw, rfl⟩ | ⟨h0, h1, h2⟩
  · obtain ⟨n, l, V, hz, hc, hlt⟩ := J w hw
    have hv := kx_vw hw
    have hn := V.1
    have hz' : sz (nI w).toNatClampNeg = nI n := by rw [kx_cw hw]; exact hz
    refine kx_isW hw (br_f kx_1n0 ?_)
    by_cases a : v2 < 1
    · exact br_t a (ky_isW hw (br_t rfl (br_t a ⟨rfl, R⟩)))
    refine br_f a ?_
    by_cases b : v2 ≤ 7
    · refine br_t b ⟨hv, ?_⟩
      have a0 : ¬ v2 < 0 := fun z => a (Int32.lt_of_lt_of_le z (by decide))
      obtain ⟨x, hx, rfl⟩ := nI_of2 (M := 7) (n := 7) (by decide) a0 b
      have hx1 : 1 ≤ x := by
        by_cases c : 1 ≤ x
        · exact c
        · have : x = 0 := by omega
          subst this
          exact absurd (show nI 0 < 1 by decide) a
      refine pk_lt n 7 (fun c => ?_) (fun c => ?_) hz' rfl (by omega) (by omega)
      · refine ⟨hv, hv, nm_e ⟨hv, hv, nm_e ⟨hv, ?_⟩⟩⟩
        refine ky_isW hw (br_t rfl (br_f a (br_t b ⟨hv, ?_⟩)))
        refine pk_eq n 7 (fun z => absurd z (by omega)) (fun _ => ?_) hz' rfl (by omega) (by omega)
        have e7 : 7 * nI w + sz (nI w).toNatClampNeg = nI (7 * w + n) := kx_7 rfl hz'
        refine ⟨hv, pk_in (7 * w + n) 14 (by omega) e7 (by omega), nm_e ⟨hv, hv, nm_e ⟨hv, rfl, ?_⟩⟩⟩
        rw [pk_cl (7 * w + n) e7 (by omega), kx_cw hw, hz, hc]
        refine kx_mk (kx_Ju (n := n + 1) (l := fun i => if i = n then x else l i) J hw ⟨by omega, fun i hi => ?_⟩ ?_ ?_ ?_ (fun _ h => pk_un h) (fun _ h => pk_un h) ?_)
        · show 1 ≤ (if i = n then x else l i) ∧ (if i = n then x else l i) ≤ 7
          by_cases e : i = n
          · rw [if_pos e]; exact ⟨hx1, hx⟩
          · rw [if_neg e]; exact V.2 i (by omega)
        · rw [pk_us, nI_1]
        · have hcl := kx_cl V
          rw [pk_us, pk_shlN ((3 : Int32) &&& 31) 3 (by decide) (by omega), show (2 : Nat) ^ 3 = 8 from rfl, kw_or8 (by omega)]
          show nI _ = nI (8 * kw_cd (fun i => if i = n then x else l i) n + (if n = n then x else l n))
          rw [if_pos rfl, kw_cd_congr (l := fun i => if i = n then x else l i) (l' := l) (fun i hi => if_neg (by omega))]
        · intro i hi
          show _ = nI (if i = n then x else l i)
          by_cases e : i = n
          · rw [if_pos e, e, pk_us]
          · rw [if_neg e, pk_un (by omega)]
            exact hlt i (by omega)
        · intro y hy i hi
          exact pk_un (by omega)
      · refine ky_isW hw (br_t rfl (br_f a (br_t b ⟨hv, ?_⟩)))
        exact pk_eq n 7 (fun _ => ⟨rfl, R⟩) (fun z => absurd z (by omega)) hz' rfl (by omega) (by omega)
    · exact br_f b (ky_isW hw (br_t rfl (br_f a (br_f b ⟨rfl, R⟩))))
  · exact kx_isN h0 h1 (br_t rfl (ky_isN h2 (br_f kx_1n0 ⟨rfl, R⟩)))
/-! drop -/
theorem i_vc_drop {k : Nat} {u : SX} {v : SY} (I : i_Rel k u v) (hk : k + 3 ≤ 1536) (v1 : Int32) : wpX_drop (fun r u' => wpY_drop (fun r' v' => r' = r ∧ i_Rel (k + 3) u' v') v v1) u v1 := by
  obtain ⟨fc, cX, sz, fd, en, f, lt, row, cY, sg, nd, rfl, rfl, J⟩ := I
  have R : i_Rel (k + 3) (fc, cX, sz, fd, en) (f, lt, sz, row, cY, sg, nd) := kx_mk J
  unfold wpX_drop wpY_drop
  dsimp only
  rcases kx_w v1 with ⟨w, hw, rfl⟩ | ⟨h0, h1, h2⟩
  · obtain ⟨n, l, V, hz, hc, hlt⟩ := J w hw
    have hv := kx_vw hw
    have hn := V.1
    have hz' : sz (nI w).toNatClampNeg = nI n := by rw [kx_cw hw]; exact hz
    refine kx_isW hw (br_f kx_1n0 ⟨hv, ?_⟩)
    refine pk_eq n 0 (fun a => ?_) (fun a => ?_) hz' rfl (by omega) (by omega)
    · refine ky_isW hw (br_t rfl ⟨hv, ?_⟩)
      exact pk_eq n 0 (fun _ => ⟨rfl, R⟩) (fun z => absurd a z) hz' rfl (by omega) (by omega)
    · obtain ⟨m, rfl⟩ : ∃ m, n = m + 1 := ⟨n - 1, by omega⟩
      have hcl := kx_cl V
      have hm := V.2 m (by omega)
      have hcd : kw_cd l (m + 1) = 8 * kw_cd l m + l m := rfl
      refine ⟨hv, nm_e ⟨hv, hv, nm_e ⟨hv, hv, nm_e ?_⟩⟩⟩
      refine ky_isW hw (br_t rfl ⟨hv, ?_⟩)
      refine pk_eq (m + 1) 0 (fun z => absurd z (by omega)) (fun _ => ?_) hz' rfl (by omega) (by omega)
      have es : upd sz (nI w).toNatClampNeg (sz (nI w).toNatClampNeg - 1) (nI w).toNatClampNeg = nI m := by rw [pk_us, hz', nI_pred]
      have e7 : 7 * nI w + upd sz (nI w).toNatClampNeg (sz (nI w).toNatClampNeg - 1) (nI w).toNatClampNeg = nI (7 * w + m) := kx_7 rfl es
      refine ⟨hv, hv, nm_e ⟨hv, pk_in (7 * w + m) 14 (by omega) e7 (by omega), ?_, ?_⟩⟩
      · rw [pk_cl (7 * w + m) e7 (by omega), hlt m (by omega), kx_cw hw, hc, pk_andN (by omega) 3 (by decide)]
        exact congrArg nI (by rw [hcd]; show l m = (8 * kw_cd l m + l m) % 8; omega)
      · rw [kx_cw hw]
        refine kx_mk (kx_Ju (n := m) (l := l) J hw ⟨by omega, fun i hi => V.2 i (by omega)⟩ ?_ ?_ (fun i hi => hlt i (by omega)) (fun _ h => pk_un h) (fun _ h => pk_un h) (fun _ _ _ _ => rfl))
        · rw [pk_us, hz, nI_pred]
        · rw [pk_us, hc, pk_shrN (by omega) ((3 : Int32) &&& 31) 3 (by decide)]
          exact congrArg nI (by rw [hcd]; show (8 * kw_cd l m + l m) / 8 = kw_cd l m; omega)
  · exact kx_isN h0 h1 (br_t rfl (ky_isN h2 (br_f kx_1n0 ⟨rfl, R⟩)))
/-! exchange, move -/
theorem ky_swap {post : SY → Prop} {f : Int32} {lt sz row cY sg nd : Nat → Int32} {w i n : Nat} {l : Nat → Nat} (hw : w < 2) (hn : n ≤ 7) (hi : i + 1 < n) (hlt : ∀ j, j < n → lt (7 * w + j) = nI (l j))
    (H : ∀ lt', (∀ j, j < n → lt' (7 * w + j) = nI (kw_sw l i j)) → (∀ x, x ≠ 7 * w + i → x ≠ 7 * w + i + 1 → lt' x = lt x) → post (f, lt', sz, row, cY, sg, nd)) :
    wpY_swap post (f, lt, sz, row, cY, sg, nd) (nI w) (nI i) := by
  have e : 7 * nI w + nI i = nI (7 * w + i) := kx_7 rfl rfl
  have e1 : 7 * nI w + nI i + 1 = nI (7 * w + i + 1) := by rw [e, nI_1]
  have v0 : vp_in (7 * nI w + nI i) 14 := pk_in (7 * w + i) 14 (by omega) e (by omega)
  have v1 : vp_in (7 * nI w + nI i + 1) 14 := pk_in (7 * w + i + 1) 14 (by omega) e1 (by omega)
  refine ⟨v0, nm_e ⟨v1, v0, nm_e ⟨v1, nm_e ?_⟩⟩⟩
  rw [pk_cl (7 * w + i) e (by omega), pk_cl (7 * w + i + 1) e1 (by omega), hlt i (by omega), show lt (7 * w + i + 1) = nI (l (i + 1)) from hlt (i + 1) hi]
  refine H _ (fun j hj => ?_) (fun x h1 h2 => by rw [pk_un h2, pk_un h1])
  show _ = nI (if j = i then l (i + 1) else if j = i + 1 then l i else l j)
  by_cases c : j = i
  · rw [if_pos c, c, pk_un (by omega), pk_us]
  · rw [if_neg c]
    by_cases d : j = i + 1
    · rw [if_pos d, d]
      exact pk_us
    · rw [if_neg d, pk_un (by omega), pk_un (by omega)]
      exact hlt j hj
theorem kx_Js {cX sz lt lt' : Nat → Int32} {w n i : Nat} {l : Nat → Nat} (J : kx_J cX sz lt) (hw : w < 2) (V : kx_V n l) (hi : i + 1 < n) (hz : sz w = nI n)
    (h1 : ∀ j, j < n → lt' (7 * w + j) = nI (kw_sw l i j)) (h2 : ∀ x, x ≠ 7 * w + i → x ≠ 7 * w + i + 1 → lt' x = lt x) : kx_J (upd cX w (nI (kw_cd (kw_sw l i) n))) sz lt' := by
  have hn := V.1
  refine kx_Ju (n := n) (l := kw_sw l i) J hw ⟨V.1, kw_sw_lt (P := fun x => 1 ≤ x ∧ x ≤ 7) V.2 hi⟩ hz pk_us h1 (fun _ _ => rfl) (fun _ h => pk_un h) (fun x hx j hj => h2 _ (by omega) (by omega))
theorem i_vc_exchange {k : Nat} {u : SX} {v : SY} (I : i_Rel k u v) (hk : k + 3 ≤ 1536) (v1 : Int32) (v2 : Int32) : wpX_exchange (fun r u' => wpY_exchange (fun r' v' => r' = r ∧ i_Rel (k + 3) u' v') v v1 v2) u v1 v2 := by
  obtain ⟨fc, cX, sz, fd, en, f, lt, row, cY, sg, nd, rfl, rfl, J⟩ := I
  have R : i_Rel (k + 3) (fc, cX, sz, fd, en) (f, lt, sz, row, cY, sg, nd) := kx_mk J
  unfold wpX_exchange
  dsimp only
  rcases kx_w v1 with ⟨w, hw, rfl⟩ | ⟨h0, h1, h2⟩
  · obtain ⟨n, l, V, hz, hc, hlt⟩ := J w hw
    have hv := kx_vw hw
    have hn := V.1
    have hz' : sz (nI w).toNatClampNeg = nI n := by rw [kx_cw hw]; exact hz
    have hc' : cX (nI w).toNatClampNeg = nI (kw_cd l n) := by rw [kx_cw hw]; exact hc
    refine kx_isW hw (br_f kx_1n0 ⟨hv, ?_⟩)
    rw [hz', hc']
    rcases kx_ix hn v2 with a | ⟨a, b, c⟩ | ⟨i, rfl, hi, a, b, c⟩
    · refine br_t a (br_t rfl ?_)
      unfold wpY_exchange
      dsimp only
      exact ky_isW hw (br_t rfl (br_t a (br_f kx_1n0 ⟨rfl, R⟩)))
    · rw [← hz'] at c
      refine br_f a (br_t b (br_t rfl ?_))
      unfold wpY_exchange
      dsimp only
      exact ky_isW hw (br_t rfl (br_f a ⟨hv, br_f c (br_f kx_1n0 ⟨rfl, R⟩)⟩))
    · rw [← hz'] at c
      refine br_f a (br_f b (br_f kx_1n0 ⟨hv, hv, ?_⟩))
      have Y : ∀ (post : Int32 → SY → Prop), (∀ lt' row', (∀ j, j < n → lt' (7 * w + j) = nI (kw_sw l i j)) → (∀ x, x ≠ 7 * w + i → x ≠ 7 * w + i + 1 → lt' x = lt x) →
          (kw_mm l n i → post 1 (f, lt', sz, row', cY, sg, nd)) ∧ (¬ kw_mm l n i → post 0 (f, lt', sz, row', cY, sg, nd))) → wpY_exchange post (f, lt, sz, row, cY, sg, nd) (nI w) (nI i) := by
        intro post H
        unfold wpY_exchange
        dsimp only
        refine ky_isW hw (br_t rfl (br_f a ⟨hv, br_t c (br_t rfl ?_)⟩))
        refine ky_take hw rfl hn hz hlt fun row' hr => ?_
        refine ky_may rfl rfl hn (kx_V8 V) hr hi (fun m => ?_) (fun m => ?_)
        · exact ky_swap hw hn hi hlt fun lt' g1 g2 => br_f kx_1n0 ((H lt' row' g1 g2).1 m)
        · exact ky_swap hw hn hi hlt fun lt' g1 g2 => br_t rfl ((H lt' row' g1 g2).2 m)
      refine kx_may rfl rfl rfl hn (kx_V8 V) hi (fun m => ?_) (fun m => ?_)
      · refine ⟨hv, hv, kx_exd rfl rfl rfl hn (kx_V8 V) hi ⟨hv, nm_e (br_f kx_1n0 ?_)⟩⟩
        refine Y _ fun lt' row' g1 g2 => ⟨fun _ => ⟨rfl, ?_⟩, fun z => absurd m z⟩
        rw [kx_cw hw]
        exact kx_mk (kx_Js J hw V hi hz g1 g2)
      · refine ⟨hv, hv, kx_exd rfl rfl rfl hn (kx_V8 V) hi ⟨hv, nm_e (br_t rfl ?_)⟩⟩
        refine Y _ fun lt' row' g1 g2 => ⟨fun z => absurd z m, fun _ => ⟨rfl, ?_⟩⟩
        rw [kx_cw hw]
        exact kx_mk (kx_Js J hw V hi hz g1 g2)
  · refine kx_isN h0 h1 (br_t rfl ?_)
    unfold wpY_exchange
    dsimp only
    exact ky_isN h2 (br_f kx_1n0 ⟨rfl, R⟩)
theorem i_vc_move {k : Nat} {u : SX} {v : SY} (I : i_Rel k u v) (hk : k + 3 ≤ 1536) (v1 : Int32) (v2 : Int32) : wpX_move (fun r u' => wpY_move (fun r' v' => r' = r ∧ i_Rel (k + 3) u' v') v v1 v2) u v1 v2 := by
  obtain ⟨fc, cX, sz, fd, en, f, lt, row, cY, sg, nd, rfl, rfl, J⟩ := I
  have R : i_Rel (k + 3) (fc, cX, sz, fd, en) (f, lt, sz, row, cY, sg, nd) := kx_mk J
  unfold wpX_move
  dsimp only
  rcases kx_w v1 with ⟨w, hw, rfl⟩ | ⟨h0, h1, h2⟩
  · obtain ⟨n, l, V, hz, hc, hlt⟩ := J w hw
    have hv := kx_vw hw
    have hn := V.1
    have hz' : sz (nI w).toNatClampNeg = nI n := by rw [kx_cw hw]; exact hz
    have hc' : cX (nI w).toNatClampNeg = nI (kw_cd l n) := by rw [kx_cw hw]; exact hc
    refine kx_isW hw (br_f kx_1n0 ⟨hv, ?_⟩)
    rw [hz', hc']
    rcases kx_ix hn v2 with a | ⟨a, b, c⟩ | ⟨i, rfl, hi, a, b, c⟩
    · refine br_t a (br_t rfl ?_)
      unfold wpY_move
      dsimp only
      exact ky_isW hw (br_t rfl (br_t a (br_f kx_1n0 ⟨rfl, R⟩)))
    · rw [← hz'] at c
      refine br_f a (br_t b (br_t rfl ?_))
      unfold wpY_move
      dsimp only
      exact ky_isW hw (br_t rfl (br_f a ⟨hv, br_f c (br_f kx_1n0 ⟨rfl, R⟩)⟩))
    · rw [← hz'] at c
      refine br_f a (br_f b (br_f kx_1n0 ⟨hv, hv, ?_⟩))
      have Y : ∀ (post : Int32 → SY → Prop), (kw_mm l n i → ∀ lt' row', (∀ j, j < n → lt' (7 * w + j) = nI (kw_sw l i j)) → (∀ x, x ≠ 7 * w + i → x ≠ 7 * w + i + 1 → lt' x = lt x) →
          post 1 (f, lt', sz, row', cY, sg, nd)) → (¬ kw_mm l n i → ∀ row', post (-4) (f, lt, sz, row', cY, sg, nd)) → wpY_move post (f, lt, sz, row, cY, sg, nd) (nI w) (nI i) := by
        intro post H1 H0
        unfold wpY_move
        dsimp only
        refine ky_isW hw (br_t rfl (br_f a ⟨hv, br_t c (br_t rfl ?_)⟩))
        refine ky_take hw rfl hn hz hlt fun row' hr => ?_
        refine ky_may rfl rfl hn (kx_V8 V) hr hi (fun m => br_f kx_1n0 ?_) (fun m => br_t rfl (H0 m row'))
        exact ky_swap hw hn hi hlt fun lt' g1 g2 => H1 m lt' row' g1 g2
      refine kx_may rfl rfl rfl hn (kx_V8 V) hi (fun m => br_f kx_1n0 ?_) (fun m => br_t rfl ?_)
      · refine ⟨hv, hv, kx_exd rfl rfl rfl hn (kx_V8 V) hi ⟨hv, nm_e ?_⟩⟩
        refine Y _ (fun _ lt' row' g1 g2 => ⟨rfl, ?_⟩) (fun z => absurd m z)
        rw [kx_cw hw]
        exact kx_mk (kx_Js J hw V hi hz g1 g2)
      · exact Y _ (fun z => absurd z m) (fun _ row' => ⟨rfl, kx_mk J⟩)
  · refine kx_isN h0 h1 (br_t rfl ?_)
    unfold wpY_move
    dsimp only
    exact ky_isN h2 (br_f kx_1n0 ⟨rfl, R⟩)
end
section
/-! turn, letter, code, descents -/
def kx_tn (l : Nat → Nat) (n : Nat) : Nat → Nat := fun j => 8 - l (n - 1 - j)
theorem kx_tnV {n : Nat} {l : Nat → Nat} (V : kx_V n l) : kx_V n (kx_tn l n) :=
  ⟨V.1, fun i hi => by have := V.2 (n - 1 - i) (by omega); show 1 ≤ 8 - l (n - 1 - i) ∧ 8 - l (n - 1 - i) ≤ 7; omega⟩
theorem kx_turn {post : Int32 → SX → Prop} {fc : Int32} {cX sz fd en : Nat → Int32} {w n : Nat} {l : Nat → Nat} (hw : w < 2) (V : kx_V n l) (hz : sz w = nI n) (hc : cX w = nI (kw_cd l n))
    (H : post (nI n) (fc, upd cX w (nI (kw_cd (kx_tn l n) n)), sz, fd, en)) : ∃ m, wX_turn_20 post (nI w) fc cX sz fd en m 0 (nI n - 1) := by
  have hv := kx_vw hw
  have hn := V.1
  have hz' : sz (nI w).toNatClampNeg = nI n := by rw [kx_cw hw]; exact hz
  have hc' : cX (nI w).toNatClampNeg = nI (kw_cd l n) := by rw [kx_cw hw]; exact hc
  refine ⟨n + 1, ?_⟩
  refine pk_loopD (fun fu m (s : Int32) => wX_turn_20 post (nI w) fc cX sz fd en fu s (nI m - 1)) (fun m s => m ≤ n ∧ s = nI (kw_cd (kx_tn l n) (n - m))) ?_ ?_ n 0 ⟨Nat.le_refl _, by rw [Nat.sub_self]; rfl⟩
  · intro m s hs
    have e : s = nI (kw_cd (kx_tn l n) n) := hs.2
    subst e
    refine br_t (by decide) ⟨hv, nm_e ⟨hv, ?_⟩⟩
    rw [hz', kx_cw hw]
    exact H
  · intro fu m s hs ih
    have hm := hs.1
    have e := hs.2
    subst e
    rw [nI_pred]
    refine br_f (nI_pos (by omega)) ⟨hv, hv, kx_let hc' hz' rfl hn (kx_V8 V) (by omega) ?_⟩
    refine nm_r (e' := nI (kw_cd (kx_tn l n) (n - m))) ?_ (nm_r (show nI m + (-1) = nI m - 1 from (Int32.sub_eq_add_neg _ _).symm) (ih _ ⟨by omega, rfl⟩))
    have hlm := V.2 m (by omega)
    have hb : kw_cd (kx_tn l n) (n - (m + 1)) < 2097152 := kx_c7 (n := n - (m + 1)) (by omega) (kw_cd_lt (fun i hi => kx_V8 (kx_tnV V) i (by omega)))
    rw [show (8 : Int32) = nI 8 from rfl, pk_sub (show l m ≤ 8 by omega), pk_shlN ((3 : Int32) &&& 31) 3 (by decide) (by omega), show (2 : Nat) ^ 3 = 8 from rfl, kw_or8 (by omega)]
    have e2 : n - m = (n - (m + 1)) + 1 := by omega
    rw [e2]
    show nI (8 * kw_cd (kx_tn l n) (n - (m + 1)) + (8 - l m)) = nI (8 * kw_cd (kx_tn l n) (n - (m + 1)) + (8 - l (n - 1 - (n - (m + 1)))))
    have e3 : n - 1 - (n - (m + 1)) = m := by omega
    rw [e3]
theorem ky_turn {post : Int32 → SY → Prop} {f : Int32} {lt sz row cY sg nd : Nat → Int32} {w n : Nat} {l : Nat → Nat} (hw : w < 2) (V : kx_V n l) (hr : ∀ i, i < n → row i = nI (l i))
    (H : ∀ lt', (∀ j, j < n → lt' (7 * w + j) = nI (kx_tn l n j)) → (∀ x, (∀ j, j < n → x ≠ 7 * w + j) → lt' x = lt x) → post (nI n) (f, lt', sz, row, cY, sg, nd)) :
    ∃ m, wY_turn_18 post (nI w) (nI n) f m 0 lt sz row cY sg nd := by
  have hn := V.1
  refine loop_0 (fun m i s => wY_turn_18 post (nI w) (nI n) f m (nI i) s sz row cY sg nd) (fun i s => (∀ j, j < i → s (7 * w + j) = nI (kx_tn l n j)) ∧ (∀ x, (∀ j, j < n → x ≠ 7 * w + j) → s x = lt x)) n lt
    ⟨fun _ h => absurd h (by omega), fun _ _ => rfl⟩ ?_ ?_
  · intro m s hs
    exact pk_le n n (fun _ => H s hs.1 hs.2) (fun z => absurd z (by omega)) rfl rfl (by omega) (by omega)
  · intro m i s hi hs ih
    refine pk_le n i (fun z => absurd z (by omega)) (fun _ => ?_) rfl rfl (by omega) (by omega)
    have e : nI n - 1 - nI i = nI (n - 1 - i) := by rw [show (1 : Int32) = nI 1 from rfl, pk_sub (show 1 ≤ n by omega), pk_sub (show i ≤ n - 1 by omega)]
    have e7 : 7 * nI w + nI i = nI (7 * w + i) := kx_7 rfl rfl
    refine ⟨pk_in (n - 1 - i) 7 (by omega) e (by omega), pk_in (7 * w + i) 14 (by omega) e7 (by omega), nm_e (nm_r (nI_1 i) ?_)⟩
    rw [pk_cl (7 * w + i) e7 (by omega), pk_cl (n - 1 - i) e (by omega)]
    have hv := V.2 (n - 1 - i) (by omega)
    rw [hr _ (by omega), show (8 : Int32) = nI 8 from rfl, pk_sub (show l (n - 1 - i) ≤ 8 by omega)]
    refine ih _ ⟨fun j hj => ?_, fun x hx => ?_⟩
    · by_cases c : j = i
      · rw [c, pk_us]; rfl
      · rw [pk_un (by omega)]
        exact hs.1 j (by omega)
    · rw [pk_un (hx i hi)]
      exact hs.2 x hx
theorem i_vc_turn {k : Nat} {u : SX} {v : SY} (I : i_Rel k u v) (hk : k + 3 ≤ 1536) (v1 : Int32) : wpX_turn (fun r u' => wpY_turn (fun r' v' => r' = r ∧ i_Rel (k + 3) u' v') v v1) u v1 := by
  obtain ⟨fc, cX, sz, fd, en, f, lt, row, cY, sg, nd, rfl, rfl, J⟩ := I
  have R : i_Rel (k + 3) (fc, cX, sz, fd, en) (f, lt, sz, row, cY, sg, nd) := kx_mk J
  unfold wpX_turn
  dsimp only
  rcases kx_w v1 with ⟨w, hw, rfl⟩ | ⟨h0, h1, h2⟩
  · obtain ⟨n, l, V, hz, hc, hlt⟩ := J w hw
    have hv := kx_vw hw
    have hn := V.1
    have hz' : sz (nI w).toNatClampNeg = nI n := by rw [kx_cw hw]; exact hz
    refine kx_isW hw (br_f kx_1n0 ⟨hv, ?_⟩)
    rw [hz']
    refine nm_e (kx_turn hw V hz hc ?_)
    unfold wpY_turn
    dsimp only
    refine ky_isW hw (br_t rfl ?_)
    refine ky_take hw rfl hn hz hlt fun row' hr => ?_
    refine ky_turn hw V hr fun lt' g1 g2 => ⟨rfl, kx_mk ?_⟩
    exact kx_Ju (n := n) (l := kx_tn l n) J hw (kx_tnV V) hz pk_us g1 (fun _ _ => rfl) (fun _ h => pk_un h) (fun x hx j hj => g2 _ (fun i hi => by omega))
  · refine kx_isN h0 h1 (br_t rfl ?_)
    unfold wpY_turn
    dsimp only
    exact ky_isN h2 (br_f kx_1n0 ⟨rfl, R⟩)
theorem i_vc_letter {k : Nat} {u : SX} {v : SY} (I : i_Rel k u v) (hk : k + 3 ≤ 1536) (v1 : Int32) (v2 : Int32) : wpX_letter (fun r => wpY_letter (fun r' => r' = r ∧ i_Rel (k + 3) u v) v v1 v2) u v1 v2 := by
  obtain ⟨fc, cX, sz, fd, en, f, lt, row, cY, sg, nd, rfl, rfl, J⟩ := I
  have R : i_Rel (k + 3) (fc, cX, sz, fd, en) (f, lt, sz, row, cY, sg, nd) := kx_mk J
  unfold wpX_letter wpY_letter
  dsimp only
  rcases kx_w v1 with ⟨w, hw, rfl⟩ | ⟨h0, h1, h2⟩
  · obtain ⟨n, l, V, hz, hc, hlt⟩ := J w hw
    have hv := kx_vw hw
    have hn := V.1
    have hz' : sz (nI w).toNatClampNeg = nI n := by rw [kx_cw hw]; exact hz
    have hc' : cX (nI w).toNatClampNeg = nI (kw_cd l n) := by rw [kx_cw hw]; exact hc
    refine kx_isW hw (br_f kx_1n0 ?_)
    by_cases a : v2 < 0
    · exact br_t a (ky_isW hw (br_t rfl (br_t a ⟨rfl, R⟩)))
    obtain ⟨i, hi, rfl⟩ := nI_of a
    refine br_f a ⟨hv, pk_lt i n (fun c => ?_) (fun c => ?_) rfl hz' hi (by omega)⟩
    · refine ⟨hv, hv, kx_let hc' hz' rfl hn (kx_V8 V) c ?_⟩
      refine ky_isW hw (br_t rfl (br_f a ⟨hv, pk_lt i n (fun _ => ?_) (fun z => absurd z (by omega)) rfl hz' hi (by omega)⟩))
      have e7 : 7 * nI w + nI i = nI (7 * w + i) := kx_7 rfl rfl
      refine ⟨pk_in (7 * w + i) 14 (by omega) e7 (by omega), ?_, R⟩
      rw [pk_cl (7 * w + i) e7 (by omega)]
      exact hlt i c
    · exact ky_isW hw (br_t rfl (br_f a ⟨hv, pk_lt i n (fun z => absurd z (by omega)) (fun _ => ⟨rfl, R⟩) rfl hz' hi (by omega)⟩))
  · exact kx_isN h0 h1 (br_t rfl (ky_isN h2 (br_f kx_1n0 ⟨rfl, R⟩)))
theorem i_vc_code {k : Nat} {u : SX} {v : SY} (I : i_Rel k u v) (hk : k + 3 ≤ 1536) (v1 : Int32) : wpX_code (fun r => wpY_code (fun r' v' => r' = r ∧ i_Rel (k + 3) u v') v v1) u v1 := by
  obtain ⟨fc, cX, sz, fd, en, f, lt, row, cY, sg, nd, rfl, rfl, J⟩ := I
  have R : i_Rel (k + 3) (fc, cX, sz, fd, en) (f, lt, sz, row, cY, sg, nd) := kx_mk J
  unfold wpX_code wpY_code
  dsimp only
  rcases kx_w v1 with ⟨w, hw, rfl⟩ | ⟨h0, h1, h2⟩
  · obtain ⟨n, l, V, hz, hc, hlt⟩ := J w hw
    have hv := kx_vw hw
    have hn := V.1
    have hc' : cX (nI w).toNatClampNeg = nI (kw_cd l n) := by rw [kx_cw hw]; exact hc
    refine kx_isW hw (br_f kx_1n0 ⟨hv, ?_⟩)
    refine ky_isW hw (br_t rfl ?_)
    refine ky_take hw rfl hn hz hlt fun row' hr => ?_
    exact ky_code rfl hn hr ⟨hc'.symm, kx_mk J⟩
  · exact kx_isN h0 h1 (br_t rfl (ky_isN h2 (br_f kx_1n0 ⟨rfl, R⟩)))
/-! descents -/
def kx_ds (l : Nat → Nat) (i : Nat) : Nat := kr_ct (fun j => decide (l (j + 1) < l j)) i
theorem kx_ds_t {l : Nat → Nat} {i : Nat} (h : l (i + 1) < l i) : kx_ds l (i + 1) = kx_ds l i + 1 := by
  show kr_ct _ i + (if decide (l (i + 1) < l i) then 1 else 0) = _
  rw [decide_eq_true h]
  rfl
theorem kx_ds_f {l : Nat → Nat} {i : Nat} (h : ¬ l (i + 1) < l i) : kx_ds l (i + 1) = kx_ds l i := by
  show kr_ct _ i + (if decide (l (i + 1) < l i) then 1 else 0) = _
  rw [decide_eq_false h]
  rfl
theorem i_vc_descents {k : Nat} {u : SX} {v : SY} (I : i_Rel k u v) (hk : k + 3 ≤ 1536) (v1 : Int32) : wpX_descents (fun r => wpY_descents (fun r' v' => r' = r ∧ i_Rel (k + 3) u v') v v1) u v1 := by
  obtain ⟨fc, cX, sz, fd, en, f, lt, row, cY, sg, nd, rfl, rfl, J⟩ := I
  have R : i_Rel (k + 3) (fc, cX, sz, fd, en) (f, lt, sz, row, cY, sg, nd) := kx_mk J
  unfold wpX_descents
  dsimp only
  rcases kx_w v1 with ⟨w, hw, rfl⟩ | ⟨h0, h1, h2⟩
  · obtain ⟨n, l, V, hz, hc, hlt⟩ := J w hw
    have hv := kx_vw hw
    have hn := V.1
    have hl8 := kx_V8 V
    have hz' : sz (nI w).toNatClampNeg = nI n := by rw [kx_cw hw]; exact hz
    have hc' : cX (nI w).toNatClampNeg = nI (kw_cd l n) := by rw [kx_cw hw]; exact hc
    refine kx_isW hw (br_f kx_1n0 ?_)
    generalize hP : (fun r => wpY_descents (fun r' v' => r' = r ∧ i_Rel (k + 3) (fc, cX, sz, fd, en) v') (f, lt, sz, row, cY, sg, nd) (nI w)) = post
    have hX : post (nI (kx_ds l (n - 1))) := by
      rw [← hP]
      show wpY_descents _ _ _
      unfold wpY_descents
      dsimp only
      refine ky_isW hw (br_t rfl ?_)
      refine ky_take hw rfl hn hz hlt fun row' hr => ?_
      refine loop_0 (fun m i (s : Int32) => wY_descents_21 _ (nI n) f lt sz row' cY sg nd m s (nI i)) (fun i s => s = nI (kx_ds l i)) (n - 1) 0 rfl ?_ ?_
      · intro m s hs
        subst hs
        exact kx_bs hn (by omega) (fun _ => ⟨rfl, kx_mk J⟩) (fun z => absurd z (by omega))
      · intro m i s hi hs ih
        subst hs
        have ha := hl8 i (by omega)
        have hb := hl8 (i + 1) (by omega)
        have ea : row' (nI i).toNatClampNeg = nI (l i) := by rw [nI_clamp (by omega)]; exact hr _ (by omega)
        have eb : row' (nI i + 1).toNatClampNeg = nI (l (i + 1)) := by rw [pk_cl (i + 1) (nI_1 i) (by omega)]; exact hr _ (by omega)
        refine kx_bs hn (by omega) (fun z => absurd z (by omega)) (fun _ => ?_)
        refine ⟨pk_in i 7 (by omega) rfl (by omega), pk_in (i + 1) 7 (by omega) (nI_1 i) (by omega), ?_⟩
        refine pk_le (l i) (l (i + 1)) (fun c => ?_) (fun c => ?_) ea eb (by omega) (by omega)
        · exact nm_r (nI_1 i) (ih _ (by rw [kx_ds_f (by omega)]))
        · exact nm_e (nm_r (nI_1 i) (ih _ (by rw [kx_ds_t c, nI_1])))
    refine loop_0 (fun m i (s : Int32) => wX_descents_13 post (nI w) fc cX sz fd en m s (nI i)) (fun i s => s = nI (kx_ds l i)) (n - 1) 0 rfl ?_ ?_
    · intro m s hs
      subst hs
      refine ⟨hv, ?_⟩
      rw [hz']
      exact kx_bs hn (by omega) (fun _ => hX) (fun z => absurd z (by omega))
    · intro m i s hi hs ih
      subst hs
      have ha := hl8 i (by omega)
      have hb := hl8 (i + 1) (by omega)
      refine ⟨hv, ?_⟩
      rw [hz', hc']
      refine kx_bs hn (by omega) (fun z => absurd z (by omega)) (fun _ => ⟨hv, hv, ?_⟩)
      refine kx_let rfl rfl rfl hn hl8 (by omega) ⟨hv, hv, ?_⟩
      refine kx_let rfl rfl (nI_1 i) hn hl8 (by omega) ?_
      refine pk_le (l i) (l (i + 1)) (fun c => ?_) (fun c => ?_) rfl rfl (by omega) (by omega)
      · exact nm_r (nI_1 i) (ih _ (by rw [kx_ds_f (by omega)]))
      · exact nm_e (nm_r (nI_1 i) (ih _ (by rw [kx_ds_t c, nI_1])))
  · refine kx_isN h0 h1 (br_t rfl ?_)
    unfold wpY_descents
    dsimp only
    exact ky_isN h2 (br_f kx_1n0 ⟨rfl, R⟩)
end
section
/-! the search for kin: both sides against one pure row of codes -/
def kf_o1 (n c i : Nat) : Nat := kw_cd (kw_sw (kw_dg n c) i) n
def kf_new (n c i : Nat) (s : Nat × (Nat → Nat)) : Prop := kw_mm (kw_dg n c) n i ∧ ∀ j, j < s.1 → s.2 j ≠ kf_o1 n c i
def kf_ad (s : Nat × (Nat → Nat)) (o : Nat) : Nat × (Nat → Nat) := (s.1 + 1, fun j => if j = s.1 then o else s.2 j)
noncomputable def kf_st (n c i : Nat) (s : Nat × (Nat → Nat)) : Nat × (Nat → Nat) := @ite _ (kf_new n c i s) (Classical.propDecidable _) (kf_ad s (kf_o1 n c i)) s
theorem kf_st_t {n c i : Nat} {s : Nat × (Nat → Nat)} (h : kf_new n c i s) : kf_st n c i s = kf_ad s (kf_o1 n c i) := if_pos h
theorem kf_st_f {n c i : Nat} {s : Nat × (Nat → Nat)} (h : ¬ kf_new n c i s) : kf_st n c i s = s := if_neg h
noncomputable def kf_in (n c : Nat) (s : Nat × (Nat → Nat)) : Nat → Nat × (Nat → Nat)
  | 0 => s
  | i + 1 => kf_st n c i (kf_in n c s i)
noncomputable def kf_o (n : Nat) : Nat → Nat → Nat × (Nat → Nat) → Nat × (Nat → Nat)
  | 0, _, s => s
  | f + 1, x, s => if x < s.1 then kf_o n f (x + 1) (kf_in n (s.2 x) s (n - 1)) else s
noncomputable def kf_res (n c : Nat) : Nat × (Nat → Nat) := kf_o n 65 0 (1, fun _ => c)
def kf_A (a : Nat → Int32) (s : Nat × (Nat → Nat)) : Prop := ∀ j, j < s.1 → a j = nI (s.2 j)
def kf_I (K : Nat → Prop) (s : Nat × (Nat → Nat)) : Prop := (∀ j, j < s.1 → K (s.2 j)) ∧ ∀ i, i < s.1 → ∀ j, j < s.1 → s.2 i = s.2 j → i = j
def kf_K (n : Nat) (K : Nat → Prop) (D : List Nat) : Prop := n ≤ 7 ∧ D.length ≤ 64 ∧ (∀ c, K c → c ∈ D) ∧
  ∀ c, K c → c < 8 ^ n ∧ (∀ i, i < n → 1 ≤ kw_dg n c i ∧ kw_dg n c i ≤ 7) ∧ ∀ i, i + 1 < n → kw_mm (kw_dg n c) n i → K (kf_o1 n c i)
theorem kf_adA {a : Nat → Int32} {s : Nat × (Nat → Nat)} {o : Nat} (h : kf_A a s) : kf_A (upd a s.1 (nI o)) (kf_ad s o) := by
  intro j hj
  have hj' : j < s.1 + 1 := hj
  show upd a s.1 (nI o) j = nI (if j = s.1 then o else s.2 j)
  by_cases e : j = s.1
  · rw [if_pos e, e, pk_us]
  · rw [if_neg e, pk_un e]
    exact h j (by omega)
theorem kf_adI {K : Nat → Prop} {s : Nat × (Nat → Nat)} {o : Nat} (h : kf_I K s) (ho : K o) (hn : ∀ j, j < s.1 → s.2 j ≠ o) : kf_I K (kf_ad s o) := by
  constructor
  · intro j hj
    have hj' : j < s.1 + 1 := hj
    show K (if j = s.1 then o else s.2 j)
    by_cases e : j = s.1
    · rw [if_pos e]; exact ho
    · rw [if_neg e]; exact h.1 j (by omega)
  · intro i hi j hj e
    have hi' : i < s.1 + 1 := hi
    have hj' : j < s.1 + 1 := hj
    have e' : (if i = s.1 then o else s.2 i) = (if j = s.1 then o else s.2 j) := e
    by_cases a : i = s.1 <;> by_cases b : j = s.1
    · omega
    · rw [if_pos a, if_neg b] at e'
      exact absurd e'.symm (hn j (by omega))
    · rw [if_neg a, if_pos b] at e'
      exact absurd e' (hn i (by omega))
    · rw [if_neg a, if_neg b] at e'
      exact h.2 i (by omega) j (by omega) e'
theorem kf_stI {n c i : Nat} {K : Nat → Prop} {D : List Nat} {s : Nat × (Nat → Nat)} (hK : kf_K n K D) (hc : K c) (hi : i + 1 < n) (h : kf_I K s) : kf_I K (kf_st n c i s) := by
  by_cases m : kf_new n c i s
  · rw [kf_st_t m]
    exact kf_adI h ((hK.2.2.2 c hc).2.2 i hi m.1) m.2
  · rw [kf_st_f m]; exact h
theorem kf_inI {n c : Nat} {K : Nat → Prop} {D : List Nat} {s : Nat × (Nat → Nat)} (hK : kf_K n K D) (hc : K c) (h : kf_I K s) : ∀ i, i + 1 ≤ n → kf_I K (kf_in n c s i)
  | 0, _ => h
  | i + 1, hi => kf_stI hK hc (by omega) (kf_inI hK hc h i (by omega))
theorem kf_keep {n c : Nat} {s : Nat × (Nat → Nat)} {j : Nat} (hj : j < s.1) : ∀ i, j < (kf_in n c s i).1 ∧ (kf_in n c s i).2 j = s.2 j
  | 0 => ⟨hj, rfl⟩
  | i + 1 => by
    obtain ⟨h1, h2⟩ := kf_keep (n := n) (c := c) hj i
    show j < (kf_st n c i (kf_in n c s i)).1 ∧ (kf_st n c i (kf_in n c s i)).2 j = s.2 j
    by_cases m : kf_new n c i (kf_in n c s i)
    · rw [kf_st_t m]
      refine ⟨Nat.lt_succ_of_lt h1, ?_⟩
      show (if j = (kf_in n c s i).1 then _ else (kf_in n c s i).2 j) = _
      rw [if_neg (by omega), h2]
    · rw [kf_st_f m]; exact ⟨h1, h2⟩
theorem kf_64 {n : Nat} {K : Nat → Prop} {D : List Nat} {s : Nat × (Nat → Nat)} (hK : kf_K n K D) (h : kf_I K s) : s.1 ≤ 64 := kc_pigeon hK.2.1 hK.2.2.1 h.1 h.2
theorem kf_oI {n : Nat} {K : Nat → Prop} {D : List Nat} (hK : kf_K n K D) (hn : 1 ≤ n) : ∀ (f x : Nat) (s : Nat × (Nat → Nat)), kf_I K s → kf_I K (kf_o n f x s)
  | 0, _, _, h => h
  | f + 1, x, s, h => by
    show kf_I K (if x < s.1 then kf_o n f (x + 1) (kf_in n (s.2 x) s (n - 1)) else s)
    by_cases c : x < s.1
    · rw [if_pos c]
      exact kf_oI hK hn f (x + 1) _ (kf_inI hK (h.1 x c) h (n - 1) (by omega))
    · rw [if_neg c]; exact h
theorem kf_I1 {K : Nat → Prop} {c : Nat} (hc : K c) : kf_I K (1, fun _ => c) := ⟨fun _ _ => hc, fun i hi j hj _ => by have h1 : i < 1 := hi; have h2 : j < 1 := hj; omega⟩
theorem kf_c7 {n c : Nat} {K : Nat → Prop} {D : List Nat} (hK : kf_K n K D) (hc : K c) : c < 2097152 := kx_c7 hK.1 (hK.2.2.2 c hc).1
/-! the component -/
theorem kx_fnd {post : Int32 → Prop} {cX sz fd en : Nat → Int32} {f0 : Int32} {m c : Nat} {g : Nat → Nat} (e0 : f0 = nI m) (hm : m ≤ 64) (hg : ∀ j, j < m → g j < 2097152) (hc : c < 2097152) (ha : ∀ j, j < m → fd j = nI (g j))
    (h1 : (∃ j, j < m ∧ g j = c) → post 1) (h0 : (∀ j, j < m → g j ≠ c) → post 0) : wpX_isFound post (f0, cX, sz, fd, en) (nI c) := by
  subst e0
  refine loop_0 (fun q i (_ : Unit) => wX_isFound_2 post (nI c) (nI m) cX sz fd en q (nI i)) (fun i _ => ∀ j, j < i → g j ≠ c) m () (fun _ h => absurd h (by omega)) ?_ ?_
  · intro q _ hs
    exact pk_le m m (fun _ => h0 hs) (fun z => absurd z (by omega)) rfl rfl (by omega) (by omega)
  · intro q i _ hi hs ih
    have hgi := hg i hi
    have e : fd (nI i).toNatClampNeg = nI (g i) := by rw [nI_clamp (by omega)]; exact ha i hi
    refine pk_le m i (fun z => absurd z (by omega)) (fun _ => ⟨pk_in i 5040 (by omega) rfl (by omega), ?_⟩) rfl rfl (by omega) (by omega)
    refine pk_eq (g i) c (fun a => h1 ⟨i, hi, a⟩) (fun a => nm_r (nI_1 i) (ih () fun j hj => ?_)) e rfl (by omega) (by omega)
    by_cases b : j = i
    · rw [b]; exact a
    · exact hs j (by omega)
theorem kx_nb {post : SX → Prop} {cX sz fd en : Nat → Int32} {f0 p0 : Int32} {n c : Nat} {K : Nat → Prop} {D : List Nat} {s : Nat × (Nat → Nat)} (hK : kf_K n K D) (hn1 : 1 ≤ n) (hc : K c) (hI : kf_I K s) (hA : kf_A fd s) (e0 : f0 = nI s.1) (e1 : p0 = nI c)
    (H : ∀ fd', kf_A fd' (kf_in n c s (n - 1)) → post (nI (kf_in n c s (n - 1)).1, cX, sz, fd', en)) : wpX_findNeighbours post (f0, cX, sz, fd, en) p0 (nI n) := by
  subst e0 e1
  have hn := hK.1
  have hcc := hK.2.2.2 c hc
  have ec : nI c = nI (kw_cd (kw_dg n c) n) := by rw [kw_cd_dg hcc.1]
  have hl : ∀ j, j < n → kw_dg n c j < 8 := fun j _ => kw_dg_lt n c j
  refine loop_0 (fun q i (t : Int32 × (Nat → Int32)) => wX_findNeighbours_2 post (nI c) (nI n) q (nI i) t.1 cX sz t.2 en) (fun i t => t.1 = nI (kf_in n c s i).1 ∧ kf_A t.2 (kf_in n c s i)) (n - 1) (nI s.1, fd) ⟨rfl, hA⟩ ?_ ?_
  · rintro q ⟨t1, t2⟩ ⟨h1, h2⟩
    have h1' : t1 = nI (kf_in n c s (n - 1)).1 := h1
    subst h1'
    exact kx_bs hn (by omega) (fun _ => H t2 h2) (fun z => absurd z (by omega))
  · rintro q i ⟨t1, t2⟩ hi ⟨h1, h2⟩ ih
    have h1' : t1 = nI (kf_in n c s i).1 := h1
    subst h1'
    have hIi := kf_inI hK hc hI i (by omega)
    have h64 := kf_64 hK hIi
    refine kx_bs hn (by omega) (fun z => absurd z (by omega)) (fun hi1 => ?_)
    have old : ¬ kf_new n c i (kf_in n c s i) → ∀ y, y = nI i + 1 → wX_findNeighbours_2 post (nI c) (nI n) q y (nI (kf_in n c s i).1) cX sz t2 en := by
      intro z
      refine nm_r (nI_1 i) (ih (nI (kf_in n c s i).1, t2) ⟨?_, ?_⟩)
      · show _ = nI (kf_st n c i (kf_in n c s i)).1
        rw [kf_st_f z]
      · show kf_A t2 (kf_st n c i (kf_in n c s i))
        rw [kf_st_f z]; exact h2
    refine kx_may ec rfl rfl hn hl hi1 (fun m => br_f kx_1n0 ?_) (fun m => br_t rfl (old fun z => m z.1))
    have hKo := hcc.2.2 i hi1 m
    refine kx_exd ec rfl rfl hn hl hi1 ?_
    refine kx_fnd (m := (kf_in n c s i).1) (g := (kf_in n c s i).2) rfl h64 (fun j hj => kf_c7 hK (hIi.1 j hj)) (kf_c7 hK hKo) h2 (fun a => br_f kx_1n0 (old ?_)) (fun a => br_t rfl ?_)
    · rintro ⟨_, z⟩
      obtain ⟨j, hj, e⟩ := a
      exact z j hj e
    · refine pk_le 5040 (kf_in n c s i).1 (fun z => absurd z (by omega)) (fun _ => ?_) rfl rfl (by omega) (by omega)
      refine ⟨pk_in (kf_in n c s i).1 5040 (by omega) rfl (by omega), nm_e (nm_r (nI_1 _) (nm_r (nI_1 i) (ih (nI ((kf_in n c s i).1 + 1), _) ⟨?_, ?_⟩)))⟩
      · show _ = nI (kf_st n c i (kf_in n c s i)).1
        rw [kf_st_t ⟨m, a⟩]
        rfl
      · show kf_A (upd t2 (nI (kf_in n c s i).1).toNatClampNeg (nI (kf_o1 n c i))) (kf_st n c i (kf_in n c s i))
        rw [kf_st_t ⟨m, a⟩, nI_clamp (by omega)]
        exact kf_adA h2
theorem kx_o {post : SX → Prop} {cX sz en : Nat → Int32} {n : Nat} {K : Nat → Prop} {D : List Nat} (hK : kf_K n K D) (hn1 : 1 ≤ n) :
    ∀ (f x : Nat) (s : Nat × (Nat → Nat)) (fd : Nat → Int32), kf_I K s → kf_A fd s → 65 ≤ x + f → x ≤ 65 →
      (∀ fd', kf_A fd' (kf_o n f x s) → post (nI (kf_o n f x s).1, cX, sz, fd', en)) → wX_findKin_14 post (nI n) (f + 1) (nI x) (nI s.1) cX sz fd en
  | 0, x, s, fd, hI, hA, hx, hx2, H => by
    have h64 := kf_64 hK hI
    refine pk_le 5040 x (fun z => absurd z (by omega)) (fun _ => ?_) rfl rfl (by omega) (by omega)
    exact pk_le s.1 x (fun _ => H fd hA) (fun z => absurd z (by omega)) rfl rfl (by omega) (by omega)
  | f + 1, x, s, fd, hI, hA, hx, hx2, H => by
    have h64 := kf_64 hK hI
    refine pk_le 5040 x (fun z => absurd z (by omega)) (fun _ => ?_) rfl rfl (by omega) (by omega)
    refine pk_le s.1 x (fun a => ?_) (fun a => ?_) rfl rfl (by omega) (by omega)
    · have e : kf_o n (f + 1) x s = s := if_neg (by omega)
      rw [e] at H
      exact H fd hA
    · have e : kf_o n (f + 1) x s = kf_o n f (x + 1) (kf_in n (s.2 x) s (n - 1)) := if_pos a
      rw [e] at H
      have ef : fd (nI x).toNatClampNeg = nI (s.2 x) := by rw [nI_clamp (by omega)]; exact hA x a
      refine ⟨pk_in x 5040 (by omega) rfl (by omega), ?_⟩
      refine kx_nb hK hn1 (hI.1 x a) hI hA rfl ef fun fd' hA' => ?_
      refine nm_r (nI_1 x) ?_
      exact kx_o hK hn1 f (x + 1) _ fd' (kf_inI hK (hI.1 x a) hI (n - 1) (by omega)) hA' (by omega) (by omega) H
/-- of an empty word nothing comes but itself -/
theorem kf_o0 : ∀ (f : Nat) (c : Nat), kf_o 0 f 1 (1, fun _ => c) = (1, fun _ => c)
  | 0, _ => rfl
  | f + 1, _ => if_neg (by show ¬ 1 < 1; omega)
theorem kf_res0 (c : Nat) : kf_res 0 c = (1, fun _ => c) := kf_o0 64 c
theorem kx_nb0 {post : SX → Prop} {u : SX} {p0 : Int32} (H : post u) : wpX_findNeighbours post u p0 (nI 0) := by
  obtain ⟨f0, cX, sz, fd, en⟩ := u
  exact ⟨1, br_t (by decide) H⟩
theorem kx_kin {post : SX → Prop} {fc : Int32} {cX sz fd en : Nat → Int32} {n : Nat} {l : Nat → Nat} (V : kx_V n l)
    (H : ∀ fd', kf_A fd' (kf_res n (kw_cd l n)) → post (nI (kf_res n (kw_cd l n)).1, cX, sz, fd', en)) : wpX_findKin post (fc, cX, sz, fd, en) (nI (kw_cd l n)) (nI n) := by
  have hA : kf_A (upd fd 0 (nI (kw_cd l n))) (1, fun _ => kw_cd l n) := by
    intro j hj
    have hj' : j < 1 := hj
    have : j = 0 := by omega
    subst this
    exact pk_us
  refine nm_e ?_
  by_cases h0 : n = 0
  · subst h0
    refine ⟨2, ?_⟩
    rw [kf_res0] at H
    refine pk_le 5040 0 (fun z => absurd z (by omega)) (fun _ => ?_) rfl rfl (by omega) (by omega)
    refine pk_le 1 0 (fun z => absurd z (by omega)) (fun _ => ⟨pk_in 0 5040 (by omega) rfl (by omega), ?_⟩) rfl rfl (by omega) (by omega)
    refine kx_nb0 (nm_r (e' := nI 1) (by decide) ?_)
    refine pk_le 5040 1 (fun z => absurd z (by omega)) (fun _ => ?_) rfl rfl (by omega) (by omega)
    exact pk_le 1 1 (fun _ => H _ hA) (fun z => absurd z (by omega)) rfl rfl (by omega) (by omega)
  · obtain ⟨K, D, hD, hKD, hk, hK⟩ := kc_main V.1 V.2
    have hKK : kf_K n K D := ⟨V.1, hD, hKD, hK⟩
    exact ⟨66, kx_o hKK (by omega) 65 0 _ _ (kf_I1 hk) hA (by omega) (by omega) H⟩
theorem kf_fact {n : Nat} {l : Nat → Nat} (V : kx_V n l) : (kf_res n (kw_cd l n)).1 ≤ 64 ∧ ∀ j, j < (kf_res n (kw_cd l n)).1 → (kf_res n (kw_cd l n)).2 j < 8 ^ n ∧ ∀ i, i < n → 1 ≤ kw_dg n ((kf_res n (kw_cd l n)).2 j) i ∧ kw_dg n ((kf_res n (kw_cd l n)).2 j) i ≤ 7 := by
  by_cases h0 : n = 0
  · subst h0
    rw [kf_res0]
    exact ⟨by show 1 ≤ 64; omega, fun j _ => ⟨Nat.zero_lt_one, fun i hi => absurd hi (by omega)⟩⟩
  · obtain ⟨K, D, hD, hKD, hk, hK⟩ := kc_main V.1 V.2
    have hKK : kf_K n K D := ⟨V.1, hD, hKD, hK⟩
    have h := kf_oI hKK (by omega) 65 0 _ (kf_I1 hk)
    exact ⟨kf_64 hKK h, fun j hj => ⟨(hK _ (h.1 j hj)).1, (hK _ (h.1 j hj)).2.1⟩⟩
end
section
/-! the reference's search -/
theorem ky_meet {post : SY → Prop} {f0 : Int32} {lt sz row cY sg nd : Nat → Int32} {m c : Nat} {g : Nat → Nat} (e0 : f0 = nI m) (hm : m ≤ 64) (hg : ∀ j, j < m → g j < 2097152) (hc : c < 2097152) (ha : ∀ j, j < m → cY j = nI (g j))
    (h1 : (∃ j, j < m ∧ g j = c) → post (nI m, lt, sz, row, cY, sg, nd)) (h0 : (∀ j, j < m → g j ≠ c) → m < 64 ∧ post (nI (m + 1), lt, sz, row, upd cY m (nI c), sg, nd)) : wpY_meet post (f0, lt, sz, row, cY, sg, nd) (nI c) := by
  subst e0
  refine loop_0 (fun q i (_ : Unit) => wY_meet_2 post (nI c) (nI m) lt sz row cY sg nd q (nI i)) (fun i _ => ∀ j, j < i → g j ≠ c) m () (fun _ h => absurd h (by omega)) ?_ ?_
  · intro q _ hs
    obtain ⟨h2, h3⟩ := h0 hs
    refine pk_le m m (fun _ => ⟨pk_in m 64 h2 rfl (by omega), nm_e (nm_r (nI_1 m) ?_)⟩) (fun z => absurd z (by omega)) rfl rfl (by omega) (by omega)
    rw [nI_clamp (by omega)]
    exact h3
  · intro q i _ hi hs ih
    have hgi := hg i hi
    have e : cY (nI i).toNatClampNeg = nI (g i) := by rw [nI_clamp (by omega)]; exact ha i hi
    refine pk_le m i (fun z => absurd z (by omega)) (fun _ => ⟨pk_in i 64 (by omega) rfl (by omega), ?_⟩) rfl rfl (by omega) (by omega)
    refine pk_eq (g i) c (fun a => h1 ⟨i, hi, a⟩) (fun a => nm_r (nI_1 i) (ih () fun j hj => ?_)) e rfl (by omega) (by omega)
    by_cases b : j = i
    · rw [b]; exact a
    · exact hs j (by omega)
theorem ky_in {post : SY → Prop} {J25 : Int32 → Int32 → (Nat → Int32) → (Nat → Int32) → (Nat → Int32) → (Nat → Int32) → (Nat → Int32) → (Nat → Int32) → Prop}
    {lt sz row cY sg nd : Nat → Int32} {n x : Nat} {K : Nat → Prop} {D : List Nat} {s : Nat × (Nat → Nat)} (hK : kf_K n K D) (hn1 : 1 ≤ n) (hx : x < s.1) (hI : kf_I K s) (hA : kf_A cY s)
    (H : ∀ row' cY', kf_A cY' (kf_in n (s.2 x) s (n - 1)) → J25 (nI (x + 1)) (nI (kf_in n (s.2 x) s (n - 1)).1) lt sz row' cY' sg nd) :
    ∃ m, wY_search_37 post J25 (nI n) (nI x) m 0 (nI s.1) lt sz row cY sg nd := by
  have hn := hK.1
  have hc : K (s.2 x) := hI.1 x hx
  have h64x := kf_64 hK hI
  have keep := fun i => kf_keep (n := n) (c := s.2 x) hx i
  generalize hcg : s.2 x = c at *
  have hcc := hK.2.2.2 c hc
  have hl : ∀ j, j < n → kw_dg n c j < 8 := fun j _ => kw_dg_lt n c j
  refine loop_0 (fun q i (t : Int32 × (Nat → Int32) × (Nat → Int32)) => wY_search_37 post J25 (nI n) (nI x) q (nI i) t.1 lt sz t.2.1 t.2.2 sg nd) (fun i t => t.1 = nI (kf_in n c s i).1 ∧ kf_A t.2.2 (kf_in n c s i)) (n - 1) (nI s.1, row, cY) ⟨rfl, hA⟩ ?_ ?_
  · rintro q ⟨t1, t2, t3⟩ ⟨h1, h2⟩
    have h1' : t1 = nI (kf_in n c s (n - 1)).1 := h1
    subst h1'
    exact kx_bs hn (by omega) (fun _ => nm_r (nI_1 x) (H t2 t3 h2)) (fun z => absurd z (by omega))
  · rintro q i ⟨t1, t2, t3⟩ hi ⟨h1, h2⟩ ih
    have h1' : t1 = nI (kf_in n c s i).1 := h1
    subst h1'
    have hIi := kf_inI hK hc hI i (by omega)
    have h64 := kf_64 hK hIi
    have h2' : kf_A t3 (kf_in n c s i) := h2
    have ex : t3 (nI x).toNatClampNeg = nI c := by
      rw [nI_clamp (by omega), h2' x (keep i).1, (keep i).2]
    refine kx_bs hn (by omega) (fun z => absurd z (by omega)) (fun hi1 => ?_)
    refine ⟨pk_in x 64 (by omega) rfl (by omega), ?_⟩
    refine ky_spread ex rfl hn hcc.1 fun row' hr => ?_
    have old : ¬ kf_new n c i (kf_in n c s i) → ∀ r2 y, y = nI i + 1 → wY_search_37 post J25 (nI n) (nI x) q y (nI (kf_in n c s i).1) lt sz r2 t3 sg nd := by
      intro z r2
      refine nm_r (nI_1 i) (ih (nI (kf_in n c s i).1, r2, t3) ⟨?_, ?_⟩)
      · show _ = nI (kf_st n c i (kf_in n c s i)).1
        rw [kf_st_f z]
      · show kf_A t3 (kf_st n c i (kf_in n c s i))
        rw [kf_st_f z]; exact h2'
    refine ky_may rfl rfl hn hl hr hi1 (fun m => br_f kx_1n0 ?_) (fun m => br_t rfl (old (fun z => m z.1) row'))
    have hKo := hcc.2.2 i hi1 m
    have v0 : vp_in (nI i) 7 := pk_in i 7 (by omega) rfl (by omega)
    have v1 : vp_in (nI i + 1) 7 := pk_in (i + 1) 7 (by omega) (nI_1 i) (by omega)
    refine ⟨v0, nm_e ⟨v1, v0, nm_e ⟨v1, nm_e ?_⟩⟩⟩
    rw [pk_cl (i + 1) (nI_1 i) (by omega), nI_clamp (show i < 2 ^ 31 by omega)]
    refine ky_code (l := kw_sw (kw_dg n c) i) rfl hn (fun j hj => ?_) ?_
    · show _ = nI (if j = i then kw_dg n c (i + 1) else if j = i + 1 then kw_dg n c i else kw_dg n c j)
      by_cases a : j = i
      · rw [if_pos a, a, pk_un (by omega), pk_us]
        exact hr (i + 1) hi1
      · rw [if_neg a]
        by_cases b : j = i + 1
        · rw [if_pos b, b, pk_us]
          exact hr i (by omega)
        · rw [if_neg b, pk_un b, pk_un a]
          exact hr j hj
    · refine ky_meet (m := (kf_in n c s i).1) (g := (kf_in n c s i).2) rfl h64 (fun j hj => kf_c7 hK (hIi.1 j hj)) (kf_c7 hK hKo) h2' (fun a => old ?_ _) (fun a => ?_)
      · rintro ⟨_, z⟩
        obtain ⟨j, hj, e⟩ := a
        exact z j hj e
      · have h65 : (kf_in n c s i).1 + 1 ≤ 64 := kf_64 hK (kf_adI hIi hKo a)
        refine ⟨by omega, nm_r (nI_1 i) (ih (nI ((kf_in n c s i).1 + 1), _, _) ⟨?_, ?_⟩)⟩
        · show _ = nI (kf_st n c i (kf_in n c s i)).1
          rw [kf_st_t ⟨m, a⟩]
          rfl
        · show kf_A (upd t3 (kf_in n c s i).1 (nI (kf_o1 n c i))) (kf_st n c i (kf_in n c s i))
          rw [kf_st_t ⟨m, a⟩]
          exact kf_adA h2'
theorem ky_o {post : SY → Prop} {lt sz sg nd : Nat → Int32} {n : Nat} {K : Nat → Prop} {D : List Nat} (hK : kf_K n K D) (hn1 : 1 ≤ n) :
    ∀ (f x : Nat) (s : Nat × (Nat → Nat)) (row cY : Nat → Int32), kf_I K s → kf_A cY s → 65 ≤ x + f → x ≤ 65 →
      (∀ row' cY', kf_A cY' (kf_o n f x s) → post (nI (kf_o n f x s).1, lt, sz, row', cY', sg, nd)) → wY_search_25 post (nI n) (f + 1) (nI x) (nI s.1) lt sz row cY sg nd
  | 0, x, s, row, cY, hI, hA, hx, hx2, H => by
    have h64 := kf_64 hK hI
    exact pk_le s.1 x (fun _ => H row cY hA) (fun z => absurd z (by omega)) rfl rfl (by omega) (by omega)
  | f + 1, x, s, row, cY, hI, hA, hx, hx2, H => by
    have h64 := kf_64 hK hI
    refine pk_le s.1 x (fun a => ?_) (fun a => ?_) rfl rfl (by omega) (by omega)
    · have e : kf_o n (f + 1) x s = s := if_neg (by omega)
      rw [e] at H
      exact H row cY hA
    · have e : kf_o n (f + 1) x s = kf_o n f (x + 1) (kf_in n (s.2 x) s (n - 1)) := if_pos a
      rw [e] at H
      refine ky_in hK hn1 a hI hA fun row' cY' hA' => ?_
      exact ky_o hK hn1 f (x + 1) _ row' cY' (kf_inI hK (hI.1 x a) hI (n - 1) (by omega)) hA' (by omega) (by omega) H
theorem ky_kin {post : SY → Prop} {f : Int32} {lt sz row cY sg nd : Nat → Int32} {p0 : Int32} {w n : Nat} {l : Nat → Nat} (hw : w < 2) (e0 : p0 = nI w) (V : kx_V n l) (hz : sz w = nI n) (hlt : ∀ i, i < n → lt (7 * w + i) = nI (l i))
    (H : ∀ row' cY', kf_A cY' (kf_res n (kw_cd l n)) → post (nI (kf_res n (kw_cd l n)).1, lt, sz, row', cY', sg, nd)) : wpY_search post (f, lt, sz, row, cY, sg, nd) p0 := by
  have hn := V.1
  unfold wpY_search
  dsimp only
  refine ky_take hw e0 hn hz hlt fun row' hr => ?_
  refine ky_code rfl hn hr ?_
  refine ky_meet (m := 0) (g := fun _ => 0) rfl (by omega) (fun j hj => absurd hj (by omega)) (kx_cl V) (fun j hj => absurd hj (by omega)) (fun ⟨j, hj, _⟩ => absurd hj (by omega)) (fun _ => ⟨by omega, ?_⟩)
  have hA : kf_A (upd cY 0 (nI (kw_cd l n))) (1, fun _ => kw_cd l n) := by
    intro j hj
    have hj' : j < 1 := hj
    have : j = 0 := by omega
    subst this
    exact pk_us
  by_cases h0 : n = 0
  · subst h0
    refine ⟨2, ?_⟩
    rw [kf_res0] at H
    refine pk_le 1 0 (fun z => absurd z (by omega)) (fun _ => ⟨1, ?_⟩) rfl rfl (by omega) (by omega)
    refine br_t (by decide) (nm_r (e' := nI 1) (by decide) ?_)
    exact pk_le 1 1 (fun _ => H _ _ hA) (fun z => absurd z (by omega)) rfl rfl (by omega) (by omega)
  · obtain ⟨K, D, hD, hKD, hk, hK⟩ := kc_main V.1 V.2
    have hKK : kf_K n K D := ⟨V.1, hD, hKD, hK⟩
    exact ⟨66, ky_o hKK (by omega) 65 0 _ _ _ (kf_I1 hk) hA (by omega) (by omega) H⟩
/-! kin -/
theorem i_vc_kin {k : Nat} {u : SX} {v : SY} (I : i_Rel k u v) (hk : k + 3 ≤ 1536) (v1 : Int32) : wpX_kin (fun r u' => wpY_kin (fun r' v' => r' = r ∧ i_Rel (k + 3) u' v') v v1) u v1 := by
  obtain ⟨fc, cX, sz, fd, en, f, lt, row, cY, sg, nd, rfl, rfl, J⟩ := I
  have R : i_Rel (k + 3) (fc, cX, sz, fd, en) (f, lt, sz, row, cY, sg, nd) := kx_mk J
  unfold wpX_kin
  dsimp only
  rcases kx_w v1 with ⟨w, hw, rfl⟩ | ⟨h0, h1, h2⟩
  · obtain ⟨n, l, V, hz, hc, hlt⟩ := J w hw
    have hv := kx_vw hw
    have hz' : sz (nI w).toNatClampNeg = nI n := by rw [kx_cw hw]; exact hz
    have hc' : cX (nI w).toNatClampNeg = nI (kw_cd l n) := by rw [kx_cw hw]; exact hc
    refine kx_isW hw (br_f kx_1n0 ⟨hv, hv, ?_⟩)
    rw [hz', hc']
    refine kx_kin V fun fd' hA => ?_
    unfold wpY_kin
    dsimp only
    refine ky_isW hw (br_t rfl ?_)
    exact ky_kin hw rfl V hz hlt fun row' cY' hA' => ⟨rfl, kx_mk J⟩
  · refine kx_isN h0 h1 (br_t rfl ?_)
    unfold wpY_kin
    dsimp only
    exact ky_isN h2 (br_f kx_1n0 ⟨rfl, R⟩)
/-! kinAt -/
def kf_bf (g : Nat → Nat) (c m : Nat) : Nat := kr_ct (fun j => decide (g j < c)) m
theorem kf_bf_t {g : Nat → Nat} {c i : Nat} (h : g i < c) : kf_bf g c (i + 1) = kf_bf g c i + 1 := by
  show kr_ct _ i + (if decide (g i < c) then 1 else 0) = _
  rw [decide_eq_true h]
  rfl
theorem kf_bf_f {g : Nat → Nat} {c i : Nat} (h : ¬ g i < c) : kf_bf g c (i + 1) = kf_bf g c i := by
  show kr_ct _ i + (if decide (g i < c) then 1 else 0) = _
  rw [decide_eq_false h]
  rfl
theorem kx_before {post : Int32 → Prop} {cX sz fd en : Nat → Int32} {m c : Nat} {g : Nat → Nat} {p0 : Int32} (e0 : p0 = nI c) (hm : m ≤ 64) (hg : ∀ j, j < m → g j < 2097152) (hc : c < 2097152) (ha : ∀ j, j < m → fd j = nI (g j))
    (h : post (nI (kf_bf g c m))) : wpX_foundBefore post (nI m, cX, sz, fd, en) p0 := by
  subst e0
  refine loop_0 (fun q i (s : Int32) => wX_foundBefore_4 post (nI c) (nI m) cX sz fd en q s (nI i)) (fun i s => s = nI (kf_bf g c i)) m 0 rfl ?_ ?_
  · intro q s hs
    subst hs
    exact pk_le m m (fun _ => h) (fun z => absurd z (by omega)) rfl rfl (by omega) (by omega)
  · intro q i s hi hs ih
    subst hs
    have hgi := hg i hi
    have e : fd (nI i).toNatClampNeg = nI (g i) := by rw [nI_clamp (by omega)]; exact ha i hi
    refine pk_le m i (fun z => absurd z (by omega)) (fun _ => ⟨pk_in i 5040 (by omega) rfl (by omega), ?_⟩) rfl rfl (by omega) (by omega)
    refine pk_le c (g i) (fun a => ?_) (fun a => ?_) rfl e (by omega) (by omega)
    · exact nm_r (nI_1 i) (ih _ (by rw [kf_bf_f (by omega)]))
    · exact nm_e (nm_r (nI_1 i) (ih _ (by rw [kf_bf_t a, nI_1])))
theorem ky_before {post : Int32 → SY → Prop} {J17 : Int32 → Prop} {lt sz row cY sg nd : Nat → Int32} {m x : Nat} {g : Nat → Nat} {p1 : Int32} (hx : x < m) (hm : m ≤ 64) (hg : ∀ j, j < m → g j < 2097152) (ha : ∀ j, j < m → cY j = nI (g j))
    (h1 : nI (kf_bf g (g x) m) = p1 → post (nI (g x)) (nI m, lt, sz, row, cY, sg, nd)) (h0 : ¬ nI (kf_bf g (g x) m) = p1 → J17 (nI (x + 1))) :
    ∃ q, wY_kinAt_31 post J17 p1 (nI x) (nI m) lt sz row cY sg nd q 0 0 := by
  have ex : cY (nI x).toNatClampNeg = nI (g x) := by rw [nI_clamp (by omega)]; exact ha x hx
  have hvx : vp_in (nI x) 64 := pk_in x 64 (by omega) rfl (by omega)
  refine loop_0 (fun q i (s : Int32) => wY_kinAt_31 post J17 p1 (nI x) (nI m) lt sz row cY sg nd q s (nI i)) (fun i s => s = nI (kf_bf g (g x) i)) m 0 rfl ?_ ?_
  · intro q s hs
    subst hs
    refine pk_le m m (fun _ => br_c (fun a => ⟨hvx, ?_⟩) (fun a => nm_r (nI_1 x) (h0 a))) (fun z => absurd z (by omega)) rfl rfl (by omega) (by omega)
    rw [ex]
    exact h1 a
  · intro q i s hi hs ih
    subst hs
    have hgi := hg i hi
    have hgx := hg x hx
    have e : cY (nI i).toNatClampNeg = nI (g i) := by rw [nI_clamp (by omega)]; exact ha i hi
    refine pk_le m i (fun z => absurd z (by omega)) (fun _ => ⟨pk_in i 64 (by omega) rfl (by omega), hvx, ?_⟩) rfl rfl (by omega) (by omega)
    refine pk_le (g x) (g i) (fun a => ?_) (fun a => ?_) ex e (by omega) (by omega)
    · exact nm_r (nI_1 i) (ih _ (by rw [kf_bf_f (by omega)]))
    · exact nm_e (nm_r (nI_1 i) (ih _ (by rw [kf_bf_t a, nI_1])))
theorem kk_at {m : Nat} {g : Nat → Nat} (p1 : Int32) (hm : m ≤ 64) (hg : ∀ j, j < m → g j < 2097152) :
    ∀ d x : Nat, x + d = m → ∃ r : Int32, (∀ (cX sz fd en : Nat → Int32), (∀ j, j < m → fd j = nI (g j)) → ∀ post : Int32 → SX → Prop, post r (nI m, cX, sz, fd, en) → wX_kinAt_27 post p1 (nI m) cX sz fd en (d + 1) (nI x)) ∧
      (∀ (lt sz row cY sg nd : Nat → Int32), (∀ j, j < m → cY j = nI (g j)) → ∀ post : Int32 → SY → Prop, post r (nI m, lt, sz, row, cY, sg, nd) → wY_kinAt_17 post p1 (nI m) lt sz row cY sg nd (d + 1) (nI x))
  | 0, x, hx => ⟨-4, fun _ _ _ _ _ _ hp => pk_le m x (fun _ => hp) (fun z => absurd z (by omega)) rfl rfl (by omega) (by omega), fun _ _ _ _ _ _ _ _ hp => pk_le m x (fun _ => hp) (fun z => absurd z (by omega)) rfl rfl (by omega) (by omega)⟩
  | d + 1, x, hx => by
    have hv : vp_in (nI x) 5040 := pk_in x 5040 (by omega) rfl (by omega)
    by_cases c : nI (kf_bf g (g x) m) = p1
    · refine ⟨nI (g x), fun cX sz fd en hX post hp => ?_, fun lt sz row cY sg nd hY post hp => ?_⟩
      · have ex : fd (nI x).toNatClampNeg = nI (g x) := by rw [nI_clamp (by omega)]; exact hX x (by omega)
        refine pk_le m x (fun z => absurd z (by omega)) (fun _ => ⟨hv, kx_before ex hm hg (hg x (by omega)) hX (br_t c ⟨hv, ?_⟩)⟩) rfl rfl (by omega) (by omega)
        rw [ex]
        exact hp
      · exact pk_le m x (fun z => absurd z (by omega)) (fun _ => ky_before (by omega) hm hg hY (fun _ => hp) (fun z => absurd c z)) rfl rfl (by omega) (by omega)
    · obtain ⟨r, h1, h2⟩ := kk_at p1 hm hg d (x + 1) (by omega)
      refine ⟨r, fun cX sz fd en hX post hp => ?_, fun lt sz row cY sg nd hY post hp => ?_⟩
      · have ex : fd (nI x).toNatClampNeg = nI (g x) := by rw [nI_clamp (by omega)]; exact hX x (by omega)
        exact pk_le m x (fun z => absurd z (by omega)) (fun _ => ⟨hv, kx_before ex hm hg (hg x (by omega)) hX (br_f c (nm_r (nI_1 x) (h1 _ _ _ _ hX post hp)))⟩) rfl rfl (by omega) (by omega)
      · exact pk_le m x (fun z => absurd z (by omega)) (fun _ => ky_before (by omega) hm hg hY (fun z => absurd z c) (fun _ => h2 _ _ _ _ _ _ hY post hp)) rfl rfl (by omega) (by omega)
theorem i_vc_kinAt {k : Nat} {u : SX} {v : SY} (I : i_Rel k u v) (hk : k + 3 ≤ 1536) (v1 : Int32) (v2 : Int32) : wpX_kinAt (fun r u' => wpY_kinAt (fun r' v' => r' = r ∧ i_Rel (k + 3) u' v') v v1 v2) u v1 v2 := by
  obtain ⟨fc, cX, sz, fd, en, f, lt, row, cY, sg, nd, rfl, rfl, J⟩ := I
  have R : i_Rel (k + 3) (fc, cX, sz, fd, en) (f, lt, sz, row, cY, sg, nd) := kx_mk J
  unfold wpX_kinAt
  dsimp only
  rcases kx_w v1 with ⟨w, hw, rfl⟩ | ⟨h0, h1, h2⟩
  · obtain ⟨n, l, V, hz, hc, hlt⟩ := J w hw
    have hv := kx_vw hw
    have hz' : sz (nI w).toNatClampNeg = nI n := by rw [kx_cw hw]; exact hz
    have hc' : cX (nI w).toNatClampNeg = nI (kw_cd l n) := by rw [kx_cw hw]; exact hc
    obtain ⟨f1, f2⟩ := kf_fact V
    refine kx_isW hw (br_f kx_1n0 ⟨hv, hv, ?_⟩)
    rw [hz', hc']
    obtain ⟨r, hX, hY⟩ := kk_at v2 f1 (fun j hj => kx_c7 V.1 (f2 j hj).1) (kf_res n (kw_cd l n)).1 0 (by omega)
    refine kx_kin V fun fd' hA => ?_
    refine ⟨_, hX _ _ _ _ hA _ ?_⟩
    unfold wpY_kinAt
    dsimp only
    refine ky_isW hw (br_t rfl ?_)
    exact ky_kin hw rfl V hz hlt fun row' cY' hA' => ⟨_, hY _ _ _ _ _ _ hA' _ ⟨rfl, kx_mk J⟩⟩
  · refine kx_isN h0 h1 (br_t rfl ?_)
    unfold wpY_kinAt
    dsimp only
    exact ky_isN h2 (br_f kx_1n0 ⟨rfl, R⟩)
/-! related -/
theorem kw_lo {l : Nat → Nat} {k : Nat} (h : 1 ≤ l 0) : 8 ^ k ≤ kw_cd l (k + 1) := by
  have e : k + 1 = 1 + k := by omega
  rw [e, kw_split l 1 k]
  have e1 : kw_cd l 1 = l 0 := by show 8 * 0 + l 0 = l 0; omega
  rw [e1]
  have : 1 * 8 ^ k ≤ l 0 * 8 ^ k := Nat.mul_le_mul_right _ h
  omega
theorem kw_len {l l' : Nat → Nat} {n m : Nat} (h8 : ∀ i, i < n → l i < 8) (h1 : ∀ i, i < m → 1 ≤ l' i) (e : kw_cd l n = kw_cd l' m) : m ≤ n := by
  by_cases c : m ≤ n
  · exact c
  · obtain ⟨k, rfl⟩ : ∃ k, m = k + 1 := ⟨m - 1, by omega⟩
    have a := kw_cd_lt h8
    have b := kw_lo (l := l') (k := k) (h1 0 (by omega))
    have d : 8 ^ n ≤ 8 ^ k := Nat.pow_le_pow_right (by decide) (by omega)
    omega
theorem ky_rel {post : Int32 → SY → Prop} {lt sz row cY sg nd : Nat → Int32} {m c : Nat} {g : Nat → Nat} (hm : m ≤ 64) (hg : ∀ j, j < m → g j < 2097152) (hc : c < 2097152) (ha : ∀ j, j < m → cY j = nI (g j))
    (h1 : (∃ j, j < m ∧ g j = c) → post 1 (nI m, lt, sz, row, cY, sg, nd)) (h0 : (∀ j, j < m → g j ≠ c) → post 0 (nI m, lt, sz, row, cY, sg, nd)) : ∃ q, wY_related_36 post (nI c) (nI m) lt sz row cY sg nd q 0 := by
  refine loop_0 (fun q i (_ : Unit) => wY_related_36 post (nI c) (nI m) lt sz row cY sg nd q (nI i)) (fun i _ => ∀ j, j < i → g j ≠ c) m () (fun _ h => absurd h (by omega)) ?_ ?_
  · intro q _ hs
    exact pk_le m m (fun _ => h0 hs) (fun z => absurd z (by omega)) rfl rfl (by omega) (by omega)
  · intro q i _ hi hs ih
    have hgi := hg i hi
    have e : cY (nI i).toNatClampNeg = nI (g i) := by rw [nI_clamp (by omega)]; exact ha i hi
    refine pk_le m i (fun z => absurd z (by omega)) (fun _ => ⟨pk_in i 64 (by omega) rfl (by omega), ?_⟩) rfl rfl (by omega) (by omega)
    refine pk_eq (g i) c (fun a => h1 ⟨i, hi, a⟩) (fun a => nm_r (nI_1 i) (ih () fun j hj => ?_)) e rfl (by omega) (by omega)
    by_cases b : j = i
    · rw [b]; exact a
    · exact hs j (by omega)
theorem i_vc_related {k : Nat} {u : SX} {v : SY} (I : i_Rel k u v) (hk : k + 3 ≤ 1536) : wpX_related (fun r u' => wpY_related (fun r' v' => r' = r ∧ i_Rel (k + 3) u' v') v) u := by
  obtain ⟨fc, cX, sz, fd, en, f, lt, row, cY, sg, nd, rfl, rfl, J⟩ := I
  obtain ⟨n, l, V, hz, hc, hlt⟩ := J 0 (by omega)
  obtain ⟨n', l', V', hz', hc', hlt'⟩ := J 1 (by omega)
  obtain ⟨f1, f2⟩ := kf_fact V
  have hn := V.1
  have hn' := V'.1
  have hg : ∀ j, j < (kf_res n (kw_cd l n)).1 → (kf_res n (kw_cd l n)).2 j < 2097152 := fun j hj => kx_c7 V.1 (f2 j hj).1
  have hc7 : kw_cd l' n' < 2097152 := kx_cl V'
  unfold wpX_related
  dsimp only
  rw [hc, hz]
  refine kx_kin V fun fd' hA => ?_
  dsimp only
  rw [hc']
  have Y : ∀ post : Int32 → SY → Prop,
      ((∃ j, j < (kf_res n (kw_cd l n)).1 ∧ (kf_res n (kw_cd l n)).2 j = kw_cd l' n') → ∀ f' row' cY', post 1 (f', lt, sz, row', cY', sg, nd)) →
      ((∀ j, j < (kf_res n (kw_cd l n)).1 → (kf_res n (kw_cd l n)).2 j ≠ kw_cd l' n') → ∀ f' row' cY', post 0 (f', lt, sz, row', cY', sg, nd)) → wpY_related post (f, lt, sz, row, cY, sg, nd) := by
    intro post H1 H0
    unfold wpY_related
    dsimp only
    refine pk_eq n n' (fun a => ?_) (fun a => H0 (fun j hj e => a ?_) f row cY) hz hz' (by omega) (by omega)
    · refine ky_take (w := 1) (by omega) rfl hn' hz' hlt' fun row' hr => ?_
      refine ky_code rfl hn' hr ?_
      refine ky_kin (w := 0) (by omega) rfl V hz hlt fun row'' cY' hA' => ?_
      exact ky_rel f1 hg hc7 hA' (fun b => H1 b _ _ _) (fun b => H0 b _ _ _)
    · have q := f2 j hj
      have e2 : kw_cd (kw_dg n ((kf_res n (kw_cd l n)).2 j)) n = kw_cd l' n' := by rw [kw_cd_dg q.1, e]
      have a1 := kw_len (fun i hi => kw_dg_lt n _ i) (fun i hi => (V'.2 i hi).1) e2
      have a2 := kw_len (fun i hi => kx_V8 V' i hi) (fun i hi => (q.2 i hi).1) e2.symm
      omega
  refine kx_fnd (m := (kf_res n (kw_cd l n)).1) (g := (kf_res n (kw_cd l n)).2) rfl f1 hg hc7 hA (fun a => br_f kx_1n0 ?_) (fun a => br_t rfl ?_)
  · exact Y _ (fun _ f' row' cY' => ⟨rfl, kx_mk J⟩) (fun z => by obtain ⟨j, hj, e⟩ := a; exact absurd e (z j hj))
  · exact Y _ (fun ⟨j, hj, e⟩ => absurd e (a j hj)) (fun _ f' row' cY' => ⟨rfl, kx_mk J⟩)
end
section
/-! the component: the most places covered, over all ways -/
def kx_u (up : Bool) : Int32 := match up with
  | true => 1
  | false => 0
theorem kv_in8 (up : Bool) : kv_in up ≤ 8 := by cases up <;> decide
theorem kx_clear {post : SX → Prop} {fc : Int32} {cX sz fd en : Nat → Int32} (up : Bool) (H : ∀ en', (∀ q, q < 4 → en' q = nI (kv_in up)) → post (fc, cX, sz, fd, en')) : wpX_clearEnds post (fc, cX, sz, fd, en) (kx_u up) := by
  refine loop_0 (fun m i s => wX_clearEnds_2 post (kx_u up) fc m (nI i) cX sz fd s) (fun i s => ∀ q, q < i → s q = nI (kv_in up)) 4 en (fun _ h => absurd h (by omega)) ?_ ?_
  · intro m s hs
    exact pk_le 4 4 (fun _ => H s hs) (fun z => absurd z (by omega)) rfl rfl (by omega) (by omega)
  · intro m i s hi hs ih
    refine pk_le 4 i (fun z => absurd z (by omega)) (fun _ => ?_) rfl rfl (by omega) (by omega)
    have hv : vp_in (nI i) 4 := pk_in i 4 (by omega) rfl (by omega)
    have go : ∀ x : Int32, x = nI (kv_in up) → ∀ q, q < i + 1 → upd s (nI i).toNatClampNeg x q = nI (kv_in up) := by
      intro x ex q hq
      rw [nI_clamp (show i < 2 ^ 31 by omega)]
      by_cases e : q = i
      · rw [e, pk_us]; exact ex
      · rw [pk_un e]; exact hs q (by omega)
    cases up with
    | true => exact br_f kx_1n0 ⟨hv, nm_e (nm_r (nI_1 i) (ih _ (go _ rfl)))⟩
    | false => exact br_t rfl ⟨hv, nm_e (nm_r (nI_1 i) (ih _ (go _ rfl)))⟩
theorem kv_ct_t {a : Nat → Nat} {i : Nat} (h : a i ≠ 0) : kv_ct a (i + 1) = kv_ct a i + 1 := by
  show kr_ct _ i + (if decide (a i ≠ 0) then 1 else 0) = _
  rw [decide_eq_true h]
  rfl
theorem kv_ct_f {a : Nat → Nat} {i : Nat} (h : a i = 0) : kv_ct a (i + 1) = kv_ct a i := by
  show kr_ct _ i + (if decide (a i ≠ 0) then 1 else 0) = _
  rw [decide_eq_false (fun z => z h)]
  rfl
theorem kv_fitT {x e : Nat} : kv_fit true x e ↔ e ≤ x := Iff.rfl
theorem kv_fitF {x e : Nat} : kv_fit false x e ↔ x < e := Iff.rfl
theorem kv_bad {l : Nat → Nat} {up : Bool} {a : Nat → Nat} {k n i e : Nat} (hi : i < n) (h1 : 1 ≤ a i) (hk : a i ≤ k) (hp : kv_pw l up (fun j => decide (a j = a i)) i e) (hf : ¬ kv_fit up (l i) e) : ¬ kv_ok l up a k n := by
  intro h
  obtain ⟨e2, h2⟩ := kv_pt_le (m := i + 1) (by omega) (h (a i) h1 hk)
  rcases h2 with ⟨_, _, e', h3, h4⟩ | ⟨h3, _⟩
  · rw [kv_pw_fun h3 hp] at h4
    exact hf h4
  · exact absurd rfl (of_decide_eq_false h3)
theorem kx_cov {post : Int32 → SX → Prop} {fc : Int32} {cX sz fd en : Nat → Int32} {l : Nat → Nat} {n k w : Nat} (up : Bool) (hn : n ≤ 7) (hl : ∀ j, j < n → l j < 8) (hk : k ≤ 3) (hw : w < 2 ^ 31)
    (H1 : kv_ok l up (kv_dd (k + 1) w) k n → ∀ en', post (nI (kv_ct (kv_dd (k + 1) w) n)) (fc, cX, sz, fd, en'))
    (H0 : ¬ kv_ok l up (kv_dd (k + 1) w) k n → ∀ en', post 0 (fc, cX, sz, fd, en')) : wpX_coveredIn post (fc, cX, sz, fd, en) (nI w) (nI (kw_cd l n)) (nI n) (nI k) (kx_u up) := by
  unfold wpX_coveredIn
  dsimp only
  refine kx_clear up fun en0 hen => ?_
  generalize ha : kv_dd (k + 1) w = a at *
  have had : ∀ i, w / (k + 1) ^ i % (k + 1) = a i := fun i => by rw [← ha]; rfl
  have hak : ∀ i, a i ≤ k := fun i => by rw [← had i]; exact Nat.le_of_lt_succ (Nat.mod_lt _ (by omega))
  have hwd : ∀ i, w / (k + 1) ^ i < 2 ^ 31 := fun i => Nat.lt_of_le_of_lt (Nat.div_le_self _ _) hw
  refine loop_0 (fun m i (t : Int32 × Int32 × (Nat → Int32)) => wX_coveredIn_15 post (nI (kw_cd l n)) (nI n) (nI k) (kx_u up) fc m t.1 t.2.1 (nI i) cX sz fd t.2.2)
    (fun i t => t.1 = nI (kv_ct a i) ∧ t.2.1 = nI (w / (k + 1) ^ i) ∧ ∃ E : Nat → Nat, (∀ q, q < 4 → E q ≤ 8 ∧ t.2.2 q = nI (E q)) ∧ ∀ q, 1 ≤ q → q ≤ k → kv_pw l up (fun j => decide (a j = q)) i (E q)) n (0, nI w, en0) ?_ ?_ ?_
  · refine ⟨rfl, ?_, fun _ => kv_in up, fun q hq => ⟨kv_in8 up, hen q hq⟩, fun q _ _ => rfl⟩
    show nI w = nI (w / 1)
    rw [Nat.div_one]
  · rintro m ⟨t1, t2, t3⟩ ⟨h1, h2, E, h3, h4⟩
    have h1' : t1 = nI (kv_ct a n) := h1
    subst h1'
    exact pk_le n n (fun _ => H1 (fun q q1 q2 => ⟨E q, h4 q q1 q2⟩) t3) (fun z => absurd z (by omega)) rfl rfl (by omega) (by omega)
  · rintro m i ⟨t1, t2, t3⟩ hi ⟨h1, h2, E, h3, h4⟩ ih
    have h1' : t1 = nI (kv_ct a i) := h1
    have h2' : t2 = nI (w / (k + 1) ^ i) := h2
    have h3' : ∀ q, q < 4 → E q ≤ 8 ∧ t3 q = nI (E q) := h3
    subst h1' h2'
    have hk1 : ¬ (nI k + 1) = 0 := by rw [nI_1]; exact nI_ne0 (by omega) (by omega)
    have ai := hak i
    have er : nI (w / (k + 1) ^ i) - nI (w / (k + 1) ^ i) / (nI k + 1) * (nI k + 1) = nI (a i) := by rw [nI_1, pk_rem (hwd i) (by omega) (by omega), had i]
    have ed : nI (w / (k + 1) ^ i) / (nI k + 1) = nI (w / (k + 1) ^ (i + 1)) := by rw [nI_1, pk_div (hwd i) (by omega) (by omega), Nat.div_div_eq_div_mul, Nat.pow_succ]
    refine pk_le n i (fun z => absurd z (by omega)) (fun _ => ⟨hk1, nm_r er ⟨hk1, nm_r ed ?_⟩⟩) rfl rfl (by omega) (by omega)
    have hct : kv_ct a i ≤ i := kr_ct_le _ _
    refine pk_le (a i) 0 (fun c => ?_) (fun c => ?_) rfl rfl (by omega) (by omega)
    · refine nm_r (nI_1 i) (ih (nI (kv_ct a i), nI (w / (k + 1) ^ (i + 1)), t3) ⟨?_, rfl, E, h3', fun q q1 q2 => Or.inr ⟨decide_eq_false (by omega), h4 q q1 q2⟩⟩)
      rw [kv_ct_f (by omega)]
    · have hli := hl i hi
      obtain ⟨hE, hen⟩ := h3' (a i) (by omega)
      have hv : vp_in (nI (a i)) 4 := pk_in (a i) 4 (by omega) rfl (by omega)
      have en' : t3 (nI (a i)).toNatClampNeg = nI (E (a i)) := by rw [nI_clamp (by omega)]; exact hen
      have bad : ¬ kv_fit up (l i) (E (a i)) → wX_coveredIn_95 post (wX_coveredIn_15 post (nI (kw_cd l n)) (nI n) (nI k) (kx_u up) fc m) (nI (kw_cd l n)) (nI n) (nI k) (kx_u up) (nI (kv_ct a i)) (nI (w / (k + 1) ^ (i + 1))) (nI i) (nI (a i)) (nI (l i)) 0 fc cX sz fd t3 :=
        fun hf => br_t rfl (H0 (kv_bad hi c ai (h4 (a i) c ai) hf) t3)
      have good : kv_fit up (l i) (E (a i)) → wX_coveredIn_95 post (wX_coveredIn_15 post (nI (kw_cd l n)) (nI n) (nI k) (kx_u up) fc m) (nI (kw_cd l n)) (nI n) (nI k) (kx_u up) (nI (kv_ct a i)) (nI (w / (k + 1) ^ (i + 1))) (nI i) (nI (a i)) (nI (l i)) 1 fc cX sz fd t3 := by
        intro hf
        refine br_f kx_1n0 ⟨hv, nm_e (nm_r (nI_1 _) (nm_r (nI_1 i) ?_))⟩
        refine ih (nI (kv_ct a i + 1), nI (w / (k + 1) ^ (i + 1)), _) ⟨?_, rfl, fun q => if q = a i then l i else E q, fun q hq => ?_, fun q q1 q2 => ?_⟩
        · rw [kv_ct_t (by omega)]
        · show (if q = a i then l i else E q) ≤ 8 ∧ upd t3 (nI (a i)).toNatClampNeg (nI (l i)) q = nI (if q = a i then l i else E q)
          rw [nI_clamp (show a i < 2 ^ 31 by omega)]
          by_cases e : q = a i
          · rw [if_pos e, e, pk_us]; exact ⟨by omega, rfl⟩
          · rw [if_neg e, pk_un e]; exact h3' q hq
        · show kv_pw l up (fun j => decide (a j = q)) (i + 1) (if q = a i then l i else E q)
          by_cases e : q = a i
          · rw [if_pos e]
            exact Or.inl ⟨decide_eq_true e.symm, rfl, E (a i), by rw [e]; exact h4 (a i) c ai, hf⟩
          · rw [if_neg e]
            exact Or.inr ⟨decide_eq_false (fun z => e z.symm), h4 q q1 q2⟩
      refine kx_let rfl rfl rfl hn hl hi ?_
      cases up with
      | true => exact br_f kx_1n0 ⟨hv, pk_lt (l i) (E (a i)) (fun z => bad (fun y => by rw [kv_fitT] at y; omega)) (fun z => good z) rfl en' (by omega) (by omega)⟩
      | false => exact br_t rfl ⟨hv, pk_le (E (a i)) (l i) (fun z => bad (fun y => by rw [kv_fitF] at y; omega)) (fun z => good z) en' rfl (by omega) (by omega)⟩
theorem kx_most {post : Int32 → SX → Prop} {fc : Int32} {cX sz fd en : Nat → Int32} {l : Nat → Nat} {n k : Nat} (up : Bool) (hn : n ≤ 7) (hl : ∀ j, j < n → l j < 8) (hk : k ≤ 3)
    (H : ∀ r en', kv_mx l up k n r → post (nI r) (fc, cX, sz, fd, en')) : wpX_mostCovered post (fc, cX, sz, fd, en) (nI (kw_cd l n)) (nI n) (nI k) (kx_u up) := by
  have hp : ∀ i, i ≤ 7 → (k + 1) ^ i ≤ 16384 := by
    intro i hi
    have h1 : (k + 1) ^ i ≤ 4 ^ i := Nat.pow_le_pow_left (by omega) i
    have h2 : 4 ^ i ≤ 4 ^ 7 := Nat.pow_le_pow_right (by decide) hi
    have h3 : 4 ^ 7 = 16384 := by decide
    omega
  have hpn := hp n hn
  unfold wpX_mostCovered
  dsimp only
  refine loop_0 (fun m i (s : Int32) => wX_mostCovered_6 post (nI (kw_cd l n)) (nI n) (nI k) (kx_u up) fc cX sz fd en m s (nI i)) (fun i s => s = nI ((k + 1) ^ i)) n 1 rfl ?_ ?_
  · intro m s hs
    subst hs
    refine pk_le n n (fun _ => ?_) (fun z => absurd z (by omega)) rfl rfl (by omega) (by omega)
    refine loop_0 (fun m i (t : Int32 × (Nat → Int32)) => wX_mostCovered_32 post (nI (kw_cd l n)) (nI n) (nI k) (kx_u up) (nI ((k + 1) ^ n)) m t.1 (nI i) fc cX sz fd t.2)
      (fun i t => ∃ r, t.1 = nI r ∧ r ≤ 7 ∧ (r = 0 ∨ ∃ w, w < i ∧ kv_ok l up (kv_dd (k + 1) w) k n ∧ kv_ct (kv_dd (k + 1) w) n = r) ∧ ∀ w, w < i → kv_ok l up (kv_dd (k + 1) w) k n → kv_ct (kv_dd (k + 1) w) n ≤ r)
      ((k + 1) ^ n) (0, en) ⟨0, rfl, by omega, Or.inl rfl, fun _ h => absurd h (by omega)⟩ ?_ ?_
    · rintro m ⟨t1, t2⟩ ⟨r, h1, h2, h3, h4⟩
      have h1' : t1 = nI r := h1
      subst h1'
      exact pk_le _ _ (fun _ => H r t2 (kv_mxw h3 h4)) (fun z => absurd z (by omega)) rfl rfl (by omega) (by omega)
    · rintro m i ⟨t1, t2⟩ hi ⟨r, h1, h2, h3, h4⟩ ih
      have h1' : t1 = nI r := h1
      subst h1'
      refine pk_le _ i (fun z => absurd z (by omega)) (fun _ => ?_) rfl rfl (by omega) (by omega)
      have hct : kv_ct (kv_dd (k + 1) i) n ≤ n := kr_ct_le _ _
      refine kx_cov up hn hl hk (by omega) (fun hok en' => ?_) (fun hno en' => ?_)
      · refine pk_le (kv_ct (kv_dd (k + 1) i) n) r (fun c => ?_) (fun c => ?_) rfl rfl (by omega) (by omega)
        · refine nm_r (nI_1 i) (ih (nI r, en') ⟨r, rfl, h2, ?_, fun w hw hok' => ?_⟩)
          · rcases h3 with e | ⟨w, hw, q⟩
            · exact Or.inl e
            · exact Or.inr ⟨w, by omega, q⟩
          · by_cases e : w = i
            · rw [e]; exact c
            · exact h4 w (by omega) hok'
        · refine nm_r (nI_1 i) (ih (nI (kv_ct (kv_dd (k + 1) i) n), en') ⟨_, rfl, by omega, Or.inr ⟨i, by omega, hok, rfl⟩, fun w hw hok' => ?_⟩)
          by_cases e : w = i
          · rw [e]; exact Nat.le_refl _
          · have := h4 w (by omega) hok'; omega
      · refine pk_le 0 r (fun c => ?_) (fun z => absurd z (by omega)) rfl rfl (by omega) (by omega)
        refine nm_r (nI_1 i) (ih (nI r, en') ⟨r, rfl, h2, ?_, fun w hw hok' => ?_⟩)
        · rcases h3 with e | ⟨w, hw, q⟩
          · exact Or.inl e
          · exact Or.inr ⟨w, by omega, q⟩
        · by_cases e : w = i
          · rw [e] at hok'; exact absurd hok' hno
          · exact h4 w (by omega) hok'
  · intro m i s hi hs ih
    subst hs
    refine pk_le n i (fun z => absurd z (by omega)) (fun _ => ?_) rfl rfl (by omega) (by omega)
    refine nm_r (e' := nI ((k + 1) ^ (i + 1))) ?_ (nm_r (nI_1 i) (ih _ rfl))
    rw [nI_1, pk_mul, Nat.pow_succ]
end
section
/-! the reference: parts, sizes, least numbers of parts -/
theorem ky_bit {s i : Nat} (hs : s < 2097152) (hi : i < 32) : (nI s >>> (nI i &&& 31)) &&& 1 = nI (s / 2 ^ i % 2) := by
  rw [kx_shr hs hi, pk_andN (Nat.lt_of_le_of_lt (Nat.div_le_self _ _) (by omega)) 1 (by decide)]
theorem ky_tb {s i : Nat} (h : s / 2 ^ i % 2 = 1) : s.testBit i = true := by rw [Nat.testBit_eq_decide_div_mod_eq, decide_eq_true h]
theorem ky_fb {s i : Nat} (h : ¬ s / 2 ^ i % 2 = 1) : s.testBit i = false := by rw [Nat.testBit_eq_decide_div_mod_eq, decide_eq_false h]
theorem ky_ptbad {l : Nat → Nat} {up : Bool} {M : Nat → Bool} {n i e : Nat} (hi : i < n) (hM : M i = true) (hp : kv_pw l up M i e) (hf : ¬ kv_fit up (l i) e) : ¬ kv_pt l up M n := by
  intro h
  obtain ⟨e2, h2⟩ := kv_pt_le (m := i + 1) (by omega) h
  rcases h2 with ⟨_, _, e', h3, h4⟩ | ⟨h3, _⟩
  · rw [kv_pw_fun h3 hp] at h4
    exact hf h4
  · rw [hM] at h3
    exact Bool.noConfusion h3
theorem ky_andn {t p : Nat} (h : p &&& t = p) : nI t &&& (nI p ^^^ (-1)) = nI (t ^^^ p) := by
  rw [← nx_xor]
  have h' : nI p &&& nI t = nI p := by rw [nx_and, h]
  generalize nI t = x at *
  generalize nI p = y at *
  apply Int32.toBitVec_inj.1
  apply BitVec.eq_of_getLsbD_eq
  intro i hi
  have hb : (y &&& x).toBitVec.getLsbD i = y.toBitVec.getLsbD i := by rw [h']
  rw [Int32.toBitVec_and, BitVec.getLsbD_and] at hb
  rw [Int32.toBitVec_and, BitVec.getLsbD_and, Int32.toBitVec_xor, BitVec.getLsbD_xor, Int32.toBitVec_xor, BitVec.getLsbD_xor]
  have h1 : (-1 : Int32).toBitVec.getLsbD i = true := (by decide +kernel : ∀ i, i < 32 → (-1 : Int32).toBitVec.getLsbD i = true) i hi
  rw [h1]
  generalize x.toBitVec.getLsbD i = a at *
  generalize y.toBitVec.getLsbD i = b at *
  revert hb
  cases a <;> cases b <;> decide
section
variable {f : Int32} {lt sz row cY sg nd : Nat → Int32}
theorem ky_part {post : Int32 → Prop} {l : Nat → Nat} {n s : Nat} (up : Bool) (hn : n ≤ 7) (hl : ∀ j, j < n → l j < 8) (hr : ∀ j, j < n → row j = nI (l j)) (hs : s < 128)
    (h1 : kv_pt l up (fun j => s.testBit j) n → post 1) (h0 : ¬ kv_pt l up (fun j => s.testBit j) n → post 0) : wpY_isPart post (f, lt, sz, row, cY, sg, nd) (nI s) (nI n) (kx_u up) := by
  have key : ∃ m, wY_isPart_15 post (nI s) (nI n) (kx_u up) f lt sz row cY sg nd m (nI (kv_in up)) (nI 0) := by
    refine loop_0 (fun m i (t : Int32) => wY_isPart_15 post (nI s) (nI n) (kx_u up) f lt sz row cY sg nd m t (nI i)) (fun i t => ∃ e, t = nI e ∧ e ≤ 8 ∧ kv_pw l up (fun j => s.testBit j) i e) n _ ⟨kv_in up, rfl, kv_in8 up, rfl⟩ ?_ ?_
    · rintro m t ⟨e, rfl, _, hp⟩
      exact pk_le n n (fun _ => h1 ⟨e, hp⟩) (fun z => absurd z (by omega)) rfl rfl (by omega) (by omega)
    · rintro m i t hi ⟨e, rfl, he, hp⟩ ih
      have hli := hl i hi
      have er : row (nI i).toNatClampNeg = nI (l i) := by rw [nI_clamp (by omega)]; exact hr i hi
      have hv : vp_in (nI i) 7 := pk_in i 7 (by omega) rfl (by omega)
      have hb2 : s / 2 ^ i % 2 < 2 := Nat.mod_lt _ (by decide)
      refine pk_le n i (fun z => absurd z (by omega)) (fun _ => ?_) rfl rfl (by omega) (by omega)
      refine pk_eq (s / 2 ^ i % 2) 1 (fun b => ?_) (fun b => ?_) (ky_bit (by omega) (by omega)) rfl (by omega) (by omega)
      · have hb := ky_tb b
        cases up with
        | true =>
          refine br_f kx_1n0 ⟨hv, pk_le e (l i) (fun z => ⟨hv, ?_⟩) (fun z => h0 (ky_ptbad hi hb hp (fun y => by rw [kv_fitT] at y; omega))) rfl er (by omega) (by omega)⟩
          exact nm_r er (nm_r (nI_1 i) (ih _ ⟨l i, rfl, by omega, Or.inl ⟨hb, rfl, e, hp, z⟩⟩))
        | false =>
          refine br_t rfl ⟨hv, pk_lt (l i) e (fun z => ⟨hv, ?_⟩) (fun z => h0 (ky_ptbad hi hb hp (fun y => by rw [kv_fitF] at y; omega))) er rfl (by omega) (by omega)⟩
          exact nm_r er (nm_r (nI_1 i) (ih _ ⟨l i, rfl, by omega, Or.inl ⟨hb, rfl, e, hp, z⟩⟩))
      · exact nm_r (nI_1 i) (ih _ ⟨e, rfl, he, Or.inr ⟨ky_fb b, hp⟩⟩)
  cases up with
  | true => exact br_f kx_1n0 key
  | false => exact br_t rfl key
theorem ky_size {post : Int32 → Prop} {s : Nat} (hs : s < 128) (h : post (nI (kv_sz s))) : wpY_size post (f, lt, sz, row, cY, sg, nd) (nI s) := by
  refine loop_0 (fun m i (t : Int32) => wY_size_4 post (nI s) f lt sz row cY sg nd m t (nI i)) (fun i t => t = nI (kr_ct (fun j => s.testBit j) i)) 7 0 rfl ?_ ?_
  · intro m t ht
    subst ht
    exact pk_le 7 7 (fun _ => h) (fun z => absurd z (by omega)) rfl rfl (by omega) (by omega)
  · intro m i t hi ht ih
    subst ht
    refine pk_le 7 i (fun z => absurd z (by omega)) (fun _ => ?_) rfl rfl (by omega) (by omega)
    refine nm_r (e' := nI (kr_ct (fun j => s.testBit j) (i + 1))) ?_ (nm_r (nI_1 i) (ih _ rfl))
    rw [ky_bit (by omega) (by omega), nI_add]
    show nI _ = nI (kr_ct (fun j => s.testBit j) i + (if s.testBit i then 1 else 0))
    have hb2 : s / 2 ^ i % 2 < 2 := Nat.mod_lt _ (by decide)
    by_cases b : s / 2 ^ i % 2 = 1
    · rw [ky_tb b, b]; rfl
    · rw [ky_fb b]
      have : s / 2 ^ i % 2 = 0 := by omega
      rw [this]; rfl
end
theorem ky_1n {n : Nat} (hn : n ≤ 7) : (1 : Int32) <<< (nI n &&& 31) = nI (2 ^ n) := by
  have h : 2 ^ n ≤ 2 ^ 7 := Nat.pow_le_pow_right (by decide) hn
  have := pk_shlN (n := 1) (nI n &&& 31) n (s_l n (by omega)) (by omega)
  rw [Nat.one_mul] at this
  exact this
theorem ky_nar1 : vp_nar .boolean 1 = 1 := rfl
theorem ky_nar0 : vp_nar .boolean 0 = 0 := rfl
def ky_sgl (l : Nat → Nat) (up : Bool) (n : Nat) (sg : Nat → Int32) (s : Nat) : Prop := (kv_pt l up (fun j => s.testBit j) n → sg s = 1) ∧ (¬ kv_pt l up (fun j => s.testBit j) n → sg s = 0)
def ky_best (l : Nat → Nat) (up : Bool) (n k t r : Nat) : Prop := r ≤ 7 ∧ (r = 0 ∨ ∃ s, s < t ∧ kv_D l up n k s ∧ kv_sz s = r) ∧ ∀ s, s < t → kv_D l up n k s → kv_sz s ≤ r
theorem ky_b_keep {l : Nat → Nat} {up : Bool} {n k t r : Nat} (h : ky_best l up n k t r) (hk : kv_D l up n k t → kv_sz t ≤ r) : ky_best l up n k (t + 1) r := by
  refine ⟨h.1, ?_, fun s hs hd => ?_⟩
  · rcases h.2.1 with e | ⟨s, hs, q⟩
    · exact Or.inl e
    · exact Or.inr ⟨s, by omega, q⟩
  · by_cases e : s = t
    · rw [e] at hd ⊢; exact hk hd
    · exact h.2.2 s (by omega) hd
theorem ky_b_new {l : Nat → Nat} {up : Bool} {n k t r : Nat} (h : ky_best l up n k t r) (hd : kv_D l up n k t) (hr : r < kv_sz t) : ky_best l up n k (t + 1) (kv_sz t) := by
  refine ⟨kr_ct_le _ _, Or.inr ⟨t, by omega, hd, rfl⟩, fun s hs hd' => ?_⟩
  by_cases e : s = t
  · rw [e]; exact Nat.le_refl _
  · have := h.2.2 s (by omega) hd'; omega
theorem ky_b1 (l : Nat → Nat) (up : Bool) (n k : Nat) : ky_best l up n k 1 0 := by
  refine ⟨by omega, Or.inl rfl, fun s hs _ => ?_⟩
  have : s = 0 := by omega
  subst this
  exact Nat.le_of_eq rfl
/-- the inner loop: all parts of the set t -/
theorem ky_inner {post : Int32 → SY → Prop} {J20 : Int32 → Int32 → (Nat → Int32) → (Nat → Int32) → (Nat → Int32) → (Nat → Int32) → (Nat → Int32) → (Nat → Int32) → Prop} {f x3 x4 : Int32} {lt sz row cY sg nd : Nat → Int32}
    {l : Nat → Nat} {n k t r : Nat} {N : Nat → Nat} {up : Bool} (hn : n ≤ 7) (hk : k ≤ 3) (ht1 : 1 ≤ t) (ht : t < 2 ^ n) (hN : ∀ s, s < t → nd s = nI (N s) ∧ kv_nd l up n s (N s)) (h8 : nd t = 8)
    (hsg : ∀ s, 1 ≤ s → s < t + 1 → ky_sgl l up n sg s) (hb : ky_best l up n k t r)
    (H : ∀ r' nd' v, ky_best l up n k (t + 1) r' → (∀ s, s < t → nd' s = nI (N s)) → nd' t = nI v → kv_nd l up n t v → J20 (nI r') (nI (t + 1)) lt sz row cY sg nd') :
    ∃ m, wY_most_58 post J20 (nI k) x3 x4 (nI r) (nI t) f m (nI t) lt sz row cY sg nd := by
  have h128 : t < 128 := Nat.lt_of_lt_of_le ht (Nat.pow_le_pow_right (by decide) hn)
  have hvt : vp_in (nI t) 128 := pk_in t 128 h128 rfl (by omega)
  have hct : (nI t).toNatClampNeg = t := nI_clamp (by omega)
  refine loop_m (fun m (s : Nat × (Nat → Int32)) => wY_most_58 post J20 (nI k) x3 x4 (nI r) (nI t) f m (nI s.1) lt sz row cY sg s.2)
    (fun s => s.1 ≤ t ∧ s.1 &&& t = s.1 ∧ (∀ x, x < t → s.2 x = nI (N x)) ∧ ∃ v, s.2 t = nI v ∧ v ≤ 8 ∧ ∀ j, j < 8 → (v ≤ j ↔ ∃ q, q ≠ 0 ∧ q &&& t = q ∧ s.1 < q ∧ kv_pt l up (fun i => q.testBit i) n ∧ N (t ^^^ q) + 1 ≤ j))
    (fun s => s.1) ?_ (t, nd) ⟨Nat.le_refl _, Nat.and_self t, fun x hx => (hN x hx).1, 8, h8, by omega, fun j hj => ⟨fun z => absurd z (by omega), ?_⟩⟩
  · rintro m ⟨p, nd1⟩ ⟨hp, hsub, hlo, v, ev, hv8, hv⟩ ih
    have hp' : p ≤ t := hp
    have hsub' : p &&& t = p := hsub
    have hlo' : ∀ x, x < t → nd1 x = nI (N x) := hlo
    have ev' : nd1 t = nI v := ev
    have evt : nd1 (nI t).toNatClampNeg = nI v := by rw [hct]; exact ev'
    refine pk_le p 0 (fun a => ?_) (fun a => ?_) rfl rfl (by omega) (by omega)
    · have hnd : kv_nd l up n t v := by
        refine kv_nds (N := N) ht (by omega) (fun q q0 qs => (hN _ ?_).2) hv8 (fun j hj => ?_)
        · have hq : q ≤ t := by rw [← qs]; exact Nat.and_le_right
          have := kv_xsub 7 q t (by omega) qs
          omega
        · rw [hv j hj]
          constructor
          · rintro ⟨q, q0, qs, _, qp, qn⟩; exact ⟨q, q0, qs, qp, qn⟩
          · rintro ⟨q, q0, qs, qp, qn⟩; exact ⟨q, q0, qs, by show p < q; omega, qp, qn⟩
      have hD := hnd.2 k (by omega)
      have hsz : kv_sz t ≤ 7 := kr_ct_le _ _
      have hr7 := hb.1
      refine ky_size h128 ⟨hvt, pk_lt k v (fun c => ?_) (fun c => ?_) rfl evt (by omega) (by omega)⟩
      · exact nm_r (nI_1 t) (H r nd1 v (ky_b_keep hb (fun d => by have := hD.mpr d; omega)) hlo' ev' hnd)
      · refine pk_le (kv_sz t) r (fun d => ?_) (fun d => ?_) rfl rfl (by omega) (by omega)
        · exact nm_r (nI_1 t) (H r nd1 v (ky_b_keep hb (fun _ => d)) hlo' ev' hnd)
        · exact nm_r (nI_1 t) (H _ nd1 v (ky_b_new hb (hD.mp c) d) hlo' ev' hnd)
    · have hvp : vp_in (nI p) 128 := pk_in p 128 (by omega) rfl (by omega)
      have hcp : (nI p).toNatClampNeg = p := nI_clamp (by omega)
      have en : (nI p - 1) &&& nI t = nI ((p - 1) &&& t) := by rw [show (1 : Int32) = nI 1 from rfl, pk_sub (show 1 ≤ p by omega), nx_and]
      have hlt' : (p - 1) &&& t < p := Nat.lt_of_le_of_lt Nat.and_le_left (by omega)
      have hlet : (p - 1) &&& t ≤ t := Nat.and_le_right
      have hsub2 : ((p - 1) &&& t) &&& t = (p - 1) &&& t := by rw [Nat.and_assoc, Nat.and_self]
      have hq : ∀ q, q ≠ 0 → q &&& t = q → ((p - 1) &&& t < q ↔ q = p ∨ p < q) := by
        intro q q0 qs
        constructor
        · intro h
          by_cases c : q < p
          · have := kv_next 7 p t q (by omega) hsub' qs c
            omega
          · omega
        · rintro (h | h) <;> omega
      have xs : (t ^^^ p) + p = t := kv_xsub 7 p t (by omega) hsub'
      have hxt : t ^^^ p < t := by omega
      have ex : nI t &&& (nI p ^^^ (-1)) = nI (t ^^^ p) := ky_andn hsub'
      have hvx : vp_in (nI t &&& (nI p ^^^ (-1))) 128 := pk_in (t ^^^ p) 128 (by omega) ex (by omega)
      have hN8 := (hN _ hxt).2.1
      have end1 : nd1 (nI t &&& (nI p ^^^ (-1))).toNatClampNeg + 1 = nI (N (t ^^^ p) + 1) := by
        rw [pk_cl (t ^^^ p) ex (by omega), hlo' _ hxt, nI_1]
      obtain ⟨s1, s0⟩ := hsg p (by omega) (by omega)
      refine ⟨hvp, ?_⟩
      have keep : (∀ j, j < 8 → (v ≤ j ↔ ∃ q, q ≠ 0 ∧ q &&& t = q ∧ (p - 1) &&& t < q ∧ kv_pt l up (fun i => q.testBit i) n ∧ N (t ^^^ q) + 1 ≤ j)) →
          ∀ y, y = (nI p - 1) &&& nI t → wY_most_58 post J20 (nI k) x3 x4 (nI r) (nI t) f m y lt sz row cY sg nd1 :=
        fun hh => nm_r en (ih ((p - 1) &&& t, nd1) ⟨hlet, hsub2, hlo', v, ev', hv8, hh⟩ hlt')
      by_cases pt : kv_pt l up (fun i => p.testBit i) n
      · have e1 : ¬ sg (nI p).toNatClampNeg = 0 := by rw [hcp, s1 pt]; exact kx_1n0
        refine br_f e1 ⟨hvx, hvt, pk_le v (N (t ^^^ p) + 1) (fun c => keep fun j hj => ?_) (fun c => ⟨hvx, hvt, nm_e (nm_r en ?_)⟩) evt end1 (by omega) (by omega)⟩
        · rw [hv j hj]
          constructor
          · rintro ⟨q, q0, qs, ql, qp, qn⟩
            have ql' : p < q := ql
            exact ⟨q, q0, qs, (hq q q0 qs).mpr (Or.inr ql'), qp, qn⟩
          · rintro ⟨q, q0, qs, ql, qp, qn⟩
            rcases (hq q q0 qs).mp ql with e | e
            · subst e
              obtain ⟨q', h⟩ := (hv j hj).mp (by omega)
              exact ⟨q', h⟩
            · exact ⟨q, q0, qs, e, qp, qn⟩
        · refine ih ((p - 1) &&& t, _) ⟨hlet, hsub2, fun x hx => ?_, N (t ^^^ p) + 1, ?_, by omega, fun j hj => ?_⟩ hlt'
          · show upd nd1 (nI t).toNatClampNeg _ x = nI (N x)
            rw [hct, pk_un (by omega)]
            exact hlo' x hx
          · show upd nd1 (nI t).toNatClampNeg _ t = nI (N (t ^^^ p) + 1)
            rw [hct, pk_us]
            exact end1
          · constructor
            · intro h
              exact ⟨p, by omega, hsub', hlt', pt, h⟩
            · rintro ⟨q, q0, qs, ql, qp, qn⟩
              rcases (hq q q0 qs).mp ql with e | e
              · subst e; exact qn
              · have := (hv j hj).mpr ⟨q, q0, qs, e, qp, qn⟩
                omega
      · have e0 : sg (nI p).toNatClampNeg = 0 := by rw [hcp]; exact s0 pt
        refine br_t e0 (keep fun j hj => ?_)
        rw [hv j hj]
        constructor
        · rintro ⟨q, q0, qs, ql, qp, qn⟩
          have ql' : p < q := ql
          exact ⟨q, q0, qs, (hq q q0 qs).mpr (Or.inr ql'), qp, qn⟩
        · rintro ⟨q, q0, qs, ql, qp, qn⟩
          rcases (hq q q0 qs).mp ql with e | e
          · subst e; exact absurd qp pt
          · exact ⟨q, q0, qs, e, qp, qn⟩
  · rintro ⟨q, q0, qs, ql, _⟩
    have : q ≤ t := by rw [← qs]; exact Nat.and_le_right
    have ql' : t < q := ql
    omega
theorem ky_most {post : Int32 → SY → Prop} {f : Int32} {lt sz row cY sg nd : Nat → Int32} {l : Nat → Nat} {w n k : Nat} (up : Bool) (hw : w < 2) (V : kx_V n l) (hk : k ≤ 3) (hz : sz w = nI n) (hlt : ∀ i, i < n → lt (7 * w + i) = nI (l i))
    (H : ∀ r row' sg' nd', kv_mx l up k n r → post (nI r) (f, lt, sz, row', cY, sg', nd')) : wpY_most post (f, lt, sz, row, cY, sg, nd) (nI w) (nI k) (kx_u up) := by
  have hn := V.1
  have hl := kx_V8 V
  have h2n : 2 ^ n ≤ 128 := Nat.pow_le_pow_right (n := 2) (by decide) hn
  have h1n : 1 ≤ 2 ^ n := Nat.pow_pos (by decide)
  unfold wpY_most
  dsimp only
  refine ky_take hw rfl hn hz hlt fun row' hr => ?_
  refine nm_e ?_
  refine pk_loop (fun m i (s : Int32 × (Nat → Int32) × (Nat → Int32)) => wY_most_20 post (nI k) (kx_u up) (nI n) f m s.1 (nI i) lt sz row' cY s.2.1 s.2.2)
    (fun t s => 1 ≤ t ∧ ∃ (N : Nat → Nat) (r : Nat), s.1 = nI r ∧ ky_best l up n k t r ∧ (∀ x, x < t → s.2.2 x = nI (N x) ∧ kv_nd l up n x (N x)) ∧ ∀ x, 1 ≤ x → x < t → ky_sgl l up n s.2.1 x)
    (2 ^ n) 1 (0, sg, upd nd 0 0) h1n ?_ ?_ ?_
  · refine ⟨Nat.le_refl _, fun _ => 0, 0, rfl, ky_b1 l up n k, fun x hx => ?_, fun x h1 h2 => absurd h1 (by omega)⟩
    have : x = 0 := by omega
    subst this
    exact ⟨(pk_us : upd nd 0 0 0 = 0), kv_nd0 l up n⟩
  · rintro m ⟨s1, s2, s3⟩ ⟨_, N, r, e, hb, _, _⟩
    have e' : s1 = nI r := e
    subst e'
    exact pk_le (2 ^ n) (2 ^ n) (fun _ => H r row' s2 s3 (kv_mxs hn hb.2.1 hb.2.2)) (fun z => absurd z (by omega)) (ky_1n hn) rfl (by omega) (by omega)
  · rintro m t ⟨s1, s2, s3⟩ ht ⟨ht1, N, r, e, hb, hN, hs⟩ ih
    have e' : s1 = nI r := e
    subst e'
    have ht1' : 1 ≤ t := ht1
    have hN' : ∀ x, x < t → s3 x = nI (N x) ∧ kv_nd l up n x (N x) := hN
    have hs' : ∀ x, 1 ≤ x → x < t → ky_sgl l up n s2 x := hs
    have hvt : vp_in (nI t) 128 := pk_in t 128 (by omega) rfl (by omega)
    have hct : (nI t).toNatClampNeg = t := nI_clamp (by omega)
    have go : ∀ b : Int32, ((kv_pt l up (fun j => t.testBit j) n → b = 1) ∧ (¬ kv_pt l up (fun j => t.testBit j) n → b = 0)) →
        ∃ m58, wY_most_58 post (wY_most_20 post (nI k) (kx_u up) (nI n) f m) (nI k) (kx_u up) (nI n) (nI r) (nI t) f m58 (nI t) lt sz row' cY (upd s2 t b) (upd s3 t 8) := by
      intro b hbb
      refine ky_inner (N := N) (l := l) (up := up) (n := n) hn hk ht1' ht (fun x hx => ⟨by rw [pk_un (by omega)]; exact (hN' x hx).1, (hN' x hx).2⟩) pk_us ?_ hb ?_
      · intro x h1 h2
        unfold ky_sgl
        by_cases e : x = t
        · rw [e, pk_us]; exact hbb
        · rw [pk_un e]; exact hs' x h1 (by omega)
      · intro r' nd' v hb' hlo hev hnd
        refine ih (nI r', upd s2 t b, nd') ⟨by omega, fun x => if x = t then v else N x, r', rfl, hb', fun x hx => ?_, fun x h1 h2 => ?_⟩
        · show nd' x = nI (if x = t then v else N x) ∧ kv_nd l up n x (if x = t then v else N x)
          by_cases e : x = t
          · rw [if_pos e, e]; exact ⟨hev, hnd⟩
          · rw [if_neg e]; exact ⟨hlo x (by omega), (hN' x (by omega)).2⟩
        · show ky_sgl l up n (upd s2 t b) x
          unfold ky_sgl
          by_cases e : x = t
          · rw [e, pk_us]; exact hbb
          · rw [pk_un e]; exact hs' x h1 (by omega)
    refine pk_le (2 ^ n) t (fun z => absurd z (by omega)) (fun _ => ?_) (ky_1n hn) rfl (by omega) (by omega)
    refine ky_part up hn hl hr (by omega) (fun p => ⟨hvt, nm_e ⟨hvt, nm_e ?_⟩⟩) (fun p => ⟨hvt, nm_e ⟨hvt, nm_e ?_⟩⟩)
    · rw [hct, ky_nar1]
      exact go 1 ⟨fun _ => rfl, fun z => absurd p z⟩
    · rw [hct, ky_nar0]
      exact go 0 ⟨fun z => absurd z p, fun _ => rfl⟩
end
section
/-! rising, falling, risingOf -/
theorem ky_u1 : (1 : Int32) = kx_u true := rfl
theorem ky_u0 : (0 : Int32) = kx_u false := rfl
theorem kx_k3 {x : Int32} (h0 : ¬ x < 0) (h3 : x ≤ 3) : ∃ k, k ≤ 3 ∧ x = nI k := nI_of2 (M := 3) (n := 3) (by decide) h0 h3
theorem i_vc_rising {k : Nat} {u : SX} {v : SY} (I : i_Rel k u v) (hk : k + 3 ≤ 1536) (v1 : Int32) (v2 : Int32) : wpX_rising (fun r u' => wpY_rising (fun r' v' => r' = r ∧ i_Rel (k + 3) u' v') v v1 v2) u v1 v2 := by
  obtain ⟨fc, cX, sz, fd, en, f, lt, row, cY, sg, nd, rfl, rfl, J⟩ := I
  have R : i_Rel (k + 3) (fc, cX, sz, fd, en) (f, lt, sz, row, cY, sg, nd) := kx_mk J
  unfold wpX_rising
  dsimp only
  rcases kx_w v1 with ⟨w, hw, rfl⟩ | ⟨h0, h1, h2⟩
  · obtain ⟨n, l, V, hz, hc, hlt⟩ := J w hw
    have hv := kx_vw hw
    have hz' : sz (nI w).toNatClampNeg = nI n := by rw [kx_cw hw]; exact hz
    have hc' : cX (nI w).toNatClampNeg = nI (kw_cd l n) := by rw [kx_cw hw]; exact hc
    refine kx_isW hw (br_f kx_1n0 ?_)
    by_cases a : v2 < 0
    · refine br_t a ?_
      unfold wpY_rising
      dsimp only
      exact ky_isW hw (br_t rfl (br_t a ⟨rfl, R⟩))
    refine br_f a ?_
    by_cases b : v2 ≤ 3
    · refine br_t b ⟨hv, hv, ?_⟩
      rw [hz', hc']
      obtain ⟨q, hq, rfl⟩ := kx_k3 a b
      refine kx_most true V.1 (kx_V8 V) hq fun r en' hr => ?_
      unfold wpY_rising
      dsimp only
      refine ky_isW hw (br_t rfl (br_f a (br_t b ?_)))
      exact ky_most true hw V hq hz hlt fun r' row' sg' nd' hr' => ⟨by rw [kv_uniq hr' hr], kx_mk J⟩
    · refine br_f b ?_
      unfold wpY_rising
      dsimp only
      exact ky_isW hw (br_t rfl (br_f a (br_f b ⟨rfl, R⟩)))
  · refine kx_isN h0 h1 (br_t rfl ?_)
    unfold wpY_rising
    dsimp only
    exact ky_isN h2 (br_f kx_1n0 ⟨rfl, R⟩)
theorem i_vc_falling {k : Nat} {u : SX} {v : SY} (I : i_Rel k u v) (hk : k + 3 ≤ 1536) (v1 : Int32) (v2 : Int32) : wpX_falling (fun r u' => wpY_falling (fun r' v' => r' = r ∧ i_Rel (k + 3) u' v') v v1 v2) u v1 v2 := by
  obtain ⟨fc, cX, sz, fd, en, f, lt, row, cY, sg, nd, rfl, rfl, J⟩ := I
  have R : i_Rel (k + 3) (fc, cX, sz, fd, en) (f, lt, sz, row, cY, sg, nd) := kx_mk J
  unfold wpX_falling
  dsimp only
  rcases kx_w v1 with ⟨w, hw, rfl⟩ | ⟨h0, h1, h2⟩
  · obtain ⟨n, l, V, hz, hc, hlt⟩ := J w hw
    have hv := kx_vw hw
    have hz' : sz (nI w).toNatClampNeg = nI n := by rw [kx_cw hw]; exact hz
    have hc' : cX (nI w).toNatClampNeg = nI (kw_cd l n) := by rw [kx_cw hw]; exact hc
    refine kx_isW hw (br_f kx_1n0 ?_)
    by_cases a : v2 < 0
    · refine br_t a ?_
      unfold wpY_falling
      dsimp only
      exact ky_isW hw (br_t rfl (br_t a ⟨rfl, R⟩))
    refine br_f a ?_
    by_cases b : v2 ≤ 3
    · refine br_t b ⟨hv, hv, ?_⟩
      rw [hz', hc']
      obtain ⟨q, hq, rfl⟩ := kx_k3 a b
      refine kx_most false V.1 (kx_V8 V) hq fun r en' hr => ?_
      unfold wpY_falling
      dsimp only
      refine ky_isW hw (br_t rfl (br_f a (br_t b ?_)))
      exact ky_most false hw V hq hz hlt fun r' row' sg' nd' hr' => ⟨by rw [kv_uniq hr' hr], kx_mk J⟩
    · refine br_f b ?_
      unfold wpY_falling
      dsimp only
      exact ky_isW hw (br_t rfl (br_f a (br_f b ⟨rfl, R⟩)))
  · refine kx_isN h0 h1 (br_t rfl ?_)
    unfold wpY_falling
    dsimp only
    exact ky_isN h2 (br_f kx_1n0 ⟨rfl, R⟩)
theorem ky_rof {post : Int32 → SY → Prop} {f : Int32} {lt sz row cY sg nd : Nat → Int32} {l : Nat → Nat} {n : Nat} (hn : n ≤ 7) (hl : ∀ j, j < n → l j < 8) (hr : ∀ j, j < n → row j = nI (l j))
    (H : ∀ r, kv_mx l true 1 n r → post (nI r) (f, lt, sz, row, cY, sg, nd)) : ∃ m, wY_risingOf_35 post (nI n) f lt sz row cY sg nd m 0 1 := by
  have h2n : 2 ^ n ≤ 128 := Nat.pow_le_pow_right (n := 2) (by decide) hn
  have h1n : 1 ≤ 2 ^ n := Nat.pow_pos (by decide)
  refine pk_loop (fun m i (s : Int32) => wY_risingOf_35 post (nI n) f lt sz row cY sg nd m s (nI i)) (fun t s => ∃ r, s = nI r ∧ ky_best l true n 1 t r) (2 ^ n) 1 0 h1n ⟨0, rfl, ky_b1 l true n 1⟩ ?_ ?_
  · rintro m s ⟨r, rfl, hb⟩
    exact pk_le (2 ^ n) (2 ^ n) (fun _ => H r (kv_mxs hn hb.2.1 hb.2.2)) (fun z => absurd z (by omega)) (ky_1n hn) rfl (by omega) (by omega)
  · rintro m t s ht ⟨r, rfl, hb⟩ ih
    have hsz : kv_sz t ≤ 7 := kr_ct_le _ _
    have hr7 := hb.1
    refine pk_le (2 ^ n) t (fun z => absurd z (by omega)) (fun _ => ?_) (ky_1n hn) rfl (by omega) (by omega)
    refine ky_size (by omega) ?_
    refine pk_le (kv_sz t) r (fun c => ?_) (fun c => ?_) rfl rfl (by omega) (by omega)
    · exact nm_r (nI_1 t) (ih _ ⟨r, rfl, ky_b_keep hb (fun _ => c)⟩)
    · refine ky_part true hn hl hr (by omega) (fun p => br_f kx_1n0 ?_) (fun p => br_t rfl ?_)
      · exact nm_r (nI_1 t) (ih _ ⟨_, rfl, ky_b_new hb (kv_D1.mpr p) c⟩)
      · exact nm_r (nI_1 t) (ih _ ⟨r, rfl, ky_b_keep hb (fun d => absurd (kv_D1.mp d) p)⟩)
theorem i_vc_risingOf {k : Nat} {u : SX} {v : SY} (I : i_Rel k u v) (hk : k + 3 ≤ 1536) (v1 : Int32) (v2 : Int32) : wpX_risingOf (fun r u' => wpY_risingOf (fun r' v' => r' = r ∧ i_Rel (k + 3) u' v') v v1 v2) u v1 v2 := by
  obtain ⟨fc, cX, sz, fd, en, f, lt, row, cY, sg, nd, rfl, rfl, J⟩ := I
  have R : i_Rel (k + 3) (fc, cX, sz, fd, en) (f, lt, sz, row, cY, sg, nd) := kx_mk J
  unfold wpX_risingOf
  dsimp only
  rcases kx_w v1 with ⟨w, hw, rfl⟩ | ⟨h0, h1, h2⟩
  · obtain ⟨n, l, V, hz, hc, hlt⟩ := J w hw
    have hv := kx_vw hw
    have hn := V.1
    have hl := kx_V8 V
    have hcl := kx_cl V
    have hz' : sz (nI w).toNatClampNeg = nI n := by rw [kx_cw hw]; exact hz
    have hc' : cX (nI w).toNatClampNeg = nI (kw_cd l n) := by rw [kx_cw hw]; exact hc
    refine kx_isW hw (br_f kx_1n0 ?_)
    by_cases a : v2 < 0
    · refine br_t a ?_
      unfold wpY_risingOf
      dsimp only
      exact ky_isW hw (br_t rfl (br_t a ⟨rfl, R⟩))
    obtain ⟨q, hq, rfl⟩ := nI_of a
    refine br_f a ⟨hv, pk_le q n (fun c => ⟨hv, hv, ?_⟩) (fun c => ?_) rfl hz' hq (by omega)⟩
    · have e : cX (nI w).toNatClampNeg >>> ((3 * (sz (nI w).toNatClampNeg - nI q)) &&& 31) = nI (kw_cd l q) := by
        rw [hc', hz', pk_sub c, show (3 : Int32) = nI 3 from rfl, pk_mul, kx_shr hcl (by omega), ← kw_8p, kw_pre hl c]
      refine nm_r e ?_
      refine kx_most (k := 1) true (show q ≤ 7 by omega) (fun j hj => hl j (by omega)) (by omega) fun r en' hr => ?_
      unfold wpY_risingOf
      dsimp only
      refine ky_isW hw (br_t rfl (br_f a ⟨hv, pk_le q n (fun _ => ?_) (fun z => absurd z (by omega)) rfl hz' hq (by omega)⟩))
      refine ky_take hw rfl hn hz hlt fun row' hrow => ?_
      exact ky_rof (l := l) (by omega) (fun j hj => hl j (by omega)) (fun j hj => hrow j (by omega)) fun r' hr' => ⟨by rw [kv_uniq hr' hr], kx_mk J⟩
    · unfold wpY_risingOf
      dsimp only
      exact ky_isW hw (br_t rfl (br_f a ⟨hv, pk_le q n (fun z => absurd z (by omega)) (fun _ => ⟨rfl, R⟩) rfl hz' hq (by omega)⟩))
  · refine kx_isN h0 h1 (br_t rfl ?_)
    unfold wpY_risingOf
    dsimp only
    exact ky_isN h2 (br_f kx_1n0 ⟨rfl, R⟩)
end
