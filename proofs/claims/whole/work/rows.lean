section
theorem pk_us {f : Nat → Int32} {k : Nat} {x : Int32} : upd f k x k = x := if_pos rfl
theorem pk_un {f : Nat → Int32} {k j : Nat} {x : Int32} (h : j ≠ k) : upd f k x j = f j := if_neg h
theorem pk_sub {a b : Nat} (h : b ≤ a) : nI a - nI b = nI (a - b) := by
  obtain ⟨c, rfl⟩ : ∃ c, a = c + b := ⟨a - b, by omega⟩
  rw [← nI_add, Int32.add_sub_cancel, Nat.add_sub_cancel]
theorem pk_m1 (n : Nat) : nI (n + 1) + (-1) = nI n := by
  rw [← nI_1, Int32.add_assoc, show (1 : Int32) + (-1) = 0 from rfl, Int32.add_zero]
theorem pk_mul (a b : Nat) : nI a * nI b = nI (a * b) := (Int32.ofNat_mul a b).symm
theorem pk_div {a d : Nat} (ha : a < 2 ^ 31) (h0 : 0 < d) (hd : d < 2 ^ 31) : nI a / nI d = nI (a / d) := by
  apply Int32.toInt_inj.mp
  rw [lg_idiv_nonneg (by rw [nI_toInt ha]; omega) (by rw [nI_toInt hd]; omega), nI_toInt ha, nI_toInt hd, nI_toInt (Nat.lt_of_le_of_lt (Nat.div_le_self a d) ha)]
  first | rfl | exact (Int.natCast_ediv _ _).symm
theorem pk_rem {a d : Nat} (ha : a < 2 ^ 31) (h0 : 0 < d) (hd : d < 2 ^ 31) : nI a - nI a / nI d * nI d = nI (a % d) := by
  rw [pk_div ha h0 hd, pk_mul, pk_sub (Nat.div_mul_le_self a d)]
  exact congrArg nI (by have := Nat.div_add_mod' a d; omega)
theorem pk_sub_toInt {a b : Nat} (ha : a < 2 ^ 30) (hb : b < 2 ^ 30) : (nI a - nI b).toInt = (a : Int) - b := by
  rw [Int32.toInt_sub, nI_toInt (by omega), nI_toInt (by omega)]
  exact Int.bmod_eq_of_le (by omega) (by omega)
theorem pk_sneg {a b : Nat} (hb : b < 2 ^ 30) (h : a < b) : nI a - nI b < 0 := by
  rw [Int32.lt_iff_toInt_lt, pk_sub_toInt (by omega) hb, show (0 : Int32).toInt = 0 from by decide]
  omega
theorem pk_ix (x : Int32) {n : Nat} (hn : n < 2 ^ 31) : x < 0 ∨ nI n ≤ x ∨ ∃ j : Nat, j < n ∧ x = nI j := by
  by_cases h : x < 0
  · exact Or.inl h
  · obtain ⟨j, hj, rfl⟩ := nI_of h
    by_cases h2 : j < n
    · exact Or.inr (Or.inr ⟨j, h2, rfl⟩)
    · exact Or.inr (Or.inl (nI_le (by omega) hj))
theorem pk_le {x y : Int32} {A B : Prop} (a b : Nat) (f : a ≤ b → A) (g : b < a → B) (hx : x = nI a := by rfl) (hy : y = nI b := by rfl) (ha : a < 2 ^ 31 := by omega) (hb : b < 2 ^ 31 := by omega) : (x ≤ y → A) ∧ (¬ x ≤ y → B) := by
  subst hx hy
  rw [nI_leI ha hb]
  exact ⟨f, fun z => g (by omega)⟩
theorem pk_lt {x y : Int32} {A B : Prop} (a b : Nat) (f : a < b → A) (g : b ≤ a → B) (hx : x = nI a := by rfl) (hy : y = nI b := by rfl) (ha : a < 2 ^ 31 := by omega) (hb : b < 2 ^ 31 := by omega) : (x < y → A) ∧ (¬ x < y → B) := by
  subst hx hy
  rw [nI_ltI ha hb]
  exact ⟨f, fun z => g (by omega)⟩
theorem pk_eq {x y : Int32} {A B : Prop} (a b : Nat) (f : a = b → A) (g : a ≠ b → B) (hx : x = nI a := by rfl) (hy : y = nI b := by rfl) (ha : a < 2 ^ 31 := by omega) (hb : b < 2 ^ 31 := by omega) : (x = y → A) ∧ (¬ x = y → B) := by
  subst hx hy
  rw [nI_eq ha hb]
  exact ⟨f, g⟩
theorem pk_in {x : Int32} (n N : Nat) (h : n < N) (hx : x = nI n := by rfl) (hN : N < 2 ^ 31 := by omega) : vp_in x N := by
  subst hx
  exact vp_in_nI h hN
theorem pk_cl {x : Int32} (n : Nat) (hx : x = nI n := by rfl) (h : n < 2 ^ 31 := by omega) : x.toNatClampNeg = n := by
  subst hx
  exact nI_clamp h
theorem pk_tn {n : Nat} (h : n < 2 ^ 32) : (nI n).toBitVec.toNat = n := Nat.mod_eq_of_lt h
theorem pk_and (x : Int32) {m : Int32} (k : Nat) (hm : m.toBitVec.toNat = 2 ^ k - 1) : x &&& m = nI (x.toBitVec.toNat % 2 ^ k) := by
  apply Int32.toBitVec_inj.mp
  apply BitVec.eq_of_toNat_eq
  rw [Int32.toBitVec_and, BitVec.toNat_and, hm, Nat.and_two_pow_sub_one_eq_mod]
  show _ = (BitVec.ofNat 32 _).toNat
  rw [BitVec.toNat_ofNat]
  exact (Nat.mod_eq_of_lt (Nat.lt_of_le_of_lt (Nat.mod_le _ _) x.toBitVec.isLt)).symm
theorem pk_andN {n : Nat} (h : n < 2 ^ 32) {m : Int32} (k : Nat) (hm : m.toBitVec.toNat = 2 ^ k - 1) : nI n &&& m = nI (n % 2 ^ k) := by
  rw [pk_and _ k hm, pk_tn h]
theorem pk_andE (x : Int32) {m : Int32} (k : Nat) (hm : m.toBitVec.toNat = 2 ^ k - 1) : ∃ j : Nat, j < 2 ^ k ∧ x &&& m = nI j := ⟨_, Nat.mod_lt _ (Nat.two_pow_pos k), pk_and x k hm⟩
theorem pk_andIn (x : Int32) {m : Int32} (k : Nat) (hm : m.toBitVec.toNat = 2 ^ k - 1) (hk : k ≤ 30) : vp_in (x &&& m) (2 ^ k) := by
  obtain ⟨j, hj, e⟩ := pk_andE x k hm
  rw [e]
  exact vp_in_nI hj (Nat.lt_of_le_of_lt (Nat.pow_le_pow_right (by decide) hk) (by decide))
theorem pk_shl (a s : Int32) (k : Nat) (hs : (s.toBitVec.smod 32).toNat = k) : (a <<< s).toBitVec.toNat = a.toBitVec.toNat * 2 ^ k % 2 ^ 32 := by
  show (a.toBitVec <<< (s.toBitVec.smod 32).toNat).toNat = _
  rw [hs, BitVec.toNat_shiftLeft, Nat.shiftLeft_eq]
theorem pk_shlN {n : Nat} (s : Int32) (k : Nat) (hs : (s.toBitVec.smod 32).toNat = k) (h : n * 2 ^ k < 2 ^ 32) : nI n <<< s = nI (n * 2 ^ k) := by
  apply Int32.toBitVec_inj.mp
  apply BitVec.eq_of_toNat_eq
  have hn : n < 2 ^ 32 := Nat.lt_of_le_of_lt (Nat.le_mul_of_pos_right n (Nat.two_pow_pos k)) h
  rw [pk_shl _ _ k hs, pk_tn hn, pk_tn h, Nat.mod_eq_of_lt h]
theorem pk_shr (a s : Int32) (k : Nat) (hs : (s.toBitVec.smod 32).toNat = k) : (a >>> s).toInt = a.toInt >>> k := by
  show (a.toBitVec.sshiftRight (s.toBitVec.smod 32).toNat).toInt = _
  rw [hs, BitVec.toInt_sshiftRight]
  rfl
theorem pk_shrN {n : Nat} (h : n < 2 ^ 31) (s : Int32) (k : Nat) (hs : (s.toBitVec.smod 32).toNat = k) : nI n >>> s = nI (n / 2 ^ k) := by
  apply Int32.toInt_inj.mp
  have h2 : n / 2 ^ k ≤ n := Nat.div_le_self _ _
  rw [pk_shr _ _ k hs, nI_toInt h, nI_toInt (by omega), Int.shiftRight_eq_div_pow]
  rfl
theorem pk_loop {σ : Type} (W : Nat → Nat → σ → Prop) (I : Nat → σ → Prop) (e i0 : Nat) (s : σ) (hi : i0 ≤ e) (h0 : I i0 s) (hx : ∀ n s, I e s → W (n + 1) e s)
    (hs : ∀ n i s, i < e → I i s → (∀ s', I (i + 1) s' → W n (i + 1) s') → W (n + 1) i s) : ∃ n, W n i0 s :=
  ⟨e + 1, loop_i W I e hx hs (e + 1) i0 s hi (by omega) h0⟩
theorem pk_loopD {σ : Type} (W : Nat → Nat → σ → Prop) (I : Nat → σ → Prop) (hx : ∀ n s, I 0 s → W (n + 1) 0 s)
    (hs : ∀ n i s, I (i + 1) s → (∀ s', I i s' → W n i s') → W (n + 1) (i + 1) s) : ∀ (e : Nat) (s : σ), I e s → W (e + 1) e s := by
  intro e
  induction e with
  | zero => exact fun s h => hx 0 s h
  | succ e ih => exact fun s h => hs (e + 1) e s h (fun s' h' => ih s' h')
theorem s_l : ∀ n, n < 32 → ((nI n &&& 31).toBitVec.smod 32).toNat = n := by decide +kernel
theorem nx_and (a b : Nat) : nI a &&& nI b = nI (a &&& b) := by
  apply Int32.toBitVec_inj.1
  show BitVec.ofNat 32 a &&& BitVec.ofNat 32 b = BitVec.ofNat 32 (a &&& b)
  apply BitVec.eq_of_getLsbD_eq
  intro i hi
  simp [hi]
theorem nx_xor (a b : Nat) : nI a ^^^ nI b = nI (a ^^^ b) := by
  apply Int32.toBitVec_inj.1
  show BitVec.ofNat 32 a ^^^ BitVec.ofNat 32 b = BitVec.ofNat 32 (a ^^^ b)
  apply BitVec.eq_of_getLsbD_eq
  intro i hi
  simp [hi]
end
section
/-! words as letter functions, their codes, swaps and moves -/
theorem kw_or (a b : Nat) : nI a ||| nI b = nI (a ||| b) := by
  apply Int32.toBitVec_inj.1
  show BitVec.ofNat 32 a ||| BitVec.ofNat 32 b = BitVec.ofNat 32 (a ||| b)
  apply BitVec.eq_of_getLsbD_eq
  intro i hi
  simp [hi]
theorem kw_or8 {c x : Nat} (hx : x < 8) : nI (c * 8) ||| nI x = nI (8 * c + x) := by
  rw [kw_or]
  have h := Nat.shiftLeft_add_eq_or_of_lt (i := 3) (b := x) (by omega) c
  rw [Nat.shiftLeft_eq] at h
  have e : c * 2 ^ 3 = c * 8 := by omega
  rw [e] at h
  rw [← h, Nat.mul_comm c 8]
def kw_cd (l : Nat → Nat) : Nat → Nat
  | 0 => 0
  | n + 1 => 8 * kw_cd l n + l n
def kw_dg (n c : Nat) : Nat → Nat := fun i => c / 8 ^ (n - 1 - i) % 8
def kw_sw (l : Nat → Nat) (i : Nat) : Nat → Nat := fun j => if j = i then l (i + 1) else if j = i + 1 then l i else l j
def kw_mm (l : Nat → Nat) (n i : Nat) : Prop :=
  (0 < i ∧ ((l i < l (i - 1) ∧ l (i - 1) ≤ l (i + 1)) ∨ (l (i + 1) < l (i - 1) ∧ l (i - 1) ≤ l i))) ∨
  (i + 2 < n ∧ ((l i ≤ l (i + 2) ∧ l (i + 2) < l (i + 1)) ∨ (l (i + 1) ≤ l (i + 2) ∧ l (i + 2) < l i)))
theorem kw_cd_congr {l l' : Nat → Nat} : ∀ {n : Nat}, (∀ i, i < n → l i = l' i) → kw_cd l n = kw_cd l' n
  | 0, _ => rfl
  | n + 1, h => by
    show 8 * kw_cd l n + l n = 8 * kw_cd l' n + l' n
    rw [kw_cd_congr (n := n) (fun i hi => h i (by omega)), h n (by omega)]
theorem kw_cd_lt {l : Nat → Nat} : ∀ {n : Nat}, (∀ i, i < n → l i < 8) → kw_cd l n < 8 ^ n
  | 0, _ => Nat.zero_lt_one
  | n + 1, h => by
    show 8 * kw_cd l n + l n < 8 ^ (n + 1)
    have h1 := kw_cd_lt (n := n) (fun i hi => h i (by omega))
    have h2 := h n (by omega)
    rw [Nat.pow_succ]
    omega
theorem kw_dig {l : Nat → Nat} : ∀ {n i : Nat}, (∀ j, j < n → l j < 8) → i < n → kw_cd l n / 8 ^ (n - 1 - i) % 8 = l i
  | 0, _, _, h => absurd h (by omega)
  | n + 1, i, hl, hi => by
    show (8 * kw_cd l n + l n) / 8 ^ (n + 1 - 1 - i) % 8 = l i
    have hn := hl n (by omega)
    by_cases h : i = n
    · subst h
      have e : i + 1 - 1 - i = 0 := by omega
      rw [e]
      show (8 * kw_cd l i + l i) / 1 % 8 = l i
      rw [Nat.div_one]
      omega
    · have e : n + 1 - 1 - i = (n - 1 - i) + 1 := by omega
      rw [e, Nat.pow_succ, Nat.mul_comm (8 ^ _) 8, ← Nat.div_div_eq_div_mul]
      have e2 : (8 * kw_cd l n + l n) / 8 = kw_cd l n := by omega
      rw [e2]
      exact kw_dig (n := n) (fun j hj => hl j (by omega)) (by omega)
theorem kw_dg_cd {l : Nat → Nat} {n i : Nat} (hl : ∀ j, j < n → l j < 8) (hi : i < n) : kw_dg n (kw_cd l n) i = l i := kw_dig hl hi
theorem kw_dg_lt (n c i : Nat) : kw_dg n c i < 8 := Nat.mod_lt _ (by decide)
theorem kw_dg_s {n c i : Nat} (hi : i < n) : kw_dg (n + 1) c i = kw_dg n (c / 8) i := by
  show c / 8 ^ (n + 1 - 1 - i) % 8 = c / 8 / 8 ^ (n - 1 - i) % 8
  have e : n + 1 - 1 - i = (n - 1 - i) + 1 := by omega
  rw [e, Nat.pow_succ, Nat.mul_comm (8 ^ _) 8, ← Nat.div_div_eq_div_mul]
theorem kw_cd_dg : ∀ {n c : Nat}, c < 8 ^ n → kw_cd (kw_dg n c) n = c
  | 0, c, h => by
    have : c = 0 := by simpa using h
    subst this; rfl
  | n + 1, c, h => by
    show 8 * kw_cd (kw_dg (n + 1) c) n + kw_dg (n + 1) c n = c
    rw [kw_cd_congr (l' := kw_dg n (c / 8)) (fun i hi => kw_dg_s hi), kw_cd_dg (n := n) (by rw [Nat.pow_succ] at h; omega)]
    have e : kw_dg (n + 1) c n = c % 8 := by
      show c / 8 ^ (n + 1 - 1 - n) % 8 = c % 8
      have e : n + 1 - 1 - n = 0 := by omega
      rw [e]
      show c / 1 % 8 = c % 8
      rw [Nat.div_one]
    rw [e]
    omega
theorem kw_split (l : Nat → Nat) (m : Nat) : ∀ k : Nat, kw_cd l (m + k) = kw_cd l m * 8 ^ k + kw_cd (fun j => l (m + j)) k
  | 0 => by show kw_cd l m = kw_cd l m * 1 + 0; omega
  | k + 1 => by
    show 8 * kw_cd l (m + k) + l (m + k) = kw_cd l m * 8 ^ (k + 1) + (8 * kw_cd (fun j => l (m + j)) k + l (m + k))
    rw [kw_split l m k, Nat.pow_succ]
    generalize kw_cd l m = a
    generalize 8 ^ k = b
    have : a * (b * 8) = 8 * (a * b) := by rw [← Nat.mul_assoc, Nat.mul_comm]
    omega
theorem kw_pre {l : Nat → Nat} {n m : Nat} (hl : ∀ j, j < n → l j < 8) (hm : m ≤ n) : kw_cd l n / 8 ^ (n - m) = kw_cd l m := by
  obtain ⟨k, rfl⟩ : ∃ k, n = m + k := ⟨n - m, by omega⟩
  have e : m + k - m = k := by omega
  rw [e, kw_split]
  have h : kw_cd (fun j => l (m + j)) k < 8 ^ k := kw_cd_lt (fun i hi => hl _ (by omega))
  have hp : 0 < 8 ^ k := Nat.pow_pos (by decide)
  rw [Nat.mul_comm, Nat.mul_add_div hp, Nat.div_eq_of_lt h]
  rfl
theorem kw_xs {A B T m : Nat} (h : T < 2 ^ m) : (A * 2 ^ m + T) ^^^ (B * 2 ^ m) = (A ^^^ B) * 2 ^ m + T := by
  have hp : 0 < 2 ^ m := Nat.pow_pos (by decide)
  have d : ((A * 2 ^ m + T) ^^^ (B * 2 ^ m)) / 2 ^ m = A ^^^ B := by
    rw [Nat.xor_div_two_pow, Nat.mul_comm A, Nat.mul_add_div hp, Nat.div_eq_of_lt h, Nat.mul_div_cancel _ hp]
    rfl
  have r : ((A * 2 ^ m + T) ^^^ (B * 2 ^ m)) % 2 ^ m = T := by
    rw [Nat.xor_mod_two_pow, Nat.mul_comm A, Nat.mul_add_mod, Nat.mod_eq_of_lt h, Nat.mul_mod_left, Nat.xor_zero]
  have := Nat.div_add_mod ((A * 2 ^ m + T) ^^^ (B * 2 ^ m)) (2 ^ m)
  rw [d, r] at this
  rw [← this, Nat.mul_comm]
theorem kw_x64 : ∀ x, x < 8 → ∀ y, y < 8 → ((x * 8 + y) ^^^ (9 * (x ^^^ y))) = y * 8 + x ∧ 9 * (x ^^^ y) < 64 ∧ x ^^^ y < 8 ∧ ((x ^^^ y) ^^^ ((x ^^^ y) * 8)) = 9 * (x ^^^ y) := by decide +kernel
theorem kw_xx {a x y T m : Nat} (hT : T < 2 ^ m) (hx : x < 8) (hy : y < 8) :
    ((((8 * (8 * a + x) + y) * 2 ^ m + T) ^^^ ((x ^^^ y) * 2 ^ m)) ^^^ ((x ^^^ y) * 2 ^ (m + 3))) = (8 * (8 * a + y) + x) * 2 ^ m + T := by
  obtain ⟨h1, h2, h3, h4⟩ := kw_x64 x hx y hy
  have e : (x ^^^ y) * 2 ^ (m + 3) = ((x ^^^ y) * 8) * 2 ^ m := by
    rw [Nat.pow_add, Nat.mul_assoc]
    congr 1
    rw [Nat.mul_comm]
  rw [e, kw_xs hT, kw_xs hT, Nat.xor_assoc, h4]
  have s : (8 * (8 * a + x) + y) ^^^ (9 * (x ^^^ y)) = 8 * (8 * a + y) + x := by
    have e1 : 8 * (8 * a + x) + y = a * 2 ^ 6 + (x * 8 + y) := by omega
    rw [e1, Nat.xor_comm]
    have e2 : 9 * (x ^^^ y) = 0 * 2 ^ 6 + 9 * (x ^^^ y) := by omega
    have q : (a * 2 ^ 6 + (x * 8 + y)) ^^^ (9 * (x ^^^ y)) = a * 2 ^ 6 + ((x * 8 + y) ^^^ (9 * (x ^^^ y))) := by
      have hb : (x * 8 + y) < 2 ^ 6 := by omega
      have hr : ((x * 8 + y) ^^^ (9 * (x ^^^ y))) < 2 ^ 6 := by rw [h1]; omega
      have d : ((a * 2 ^ 6 + (x * 8 + y)) ^^^ (9 * (x ^^^ y))) / 2 ^ 6 = a := by
        rw [Nat.xor_div_two_pow, Nat.div_eq_of_lt (a := 9 * (x ^^^ y)) (by omega), Nat.xor_zero]
        omega
      have r : ((a * 2 ^ 6 + (x * 8 + y)) ^^^ (9 * (x ^^^ y))) % 2 ^ 6 = ((x * 8 + y) ^^^ (9 * (x ^^^ y))) := by
        rw [Nat.xor_mod_two_pow, Nat.mod_eq_of_lt (a := 9 * (x ^^^ y)) (by omega)]
        congr 1
        omega
      have := Nat.div_add_mod ((a * 2 ^ 6 + (x * 8 + y)) ^^^ (9 * (x ^^^ y))) (2 ^ 6)
      rw [d, r] at this
      rw [← this, Nat.mul_comm]
    rw [Nat.xor_comm, q, h1]
    omega
  rw [s]
theorem kw_8p (k : Nat) : (8 : Nat) ^ k = 2 ^ (3 * k) := by rw [Nat.pow_mul]
theorem kw_swap_code {l : Nat → Nat} {n i : Nat} (hl : ∀ j, j < n → l j < 8) (hi : i + 1 < n) :
    ((kw_cd l n ^^^ ((l i ^^^ l (i + 1)) * 2 ^ (3 * (n - 2 - i)))) ^^^ ((l i ^^^ l (i + 1)) * 2 ^ (3 * (n - 2 - i) + 3))) = kw_cd (kw_sw l i) n := by
  obtain ⟨k, rfl⟩ : ∃ k, n = (i + 2) + k := ⟨n - (i + 2), by omega⟩
  have e : i + 2 + k - 2 - i = k := by omega
  rw [e, kw_split, kw_split (kw_sw l i)]
  have t : kw_cd (fun j => kw_sw l i (i + 2 + j)) k = kw_cd (fun j => l (i + 2 + j)) k := by
    apply kw_cd_congr
    intro j _
    show (if i + 2 + j = i then _ else if i + 2 + j = i + 1 then _ else _) = _
    rw [if_neg (by omega), if_neg (by omega)]
  have u : kw_cd (kw_sw l i) (i + 2) = 8 * (8 * kw_cd l i + l (i + 1)) + l i := by
    show 8 * (8 * kw_cd (kw_sw l i) i + kw_sw l i i) + kw_sw l i (i + 1) = _
    have a : kw_cd (kw_sw l i) i = kw_cd l i := by
      apply kw_cd_congr
      intro j hj
      show (if j = i then _ else if j = i + 1 then _ else _) = _
      rw [if_neg (by omega), if_neg (by omega)]
    have b : kw_sw l i i = l (i + 1) := if_pos rfl
    have c : kw_sw l i (i + 1) = l i := by
      show (if i + 1 = i then _ else if i + 1 = i + 1 then _ else _) = _
      rw [if_neg (by omega), if_pos rfl]
    rw [a, b, c]
  rw [t, u]
  have hT : kw_cd (fun j => l (i + 2 + j)) k < 2 ^ (3 * k) := by
    rw [← kw_8p]
    exact kw_cd_lt (fun j hj => hl _ (by omega))
  rw [kw_8p]
  exact kw_xx hT (hl i (by omega)) (hl (i + 1) (by omega))
theorem kw_sw_lt {l : Nat → Nat} {n i : Nat} {P : Nat → Prop} (hl : ∀ j, j < n → P (l j)) (hi : i + 1 < n) : ∀ j, j < n → P (kw_sw l i j) := by
  intro j hj
  show P (if j = i then l (i + 1) else if j = i + 1 then l i else l j)
  by_cases h : j = i
  · rw [if_pos h]; exact hl _ (by omega)
  · rw [if_neg h]
    by_cases h2 : j = i + 1
    · rw [if_pos h2]; exact hl _ (by omega)
    · rw [if_neg h2]; exact hl _ hj
theorem kw_mm_congr {l l' : Nat → Nat} {n i : Nat} (h : ∀ j, j < n → l j = l' j) (hi : i + 1 < n) (m : kw_mm l n i) : kw_mm l' n i := by
  unfold kw_mm at m ⊢
  rw [← h i (by omega), ← h (i + 1) hi, ← h (i - 1) (by omega)]
  rcases m with m | ⟨m0, m⟩
  · exact Or.inl m
  · rw [← h (i + 2) m0]
    exact Or.inr ⟨m0, m⟩
theorem kw_sw_congr {l l' : Nat → Nat} {n i : Nat} (h : ∀ j, j < n → l j = l' j) (hi : i + 1 < n) : ∀ j, j < n → kw_sw l i j = kw_sw l' i j := by
  intro j hj
  show (if j = i then l (i + 1) else if j = i + 1 then l i else l j) = (if j = i then l' (i + 1) else if j = i + 1 then l' i else l' j)
  rw [h i (by omega), h (i + 1) hi, h j hj]
end
