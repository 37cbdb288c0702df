/-! parts, assignments of places to parts, least numbers of parts -/
def kv_fit (up : Bool) (x e : Nat) : Prop := match up with
  | true => e ≤ x
  | false => x < e
def kv_in (up : Bool) : Nat := match up with
  | true => 0
  | false => 8
/-- kv_pw l up M i e: the places j < i with M j make a part, whose last letter is e -/
def kv_pw (l : Nat → Nat) (up : Bool) (M : Nat → Bool) : Nat → Nat → Prop
  | 0 => fun e => e = kv_in up
  | i + 1 => fun e => (M i = true ∧ e = l i ∧ ∃ e', kv_pw l up M i e' ∧ kv_fit up (l i) e') ∨ (M i = false ∧ kv_pw l up M i e)
def kv_pt (l : Nat → Nat) (up : Bool) (M : Nat → Bool) (n : Nat) : Prop := ∃ e, kv_pw l up M n e
theorem kv_pw_fun {l : Nat → Nat} {up : Bool} {M : Nat → Bool} : ∀ {n e e' : Nat}, kv_pw l up M n e → kv_pw l up M n e' → e = e'
  | 0, _, _, h, h' => Eq.trans h (Eq.symm h')
  | n + 1, _, _, h, h' => by
    rcases h with ⟨h1, h2, _⟩ | ⟨h1, h2⟩ <;> rcases h' with ⟨g1, g2, _⟩ | ⟨g1, g2⟩
    · rw [h2, g2]
    · rw [h1] at g1; exact Bool.noConfusion g1
    · rw [h1] at g1; exact Bool.noConfusion g1
    · exact kv_pw_fun h2 g2
theorem kv_pw_congr {l : Nat → Nat} {up : Bool} {M M' : Nat → Bool} : ∀ {n e : Nat}, (∀ j, j < n → M j = M' j) → kv_pw l up M n e → kv_pw l up M' n e
  | 0, _, _, h => h
  | n + 1, _, c, h => by
    rcases h with ⟨h1, h2, e', h3, h4⟩ | ⟨h1, h2⟩
    · exact Or.inl ⟨by rw [← c n (by omega)]; exact h1, h2, e', kv_pw_congr (fun j hj => c j (by omega)) h3, h4⟩
    · exact Or.inr ⟨by rw [← c n (by omega)]; exact h1, kv_pw_congr (fun j hj => c j (by omega)) h2⟩
theorem kv_pt_congr {l : Nat → Nat} {up : Bool} {M M' : Nat → Bool} {n : Nat} (c : ∀ j, j < n → M j = M' j) (h : kv_pt l up M n) : kv_pt l up M' n := by
  obtain ⟨e, he⟩ := h
  exact ⟨e, kv_pw_congr c he⟩
theorem kv_pw_none {l : Nat → Nat} {up : Bool} {M : Nat → Bool} : ∀ {n : Nat}, (∀ j, j < n → M j = false) → kv_pw l up M n (kv_in up)
  | 0, _ => rfl
  | n + 1, h => Or.inr ⟨h n (by omega), kv_pw_none (fun j hj => h j (by omega))⟩
theorem kv_pt_down {l : Nat → Nat} {up : Bool} {M : Nat → Bool} {n : Nat} (h : kv_pt l up M (n + 1)) : kv_pt l up M n := by
  obtain ⟨e, ⟨_, _, e', h, _⟩ | ⟨_, h⟩⟩ := h
  · exact ⟨e', h⟩
  · exact ⟨e, h⟩
theorem kv_pt_le {l : Nat → Nat} {up : Bool} {M : Nat → Bool} {m : Nat} : ∀ {n : Nat}, m ≤ n → kv_pt l up M n → kv_pt l up M m
  | 0, h, p => by have : m = 0 := by omega
                  rw [this]; exact p
  | n + 1, h, p => by
    by_cases e : m = n + 1
    · rw [e]; exact p
    · exact kv_pt_le (by omega) (kv_pt_down p)
def kv_ok (l : Nat → Nat) (up : Bool) (a : Nat → Nat) (k n : Nat) : Prop := ∀ q, 1 ≤ q → q ≤ k → kv_pt l up (fun j => decide (a j = q)) n
def kv_ct (a : Nat → Nat) (n : Nat) : Nat := kr_ct (fun j => decide (a j ≠ 0)) n
theorem kv_ok_congr {l : Nat → Nat} {up : Bool} {a b : Nat → Nat} {k n : Nat} (c : ∀ j, j < n → a j = b j) (h : kv_ok l up a k n) : kv_ok l up b k n :=
  fun q h1 h2 => kv_pt_congr (fun j hj => by rw [c j hj]) (h q h1 h2)
theorem kr_congr {P Q : Nat → Bool} : ∀ {n : Nat}, (∀ j, j < n → P j = Q j) → kr_ct P n = kr_ct Q n
  | 0, _ => rfl
  | n + 1, h => by
    show kr_ct P n + (if P n then 1 else 0) = kr_ct Q n + (if Q n then 1 else 0)
    rw [kr_congr (n := n) (fun j hj => h j (by omega)), h n (by omega)]
theorem kr_ct_le (P : Nat → Bool) : ∀ n : Nat, kr_ct P n ≤ n
  | 0 => Nat.le_refl _
  | n + 1 => by
    show kr_ct P n + (if P n then 1 else 0) ≤ n + 1
    have := kr_ct_le P n
    split <;> omega
theorem kr_ct_more {P : Nat → Bool} {n : Nat} : ∀ k : Nat, (∀ j, n ≤ j → P j = false) → kr_ct P (n + k) = kr_ct P n
  | 0, _ => rfl
  | k + 1, h => by
    show kr_ct P (n + k) + (if P (n + k) then 1 else 0) = kr_ct P n
    rw [kr_ct_more k h, h (n + k) (by omega)]
    rfl
theorem kv_ct_congr {a b : Nat → Nat} {n : Nat} (c : ∀ j, j < n → a j = b j) : kv_ct a n = kv_ct b n := kr_congr (fun j hj => by rw [c j hj])
/-- r is the greatest number of places that k parts can have together -/
def kv_mx (l : Nat → Nat) (up : Bool) (k n r : Nat) : Prop :=
  (r = 0 ∨ ∃ a : Nat → Nat, (∀ j, j < n → a j ≤ k) ∧ kv_ok l up a k n ∧ kv_ct a n = r) ∧
  ∀ a : Nat → Nat, (∀ j, j < n → a j ≤ k) → kv_ok l up a k n → kv_ct a n ≤ r
theorem kv_uniq {l : Nat → Nat} {up : Bool} {k n r r' : Nat} (h : kv_mx l up k n r) (h' : kv_mx l up k n r') : r = r' := by
  have a : r ≤ r' := by
    rcases h.1 with e | ⟨a, h1, h2, h3⟩
    · omega
    · rw [← h3]; exact h'.2 a h1 h2
  have b : r' ≤ r := by
    rcases h'.1 with e | ⟨a, h1, h2, h3⟩
    · omega
    · rw [← h3]; exact h.2 a h1 h2
  omega
/-! ways as numbers: the digits to the base b -/
def kv_dd (b w : Nat) : Nat → Nat := fun j => w / b ^ j % b
theorem kv_dd_s (b w j : Nat) : kv_dd b w (j + 1) = kv_dd b (w / b) j := by
  show w / b ^ (j + 1) % b = w / b / b ^ j % b
  rw [Nat.pow_succ, Nat.mul_comm, ← Nat.div_div_eq_div_mul]
theorem kv_enc {b : Nat} (hb : 0 < b) : ∀ (n : Nat) (a : Nat → Nat), (∀ j, j < n → a j < b) → ∃ w, w < b ^ n ∧ ∀ j, j < n → kv_dd b w j = a j
  | 0, _, _ => ⟨0, Nat.zero_lt_one, fun _ h => absurd h (by omega)⟩
  | n + 1, a, h => by
    obtain ⟨w, hw, hd⟩ := kv_enc hb n (fun j => a (j + 1)) (fun j hj => h (j + 1) (by omega))
    have ha := h 0 (by omega)
    refine ⟨b * w + a 0, ?_, ?_⟩
    · rw [Nat.pow_succ]
      have h1 : b * (w + 1) ≤ b * b ^ n := Nat.mul_le_mul_left b hw
      rw [Nat.mul_add, Nat.mul_one] at h1
      rw [Nat.mul_comm (b ^ n) b]
      omega
    · intro j hj
      cases j with
      | zero =>
        show (b * w + a 0) / b ^ 0 % b = a 0
        rw [Nat.pow_zero, Nat.div_one, Nat.mul_add_mod, Nat.mod_eq_of_lt ha]
      | succ j =>
        rw [kv_dd_s, Nat.mul_add_div hb, Nat.div_eq_of_lt ha]
        exact hd j (by omega)
theorem kv_mxw {l : Nat → Nat} {up : Bool} {k n r : Nat}
    (h1 : r = 0 ∨ ∃ w, w < (k + 1) ^ n ∧ kv_ok l up (kv_dd (k + 1) w) k n ∧ kv_ct (kv_dd (k + 1) w) n = r)
    (h2 : ∀ w, w < (k + 1) ^ n → kv_ok l up (kv_dd (k + 1) w) k n → kv_ct (kv_dd (k + 1) w) n ≤ r) : kv_mx l up k n r := by
  constructor
  · rcases h1 with e | ⟨w, _, h3, h4⟩
    · exact Or.inl e
    · exact Or.inr ⟨kv_dd (k + 1) w, fun j _ => Nat.le_of_lt_succ (Nat.mod_lt _ (by omega)), h3, h4⟩
  · intro a ha hok
    obtain ⟨w, hw, hd⟩ := kv_enc (b := k + 1) (by omega) n a (fun j hj => by have := ha j hj; omega)
    rw [← kv_ct_congr hd]
    exact h2 w hw (kv_ok_congr (fun j hj => (hd j hj).symm) hok)
/-! sets of places as numbers -/
theorem kv_mask (M : Nat → Bool) : ∀ n : Nat, ∃ p, p < 2 ^ n ∧ ∀ j, j < n → p.testBit j = M j
  | 0 => ⟨0, Nat.zero_lt_one, fun _ h => absurd h (by omega)⟩
  | n + 1 => by
    obtain ⟨p, hp, hb⟩ := kv_mask M n
    have h2 : p < 2 ^ (n + 1) := Nat.lt_trans hp (Nat.pow_lt_pow_right (by decide) (by omega))
    by_cases h : M n = true
    · refine ⟨p ||| 2 ^ n, Nat.or_lt_two_pow h2 (Nat.pow_lt_pow_right (by decide) (by omega)), fun j hj => ?_⟩
      rw [Nat.testBit_or, Nat.testBit_two_pow]
      by_cases e : j = n
      · subst e
        simp [h]
      · rw [hb j (by omega), decide_eq_false (by omega), Bool.or_false]
    · refine ⟨p, h2, fun j hj => ?_⟩
      by_cases e : j = n
      · subst e
        rw [Nat.testBit_lt_two_pow hp]
        simpa using h
      · exact hb j (by omega)
theorem kv_big {p n j : Nat} (hp : p < 2 ^ n) (h : n ≤ j) : p.testBit j = false :=
  Nat.testBit_lt_two_pow (Nat.lt_of_lt_of_le hp (Nat.pow_le_pow_right (by decide) h))
theorem kv_bz {p n : Nat} (hp : p < 2 ^ n) (h : ∀ j, j < n → p.testBit j = false) : p = 0 := by
  apply Nat.eq_of_testBit_eq
  intro j
  rw [Nat.zero_testBit]
  by_cases e : j < n
  · exact h j e
  · exact kv_big hp (by omega)
def kv_sz (s : Nat) : Nat := kr_ct (fun j => s.testBit j) 7
def kv_D (l : Nat → Nat) (up : Bool) (n k s : Nat) : Prop :=
  ∃ a : Nat → Nat, (∀ j, j < n → a j ≤ k) ∧ (∀ j, j < n → (a j ≠ 0 ↔ s.testBit j = true)) ∧ kv_ok l up a k n
theorem kv_sz_ct {s n : Nat} {a : Nat → Nat} (hn : n ≤ 7) (hs : s < 2 ^ n) (h : ∀ j, j < n → (a j ≠ 0 ↔ s.testBit j = true)) : kv_ct a n = kv_sz s := by
  have e : kv_sz s = kr_ct (fun j => s.testBit j) n := by
    have := kr_ct_more (P := fun j => s.testBit j) (n := n) (7 - n) (fun j hj => kv_big hs hj)
    rw [← this]
    have e : n + (7 - n) = 7 := by omega
    rw [e]
    rfl
  rw [e]
  apply kr_congr
  intro j hj
  have := h j hj
  show decide (a j ≠ 0) = s.testBit j
  by_cases b : s.testBit j = true
  · rw [b]; exact decide_eq_true (this.mpr b)
  · rw [decide_eq_false (fun z => b (this.mp z))]
    simpa using (Eq.symm (by simpa using b : s.testBit j = false))
theorem kv_mxs {l : Nat → Nat} {up : Bool} {k n r : Nat} (hn : n ≤ 7)
    (h1 : r = 0 ∨ ∃ s, s < 2 ^ n ∧ kv_D l up n k s ∧ kv_sz s = r)
    (h2 : ∀ s, s < 2 ^ n → kv_D l up n k s → kv_sz s ≤ r) : kv_mx l up k n r := by
  constructor
  · rcases h1 with e | ⟨s, hs, ⟨a, a1, a2, a3⟩, e⟩
    · exact Or.inl e
    · exact Or.inr ⟨a, a1, a3, by rw [kv_sz_ct hn hs a2, e]⟩
  · intro a ha hok
    obtain ⟨s, hs, hb⟩ := kv_mask (fun j => decide (a j ≠ 0)) n
    have a2 : ∀ j, j < n → (a j ≠ 0 ↔ s.testBit j = true) := fun j hj => by rw [hb j hj, decide_eq_true_iff]
    rw [kv_sz_ct hn hs a2]
    exact h2 s hs ⟨a, ha, a2, hok⟩
theorem kv_D0 {l : Nat → Nat} {up : Bool} {n s : Nat} (hs : s < 2 ^ n) (h : kv_D l up n 0 s) : s = 0 := by
  obtain ⟨a, a1, a2, _⟩ := h
  refine kv_bz hs fun j hj => ?_
  have h1 := a1 j hj
  have h2 := a2 j hj
  by_cases b : s.testBit j = true
  · have := h2.mpr b; omega
  · simpa using b
theorem kv_Dz (l : Nat → Nat) (up : Bool) (n k : Nat) : kv_D l up n k 0 :=
  ⟨fun _ => 0, fun _ _ => Nat.zero_le _, fun j _ => by rw [Nat.zero_testBit]; simp, fun q h1 _ => ⟨_, kv_pw_none (fun j _ => decide_eq_false (show ¬ 0 = q by omega))⟩⟩
theorem kv_subb {p s : Nat} (h : p &&& s = p) (j : Nat) (hj : p.testBit j = true) : s.testBit j = true := by
  have : (p &&& s).testBit j = true := by rw [h]; exact hj
  rw [Nat.testBit_and, hj, Bool.true_and] at this
  exact this
theorem kv_Ds {l : Nat → Nat} {up : Bool} {n k s p : Nat} (hsub : p &&& s = p) (hpt : kv_pt l up (fun j => p.testBit j) n) (h : kv_D l up n k (s ^^^ p)) : kv_D l up n (k + 1) s := by
  obtain ⟨a, a1, a2, a3⟩ := h
  refine ⟨fun j => if p.testBit j = true then k + 1 else a j, ?_, ?_, ?_⟩
  · intro j hj
    have := a1 j hj
    show (if p.testBit j = true then k + 1 else a j) ≤ k + 1
    split <;> omega
  · intro j hj
    show (if p.testBit j = true then k + 1 else a j) ≠ 0 ↔ s.testBit j = true
    by_cases b : p.testBit j = true
    · rw [if_pos b]
      exact ⟨fun _ => kv_subb hsub j b, fun _ => by omega⟩
    · rw [if_neg b, a2 j hj, Nat.testBit_xor]
      have : p.testBit j = false := by simpa using b
      rw [this, Bool.xor_false]
  · intro q h1 h2
    by_cases e : q = k + 1
    · refine kv_pt_congr (fun j hj => ?_) hpt
      have := a1 j hj
      show p.testBit j = decide ((if p.testBit j = true then k + 1 else a j) = q)
      by_cases b : p.testBit j = true
      · rw [if_pos b, b, decide_eq_true e.symm]
      · rw [if_neg b, decide_eq_false (by omega)]
        simpa using b
    · refine kv_pt_congr (fun j hj => ?_) (a3 q h1 (by omega))
      show decide (a j = q) = decide ((if p.testBit j = true then k + 1 else a j) = q)
      by_cases b : p.testBit j = true
      · rw [if_pos b, decide_eq_false (p := k + 1 = q) (by omega)]
        have z := a2 j hj
        rw [Nat.testBit_xor, b, kv_subb hsub j b] at z
        have : a j = 0 := by
          by_cases y : a j = 0
          · exact y
          · have := z.mp y; exact absurd this (by decide)
        exact decide_eq_false (by omega)
      · rw [if_neg b]
theorem kv_Di {l : Nat → Nat} {up : Bool} {n k s : Nat} (hs : s < 2 ^ n) (h : kv_D l up n (k + 1) s) :
    kv_D l up n k s ∨ ∃ p, p ≠ 0 ∧ p < 2 ^ n ∧ p &&& s = p ∧ kv_pt l up (fun j => p.testBit j) n ∧ kv_D l up n k (s ^^^ p) := by
  obtain ⟨a, a1, a2, a3⟩ := h
  obtain ⟨p, hp, hb⟩ := kv_mask (fun j => decide (a j = k + 1)) n
  by_cases z : p = 0
  · left
    have hk : ∀ j, j < n → a j ≤ k := by
      intro j hj
      have h1 := a1 j hj
      have h2 := hb j hj
      rw [z, Nat.zero_testBit] at h2
      have h3 : ¬ a j = k + 1 := of_decide_eq_false h2.symm
      omega
    exact ⟨a, hk, a2, fun q h1 h2 => a3 q h1 (by omega)⟩
  · right
    have pb : ∀ j, j < n → (p.testBit j = true ↔ a j = k + 1) := fun j hj => by rw [hb j hj, decide_eq_true_iff]
    have hsub : p &&& s = p := by
      apply Nat.eq_of_testBit_eq
      intro j
      rw [Nat.testBit_and]
      by_cases e : j < n
      · by_cases b : p.testBit j = true
        · have h1 := (pb j e).mp b
          have h2 := (a2 j e).mp (by omega)
          rw [b, h2]
          rfl
        · have : p.testBit j = false := by simpa using b
          rw [this, Bool.false_and]
      · rw [kv_big hp (by omega), Bool.false_and]
    refine ⟨p, z, hp, hsub, ?_, ?_⟩
    · exact kv_pt_congr (fun j hj => (hb j hj).symm) (a3 (k + 1) (by omega) (by omega))
    · refine ⟨fun j => if a j = k + 1 then 0 else a j, ?_, ?_, ?_⟩
      · intro j hj
        have := a1 j hj
        show (if a j = k + 1 then 0 else a j) ≤ k
        split <;> omega
      · intro j hj
        show (if a j = k + 1 then 0 else a j) ≠ 0 ↔ (s ^^^ p).testBit j = true
        have h1 := pb j hj
        have h2 := a2 j hj
        rw [Nat.testBit_xor]
        by_cases e : a j = k + 1
        · rw [if_pos e, h1.mpr e, h2.mp (by omega)]
          exact ⟨fun z => absurd rfl z, fun z => absurd z (by decide)⟩
        · rw [if_neg e]
          have : p.testBit j = false := by
            by_cases b : p.testBit j = true
            · exact absurd (h1.mp b) e
            · simpa using b
          rw [this, Bool.xor_false]
          exact h2
      · intro q h1 h2
        refine kv_pt_congr (fun j hj => ?_) (a3 q h1 (by omega))
        show decide (a j = q) = decide ((if a j = k + 1 then 0 else a j) = q)
        by_cases e : a j = k + 1
        · rw [if_pos e, decide_eq_false (p := 0 = q) (by omega), decide_eq_false (by omega)]
        · rw [if_neg e]
theorem kv_b1 (b : Bool) : b = decide ((if b = true then 1 else 0) = 1) := by cases b <;> rfl
theorem kv_D1 {l : Nat → Nat} {up : Bool} {n s : Nat} : kv_D l up n 1 s ↔ kv_pt l up (fun j => s.testBit j) n := by
  constructor
  · rintro ⟨a, a1, a2, a3⟩
    refine kv_pt_congr (fun j hj => ?_) (a3 1 (by omega) (by omega))
    have h1 := a1 j hj
    have h2 := a2 j hj
    show decide (a j = 1) = s.testBit j
    by_cases b : s.testBit j = true
    · have := h2.mpr b
      rw [b]
      exact decide_eq_true (by omega)
    · have c : s.testBit j = false := by simpa using b
      rw [c]
      exact decide_eq_false (fun z => b (h2.mp (by omega)))
  · intro h
    refine ⟨fun j => if s.testBit j = true then 1 else 0, ?_, ?_, ?_⟩
    · intro j _
      show (if s.testBit j = true then 1 else 0) ≤ 1
      split <;> omega
    · intro j _
      show (if s.testBit j = true then 1 else 0) ≠ 0 ↔ s.testBit j = true
      by_cases b : s.testBit j = true
      · rw [if_pos b]; exact ⟨fun _ => b, fun _ => by omega⟩
      · rw [if_neg b]; exact ⟨fun z => absurd rfl z, fun z => absurd z b⟩
    · intro q h1 h2
      have e : q = 1 := by omega
      subst e
      refine kv_pt_congr (fun j _ => ?_) h
      exact kv_b1 (s.testBit j)
/-! the least number of parts -/
def kv_nd (l : Nat → Nat) (up : Bool) (n s v : Nat) : Prop := v ≤ 8 ∧ ∀ j, j < 8 → (v ≤ j ↔ kv_D l up n j s)
theorem kv_nd0 (l : Nat → Nat) (up : Bool) (n : Nat) : kv_nd l up n 0 0 := ⟨by omega, fun j _ => ⟨fun _ => kv_Dz l up n j, fun _ => by omega⟩⟩
theorem kv_nds {l : Nat → Nat} {up : Bool} {n t v : Nat} {N : Nat → Nat} (ht : t < 2 ^ n) (h0 : t ≠ 0)
    (hN : ∀ p, p ≠ 0 → p &&& t = p → kv_nd l up n (t ^^^ p) (N (t ^^^ p))) (h8 : v ≤ 8)
    (hv : ∀ j, j < 8 → (v ≤ j ↔ ∃ p, p ≠ 0 ∧ p &&& t = p ∧ kv_pt l up (fun i => p.testBit i) n ∧ N (t ^^^ p) + 1 ≤ j)) : kv_nd l up n t v := by
  refine ⟨h8, ?_⟩
  intro j
  induction j with
  | zero =>
    intro hj
    rw [hv 0 hj]
    constructor
    · rintro ⟨p, _, _, _, h⟩; omega
    · intro h; exact absurd (kv_D0 ht h) h0
  | succ j ih =>
    intro hj
    rw [hv (j + 1) hj]
    constructor
    · rintro ⟨p, p1, p2, p3, h⟩
      have := (hN p p1 p2).2 j (by omega)
      exact kv_Ds p2 p3 (this.mp (by omega))
    · intro h
      rcases kv_Di ht h with d | ⟨p, p1, _, p3, p4, d⟩
      · obtain ⟨p, q1, q2, q3, q4⟩ := (hv j (by omega)).mp ((ih (by omega)).mpr d)
        exact ⟨p, q1, q2, q3, by omega⟩
      · have := ((hN p p1 p3).2 j (by omega)).mpr d
        exact ⟨p, p1, p3, p4, by omega⟩
/-! submasks, the next one below -/
theorem kv_and2 (x y : Nat) : x &&& y = 2 * (x / 2 &&& y / 2) + (x % 2) * (y % 2) := by
  have d : (x &&& y) / 2 ^ 1 = x / 2 ^ 1 &&& y / 2 ^ 1 := Nat.and_div_two_pow
  have m : (x &&& y) % 2 ^ 1 = x % 2 ^ 1 &&& y % 2 ^ 1 := Nat.and_mod_two_pow
  have e : x % 2 ^ 1 &&& y % 2 ^ 1 = (x % 2) * (y % 2) := by
    have hx : x % 2 ^ 1 = 0 ∨ x % 2 ^ 1 = 1 := by omega
    have hy : y % 2 ^ 1 = 0 ∨ y % 2 ^ 1 = 1 := by omega
    have hx' : x % 2 = x % 2 ^ 1 := rfl
    have hy' : y % 2 = y % 2 ^ 1 := rfl
    rw [hx', hy']
    rcases hx with a | a <;> rcases hy with b | b <;> rw [a, b] <;> rfl
  rw [e] at m
  have := Nat.div_add_mod (x &&& y) (2 ^ 1)
  rw [d, m] at this
  exact this.symm
theorem kv_xor2 (x y : Nat) : x ^^^ y = 2 * (x / 2 ^^^ y / 2) + (x % 2 + y % 2) % 2 := by
  have d : (x ^^^ y) / 2 ^ 1 = x / 2 ^ 1 ^^^ y / 2 ^ 1 := Nat.xor_div_two_pow
  have m : (x ^^^ y) % 2 ^ 1 = x % 2 ^ 1 ^^^ y % 2 ^ 1 := Nat.xor_mod_two_pow
  have e : x % 2 ^ 1 ^^^ y % 2 ^ 1 = (x % 2 + y % 2) % 2 := by
    have hx : x % 2 ^ 1 = 0 ∨ x % 2 ^ 1 = 1 := by omega
    have hy : y % 2 ^ 1 = 0 ∨ y % 2 ^ 1 = 1 := by omega
    have hx' : x % 2 = x % 2 ^ 1 := rfl
    have hy' : y % 2 = y % 2 ^ 1 := rfl
    rw [hx', hy']
    rcases hx with a | a <;> rcases hy with b | b <;> rw [a, b] <;> rfl
  rw [e] at m
  have := Nat.div_add_mod (x ^^^ y) (2 ^ 1)
  rw [d, m] at this
  exact this.symm
theorem kv_hb {x y : Nat} (h : x &&& y = x) : x / 2 &&& y / 2 = x / 2 ∧ x % 2 ≤ y % 2 := by
  have e := kv_and2 x y
  rw [h] at e
  have hx : x % 2 = 0 ∨ x % 2 = 1 := by omega
  have hy : y % 2 = 0 ∨ y % 2 = 1 := by omega
  generalize x / 2 &&& y / 2 = z at *
  rcases hx with a | a <;> rcases hy with b | b <;> rw [a, b] at e <;> omega
theorem kv_next : ∀ (b p s q : Nat), p < 2 ^ b → p &&& s = p → q &&& s = q → q < p → q ≤ (p - 1) &&& s
  | 0, p, s, q, hp, _, _, h => by simp at hp; omega
  | b + 1, p, s, q, hp, h1, h2, h => by
    obtain ⟨g1, g2⟩ := kv_hb h1
    obtain ⟨g3, g4⟩ := kv_hb h2
    rw [kv_and2 (p - 1) s]
    have hp' : p / 2 < 2 ^ b := by rw [Nat.pow_succ] at hp; omega
    by_cases c : p % 2 = 1
    · have e1 : (p - 1) / 2 = p / 2 := by omega
      have e2 : (p - 1) % 2 = 0 := by omega
      rw [e1, e2, g1]
      omega
    · have e1 : (p - 1) / 2 = p / 2 - 1 := by omega
      have e2 : (p - 1) % 2 = 1 := by omega
      have ih := kv_next b (p / 2) (s / 2) (q / 2) hp' g1 g3 (by omega)
      rw [e1, e2]
      omega
theorem kv_xsub : ∀ (b p s : Nat), p < 2 ^ b → p &&& s = p → (s ^^^ p) + p = s
  | 0, p, s, hp, _ => by
    have : p = 0 := by simpa using hp
    subst this
    rw [Nat.xor_zero]
    rfl
  | b + 1, p, s, hp, h => by
    obtain ⟨g1, g2⟩ := kv_hb h
    have hp' : p / 2 < 2 ^ b := by rw [Nat.pow_succ] at hp; omega
    have ih := kv_xsub b (p / 2) (s / 2) hp' g1
    rw [kv_xor2]
    omega
