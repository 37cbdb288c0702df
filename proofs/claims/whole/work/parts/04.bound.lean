/-! at most 64 words come of one word by moves: the word is a monotone picture of a permutation of 0 .. 6, whose family the table holds -/
theorem kc_el {a : Nat} : ∀ {C : List Nat}, kb_el a C = true → a ∈ C
  | [], h => absurd h (by intro z; exact Bool.noConfusion z)
  | b :: t, h => by
    have h' : or (Nat.beq a b) (kb_el a t) = true := h
    rcases Bool.or_eq_true _ _ ▸ h' with h1 | h1
    · rw [Nat.eq_of_beq_eq_true h1]; exact List.mem_cons_self
    · exact List.mem_cons_of_mem _ (kc_el h1)
theorem kc_al {f : Nat → Bool} : ∀ {C : List Nat}, kb_al f C = true → ∀ b, b ∈ C → f b = true
  | [], _, b, hb => absurd hb (List.not_mem_nil)
  | c :: t, h, b, hb => by
    have h' : and (f c) (kb_al f t) = true := h
    have h2 := (Bool.and_eq_true _ _).mp h'
    rcases List.mem_cons.mp hb with e | e
    · rw [e]; exact h2.1
    · exact kc_al h2.2 b e
theorem kc_AL {f : List Nat → Bool} : ∀ {C : List (List Nat)}, kb_AL f C = true → ∀ b, b ∈ C → f b = true
  | [], _, b, hb => absurd hb (List.not_mem_nil)
  | c :: t, h, b, hb => by
    have h' : and (f c) (kb_AL f t) = true := h
    have h2 := (Bool.and_eq_true _ _).mp h'
    rcases List.mem_cons.mp hb with e | e
    · rw [e]; exact h2.1
    · exact kc_AL h2.2 b e
theorem kc_EX {f : List Nat → Bool} : ∀ {C : List (List Nat)}, kb_EX f C = true → ∃ b, b ∈ C ∧ f b = true
  | [], h => absurd h (by intro z; exact Bool.noConfusion z)
  | c :: t, h => by
    have h' : or (f c) (kb_EX f t) = true := h
    rcases Bool.or_eq_true _ _ ▸ h' with h1 | h1
    · exact ⟨c, List.mem_cons_self, h1⟩
    · obtain ⟨b, hb, hf⟩ := kc_EX h1
      exact ⟨b, List.mem_cons_of_mem _ hb, hf⟩
theorem kc_at {f : List Nat → Bool} : ∀ {T : List (List (List Nat))} {x : Nat}, kb_AAL f T = true → ∀ C, C ∈ kb_at T x → f C = true
  | [], _, _, C, hC => absurd hC (List.not_mem_nil)
  | b :: t, x, h, C, hC => by
    have h' : and (kb_AL f b) (kb_AAL f t) = true := h
    have h2 := (Bool.and_eq_true _ _).mp h'
    cases x with
    | zero => exact kc_AL h2.1 C hC
    | succ x => exact kc_at (T := t) (x := x) h2.2 C hC
theorem kc_mb {c i : Nat} (h : kw_mm (kw_dg 7 c) 7 i) : kb_mb c i = true := by
  unfold kb_mb
  unfold kw_mm at h
  simp only [Bool.or_eq_true, Bool.and_eq_true, Nat.blt_eq, Nat.ble_eq]
  exact h
theorem kc_sc {c i : Nat} (hc : c < 8 ^ 7) (hi : i < 6) : kb_sc c i = kw_cd (kw_sw (kw_dg 7 c) i) 7 := by
  have h := kw_swap_code (l := kw_dg 7 c) (n := 7) (i := i) (fun j _ => kw_dg_lt 7 c j) (by omega)
  rw [kw_cd_dg hc] at h
  exact h
theorem kc_st {C : List Nat} {c i : Nat} (hc : c < 8 ^ 7) (hi : i < 6) (h : kb_st C c i = true) (m : kw_mm (kw_dg 7 c) 7 i) : kw_cd (kw_sw (kw_dg 7 c) i) 7 ∈ C := by
  unfold kb_st at h
  rw [kc_mb m] at h
  rw [← kc_sc hc hi]
  exact kc_el h
theorem kc_ok {C : List Nat} (h : kb_ok C = true) : C.length ≤ 64 ∧ ∀ c, c ∈ C → c < 8 ^ 7 ∧ ∀ i, i < 6 → kw_mm (kw_dg 7 c) 7 i → kw_cd (kw_sw (kw_dg 7 c) i) 7 ∈ C := by
  unfold kb_ok at h
  have h2 := (Bool.and_eq_true _ _).mp h
  refine ⟨Nat.ble_eq.mp h2.1, fun c hc => ?_⟩
  have h3 := kc_al h2.2 c hc
  have h4 := (Bool.and_eq_true _ _).mp h3
  have hlt : c < 8 ^ 7 := Nat.blt_eq.mp h4.1
  have h5 := (Bool.and_eq_true _ _).mp h4.2
  have h6 := (Bool.and_eq_true _ _).mp h5.2
  have h7 := (Bool.and_eq_true _ _).mp h6.2
  have h8 := (Bool.and_eq_true _ _).mp h7.2
  have h9 := (Bool.and_eq_true _ _).mp h8.2
  refine ⟨hlt, fun i hi m => ?_⟩
  match i, hi, m with
  | 0, hi, m => exact kc_st hlt hi h5.1 m
  | 1, hi, m => exact kc_st hlt hi h6.1 m
  | 2, hi, m => exact kc_st hlt hi h7.1 m
  | 3, hi, m => exact kc_st hlt hi h8.1 m
  | 4, hi, m => exact kc_st hlt hi h9.1 m
  | 5, hi, m => exact kc_st hlt hi h9.2 m
theorem kc_seven {a : Nat} (h : a < 7) : a ∈ [0, 1, 2, 3, 4, 5, 6] := by
  match a, h with
  | 0, _ => decide
  | 1, _ => decide
  | 2, _ => decide
  | 3, _ => decide
  | 4, _ => decide
  | 5, _ => decide
  | 6, _ => decide
theorem kc_cov {p : Nat → Nat} (h7 : ∀ i, i < 7 → p i < 7) (hj : ∀ i, i < 7 → ∀ j, j < 7 → p i = p j → i = j) :
    ∀ k d : Nat, d + k = 7 → ∀ (u : List Nat) (x : Nat), (∀ a, a ∈ u → ∃ i, i < d ∧ p i = a) → kb_chk k (kw_cd p d) u x = true → ∃ C, kb_ok C = true ∧ kw_cd p 7 ∈ C
  | 0, d, hd, u, x, _, h => by
    have e : d = 7 := by omega
    subst e
    have h' : kb_leaf (kw_cd p 7) x = true := h
    obtain ⟨C, hC, hm⟩ := kc_EX h'
    exact ⟨C, kc_at kb_okAll C hC, kc_el hm⟩
  | k + 1, d, hd, u, x, hu, h => by
    have h0 : kb_al (fun a => or (kb_el a u) (kb_chk k (8 * kw_cd p d + a) (a :: u) (bif kb_el (a + 1) u then x + 2 ^ a else x))) [0, 1, 2, 3, 4, 5, 6] = true := h
    have h' := kc_al h0 (p d) (kc_seven (h7 d (by omega)))
    rcases Bool.or_eq_true _ _ ▸ h' with h1 | h1
    · obtain ⟨i, hi, e⟩ := hu _ (kc_el h1)
      have := hj i (by omega) d (by omega) e
      omega
    · refine kc_cov h7 hj k (d + 1) (by omega) (p d :: u) _ ?_ h1
      intro a ha
      rcases List.mem_cons.mp ha with e | e
      · exact ⟨d, by omega, e.symm⟩
      · obtain ⟨i, hi, e⟩ := hu a e
        exact ⟨i, by omega, e⟩
theorem kc_perm {p : Nat → Nat} (h7 : ∀ i, i < 7 → p i < 7) (hj : ∀ i, i < 7 → ∀ j, j < 7 → p i = p j → i = j) : ∃ C, kb_ok C = true ∧ kw_cd p 7 ∈ C :=
  kc_cov h7 hj 7 0 rfl [] 0 (fun a ha => absurd ha List.not_mem_nil) kb_cover
/-! ranks -/
def kr_lt (l : Nat → Nat) (i j : Nat) : Prop := l i < l j ∨ (l i = l j ∧ i < j)
def kr_ct (P : Nat → Bool) : Nat → Nat
  | 0 => 0
  | n + 1 => kr_ct P n + (if P n then 1 else 0)
theorem kr_le {P Q : Nat → Bool} : ∀ {n : Nat}, (∀ j, j < n → P j = true → Q j = true) → kr_ct P n ≤ kr_ct Q n
  | 0, _ => Nat.le_refl _
  | n + 1, h => by
    show kr_ct P n + (if P n then 1 else 0) ≤ kr_ct Q n + (if Q n then 1 else 0)
    have h1 := kr_le (n := n) (fun j hj => h j (by omega))
    have h2 := h n (by omega)
    by_cases hp : P n = true
    · rw [if_pos hp, if_pos (h2 hp)]; omega
    · rw [if_neg hp]; omega
theorem kr_ltc {P Q : Nat → Bool} {j0 : Nat} : ∀ {n : Nat}, (∀ j, j < n → P j = true → Q j = true) → j0 < n → P j0 = false → Q j0 = true → kr_ct P n < kr_ct Q n
  | 0, _, h, _, _ => absurd h (by omega)
  | n + 1, h, hj, hp, hq => by
    show kr_ct P n + (if P n then 1 else 0) < kr_ct Q n + (if Q n then 1 else 0)
    by_cases e : j0 = n
    · subst e
      have h1 := kr_le (n := j0) (fun j hj => h j (by omega))
      rw [hp, hq]
      simp
      omega
    · have h1 := kr_ltc (n := n) (fun j hj => h j (by omega)) (by omega) hp hq
      have h2 := h n (by omega)
      by_cases hp : P n = true
      · rw [if_pos hp, if_pos (h2 hp)]; omega
      · rw [if_neg hp]; omega
theorem kr_ct_all : ∀ n : Nat, kr_ct (fun _ => true) n = n
  | 0 => rfl
  | n + 1 => by
    show kr_ct (fun _ => true) n + 1 = n + 1
    rw [kr_ct_all n]
noncomputable def kr_rk (l : Nat → Nat) (i : Nat) : Nat := kr_ct (fun j => decide (l j < l i ∨ (l j = l i ∧ j < i))) 7
theorem kr_rk_7 (l : Nat → Nat) {i : Nat} (hi : i < 7) : kr_rk l i < 7 := by
  have h := kr_ltc (P := fun j => decide (l j < l i ∨ (l j = l i ∧ j < i))) (Q := fun _ => true) (j0 := i) (n := 7) (fun _ _ _ => rfl) hi (by simp) rfl
  rw [kr_ct_all] at h
  exact h
theorem kr_rk_lt {l : Nat → Nat} {i j : Nat} (hi : i < 7) (h : kr_lt l i j) : kr_rk l i < kr_rk l j := by
  unfold kr_lt at h
  refine kr_ltc (j0 := i) ?_ hi (by simp) (by simpa using h)
  intro a _ ha
  have ha' : l a < l i ∨ (l a = l i ∧ a < i) := by simpa using ha
  have : l a < l j ∨ (l a = l j ∧ a < j) := by omega
  simpa using this
theorem kr_tri (l : Nat → Nat) (i j : Nat) : i = j ∨ kr_lt l i j ∨ kr_lt l j i := by unfold kr_lt; omega
theorem kr_asym {l : Nat → Nat} {i j : Nat} (h : kr_lt l i j) : ¬ kr_lt l j i := by unfold kr_lt at *; omega
theorem kr_rk_iff {l : Nat → Nat} {i j : Nat} (hi : i < 7) (hj : j < 7) : kr_rk l i < kr_rk l j ↔ kr_lt l i j := by
  constructor
  · intro h
    rcases kr_tri l i j with e | e | e
    · subst e; omega
    · exact e
    · have := kr_rk_lt hj e; omega
  · exact kr_rk_lt hi
theorem kr_rk_inj {l : Nat → Nat} {i j : Nat} (hi : i < 7) (hj : j < 7) (h : kr_rk l i = kr_rk l j) : i = j := by
  rcases kr_tri l i j with e | e | e
  · exact e
  · have := kr_rk_lt hi e; omega
  · have := kr_rk_lt hj e; omega
theorem kr_f {p l : Nat → Nat} (hj : ∀ i, i < 7 → ∀ j, j < 7 → p i = p j → i = j) : ∃ f : Nat → Nat, ∀ i, i < 7 → f (p i) = l i := by
  refine ⟨fun r => l (Classical.epsilon fun i => i < 7 ∧ p i = r), fun i hi => ?_⟩
  have s := Classical.epsilon_spec (p := fun j => j < 7 ∧ p j = p i) ⟨i, hi, rfl⟩
  show l (Classical.epsilon fun j => j < 7 ∧ p j = p i) = l i
  rw [hj _ s.1 _ hi s.2]
/-! one move on both -/
theorem kr_mm {g p : Nat → Nat} {n i : Nat} (hn : n ≤ 7) (hi : i + 1 < n) (R : ∀ a, a < n → ∀ b, b < n → (p a < p b ↔ kr_lt g a b)) (m : kw_mm g n i) : kw_mm p 7 i := by
  have r := fun a b ha hb => (R a ha b hb).mpr
  unfold kw_mm at *
  unfold kr_lt at r
  rcases m with ⟨h0, ⟨h1, h2⟩ | ⟨h1, h2⟩⟩ | ⟨h0, ⟨h1, h2⟩ | ⟨h1, h2⟩⟩
  · have a := r i (i - 1) (by omega) (by omega) (by omega)
    have b := r (i - 1) (i + 1) (by omega) (by omega) (by omega)
    exact Or.inl ⟨h0, Or.inl ⟨a, Nat.le_of_lt b⟩⟩
  · have a := r (i + 1) (i - 1) (by omega) (by omega) (by omega)
    have b := r (i - 1) i (by omega) (by omega) (by omega)
    exact Or.inl ⟨h0, Or.inr ⟨a, Nat.le_of_lt b⟩⟩
  · have a := r i (i + 2) (by omega) (by omega) (by omega)
    have b := r (i + 2) (i + 1) (by omega) (by omega) (by omega)
    exact Or.inr ⟨by omega, Or.inl ⟨Nat.le_of_lt a, b⟩⟩
  · have a := r (i + 1) (i + 2) (by omega) (by omega) (by omega)
    have b := r (i + 2) i (by omega) (by omega) (by omega)
    exact Or.inr ⟨by omega, Or.inr ⟨Nat.le_of_lt a, b⟩⟩
theorem kr_ne {g : Nat → Nat} {n i : Nat} (m : kw_mm g n i) : g i ≠ g (i + 1) := by
  unfold kw_mm at m; omega
def kr_tau (i j : Nat) : Nat := if j = i then i + 1 else if j = i + 1 then i else j
theorem kr_sw (l : Nat → Nat) (i j : Nat) : kw_sw l i j = l (kr_tau i j) := by
  unfold kw_sw kr_tau
  by_cases h : j = i
  · rw [if_pos h, if_pos h]
  · rw [if_neg h, if_neg h]
    by_cases h2 : j = i + 1
    · rw [if_pos h2, if_pos h2]
    · rw [if_neg h2, if_neg h2]
theorem kr_tau_c (i j : Nat) : (j = i ∧ kr_tau i j = i + 1) ∨ (j = i + 1 ∧ kr_tau i j = i) ∨ (j ≠ i ∧ j ≠ i + 1 ∧ kr_tau i j = j) := by
  unfold kr_tau
  by_cases h : j = i
  · rw [if_pos h]; omega
  · rw [if_neg h]
    by_cases h2 : j = i + 1
    · rw [if_pos h2]; omega
    · rw [if_neg h2]; omega
theorem kr_tau_lt {i j n : Nat} (hi : i + 1 < n) (hj : j < n) : kr_tau i j < n := by unfold kr_tau; split <;> (try split) <;> omega
theorem kr_tau_ord {i a b : Nat} (h : kr_tau i a ≠ i ∨ kr_tau i b ≠ i + 1) (h' : kr_tau i a ≠ i + 1 ∨ kr_tau i b ≠ i) : kr_tau i a < kr_tau i b ↔ a < b := by
  have ha := kr_tau_c i a
  have hb := kr_tau_c i b
  generalize kr_tau i a = x at *
  generalize kr_tau i b = y at *
  omega
theorem kr_R {g p : Nat → Nat} {n i : Nat} (hi : i + 1 < n) (R : ∀ a, a < n → ∀ b, b < n → (p a < p b ↔ kr_lt g a b)) (hne : g i ≠ g (i + 1)) :
    ∀ a, a < n → ∀ b, b < n → (kw_sw p i a < kw_sw p i b ↔ kr_lt (kw_sw g i) a b) := by
  intro a ha b hb
  have h := R _ (kr_tau_lt hi ha) _ (kr_tau_lt hi hb)
  unfold kr_lt at *
  rw [kr_sw, kr_sw, kr_sw, kr_sw, h]
  by_cases e : g (kr_tau i a) = g (kr_tau i b)
  · have o : kr_tau i a < kr_tau i b ↔ a < b := by
      apply kr_tau_ord
      · by_cases x : kr_tau i a = i
        · right; intro y; rw [x, y] at e; exact hne e
        · exact Or.inl x
      · by_cases x : kr_tau i a = i + 1
        · right; intro y; rw [x, y] at e; exact hne e.symm
        · exact Or.inl x
    rw [o]
  · constructor
    · rintro (h | ⟨h, _⟩)
      · exact Or.inl h
      · exact absurd h e
    · rintro (h | ⟨h, _⟩)
      · exact Or.inl h
      · exact absurd h e
/-- the words that come of one word: closed under moves, letters 1 to 7, at most 64 -/
theorem kc_main {l : Nat → Nat} {n : Nat} (hn : n ≤ 7) (hl : ∀ i, i < n → 1 ≤ l i ∧ l i ≤ 7) :
    ∃ (K : Nat → Prop) (D : List Nat), D.length ≤ 64 ∧ (∀ c, K c → c ∈ D) ∧ K (kw_cd l n) ∧
      ∀ c, K c → c < 8 ^ n ∧ (∀ i, i < n → 1 ≤ kw_dg n c i ∧ kw_dg n c i ≤ 7) ∧ ∀ i, i + 1 < n → kw_mm (kw_dg n c) n i → K (kw_cd (kw_sw (kw_dg n c) i) n) := by
  obtain ⟨C, hC, h0⟩ := kc_perm (p := kr_rk l) (fun i hi => kr_rk_7 l hi) (fun i hi j hj => kr_rk_inj hi hj)
  obtain ⟨f, hf⟩ := kr_f (p := kr_rk l) (l := l) (fun i hi j hj => kr_rk_inj hi hj)
  obtain ⟨hlen, hcl⟩ := kc_ok hC
  refine ⟨fun c => ∃ p : Nat → Nat, (∀ i, i < 7 → p i < 7) ∧ kw_cd p 7 ∈ C ∧ (∀ a, a < n → ∀ b, b < n → (p a < p b ↔ kr_lt (fun i => f (p i)) a b)) ∧
      c = kw_cd (fun i => f (p i)) n ∧ (∀ i, i < n → 1 ≤ f (p i) ∧ f (p i) ≤ 7), C.map (fun q => kw_cd (fun i => f (kw_dg 7 q i)) n), ?_, ?_, ?_, ?_⟩
  · rw [List.length_map]; exact hlen
  · rintro c ⟨p, p7, pC, _, rfl, _⟩
    refine List.mem_map.mpr ⟨kw_cd p 7, pC, kw_cd_congr fun i hi => ?_⟩
    rw [kw_dg_cd (fun j hj => by have := p7 j hj; omega) (by omega)]
  · refine ⟨kr_rk l, fun i hi => kr_rk_7 l hi, h0, ?_, ?_, ?_⟩
    · intro a ha b hb
      rw [kr_rk_iff (by omega) (by omega)]
      unfold kr_lt
      dsimp only
      rw [hf a (by omega), hf b (by omega)]
    · exact kw_cd_congr fun i hi => (hf i (by omega)).symm
    · intro i hi
      rw [hf i (by omega)]
      exact hl i hi
  · rintro c ⟨p, p7, pC, R, rfl, h17⟩
    have hd : ∀ j, j < n → kw_dg n (kw_cd (fun i => f (p i)) n) j = f (p j) := fun j hj => kw_dg_cd (l := fun i => f (p i)) (fun j hj => by have := (h17 j hj).2; omega) hj
    refine ⟨kw_cd_lt fun i hi => by have := (h17 i hi).2; omega, fun i hi => by rw [hd i hi]; exact h17 i hi, fun i hi m => ?_⟩
    have m' : kw_mm (fun i => f (p i)) n i := kw_mm_congr hd hi m
    have mp := kr_mm hn hi R m'
    have hd7 : ∀ j, j < 7 → kw_dg 7 (kw_cd p 7) j = p j := fun j hj => kw_dg_cd (fun j hj => by have := p7 j hj; omega) hj
    have q := (hcl _ pC).2 i (by omega) (kw_mm_congr (fun j hj => (hd7 j hj).symm) (by omega) mp)
    rw [kw_cd_congr (kw_sw_congr hd7 (by omega))] at q
    have es : (fun j => f (kw_sw p i j)) = kw_sw (fun j => f (p j)) i := by
      funext j
      rw [kr_sw, kr_sw]
    refine ⟨kw_sw p i, kw_sw_lt (P := fun x => x < 7) p7 (by omega), q, ?_, ?_, ?_⟩
    · rw [es]
      exact kr_R hi R (kr_ne m')
    · rw [es]
      exact kw_cd_congr (kw_sw_congr hd hi)
    · intro j hj
      have := kw_sw_lt (P := fun x => 1 ≤ x ∧ x ≤ 7) h17 hi j hj
      rw [← es] at this
      exact this
/-- a row without repetitions in it is at most 64 long -/
theorem kc_pigeon {K : Nat → Prop} {D : List Nat} (hD : D.length ≤ 64) (hK : ∀ c, K c → c ∈ D) {g : Nat → Nat} {m : Nat} (hg : ∀ j, j < m → K (g j))
    (hi : ∀ i, i < m → ∀ j, j < m → g i = g j → i = j) : m ≤ 64 := by
  have nd : ((List.range m).map g).Nodup := by
    unfold List.Nodup
    rw [List.pairwise_map]
    refine List.Pairwise.imp_of_mem ?_ (List.pairwise_lt_range (n := m))
    intro a b ha hb hab e
    have := hi a (List.mem_range.mp ha) b (List.mem_range.mp hb) e
    omega
  have sb : (List.range m).map g ⊆ D := by
    intro x hx
    obtain ⟨j, hj, rfl⟩ := List.mem_map.mp hx
    exact hK _ (hg j (List.mem_range.mp hj))
  have := List.Nodup.length_le_of_subset nd sb
  rw [List.length_map, List.length_range] at this
  omega
