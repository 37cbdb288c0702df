/-! numbers at the walks -/
theorem kx_sle {n m j : Nat} (hn : n < 2 ^ 30) (hm : m < 2 ^ 30) (hj : j < 2 ^ 31) : nI n - nI m ≤ nI j ↔ n ≤ j + m := by
  rw [Int32.le_iff_toInt_le, pk_sub_toInt hn hm, nI_toInt hj]
  omega
theorem kx_lts {n m j : Nat} (hn : n < 2 ^ 30) (hm : m < 2 ^ 30) (hj : j < 2 ^ 31) : nI j < nI n - nI m ↔ j + m < n := by
  rw [Int32.lt_iff_toInt_lt, pk_sub_toInt hn hm, nI_toInt hj]
  omega
theorem kx_7 {p0 p1 : Int32} {w i : Nat} (h0 : p0 = nI w) (h1 : p1 = nI i) : 7 * p0 + p1 = nI (7 * w + i) := by
  rw [h0, h1, show (7 : Int32) = nI 7 from rfl, pk_mul, nI_add]
theorem kx_w (p0 : Int32) : (∃ j, j < 2 ∧ p0 = nI j) ∨ (¬ p0 = 0 ∧ ¬ p0 = 1 ∧ (p0 < 0 ∨ (¬ p0 < 0 ∧ ¬ p0 ≤ 1))) := by
  rcases pk_ix p0 (n := 2) (by decide) with h | h | ⟨j, hj, e⟩
  · right
    refine ⟨?_, ?_, Or.inl h⟩
    · intro e; rw [e] at h; exact absurd h (by decide)
    · intro e; rw [e] at h; exact absurd h (by decide)
  · right
    have h0 : ¬ p0 < 0 := by
      intro z
      have := Int32.lt_of_le_of_lt h z
      exact absurd this (by decide)
    obtain ⟨j, hj, rfl⟩ := nI_of h0
    rw [nI_leI (by decide) hj] at h
    refine ⟨?_, ?_, Or.inr ⟨h0, ?_⟩⟩
    · intro e
      rw [← nI_0, nI_eq hj (by decide)] at e
      omega
    · intro e
      have e' : nI j = nI 1 := e
      rw [nI_eq hj (by decide)] at e'
      omega
    · intro e
      have e' : nI j ≤ nI 1 := e
      rw [nI_leI hj (by decide)] at e'
      omega
  · exact Or.inl ⟨j, hj, e⟩
theorem kx_isW {post : Int32 → Prop} {w : Nat} (hw : w < 2) (h : post 1) : wpX_isWord post (nI w) := by
  match w, hw with
  | 0, _ => exact br_t rfl h
  | 1, _ => exact br_f (by decide) (br_t rfl h)
theorem kx_isN {post : Int32 → Prop} {p0 : Int32} (h0 : ¬ p0 = 0) (h1 : ¬ p0 = 1) (h : post 0) : wpX_isWord post p0 := br_f h0 (br_f h1 h)
theorem ky_isW {post : Int32 → Prop} {f : Int32} {lt sz row cY sg nd : Nat → Int32} {w : Nat} (hw : w < 2) (h : post 0) : wpY_bad post (f, lt, sz, row, cY, sg, nd) (nI w) := by
  match w, hw with
  | 0, _ => exact br_f (by decide) (br_t (by decide) h)
  | 1, _ => exact br_f (by decide) (br_t (by decide) h)
theorem ky_isN {post : Int32 → Prop} {f : Int32} {lt sz row cY sg nd : Nat → Int32} {p0 : Int32} (h0 : p0 < 0 ∨ (¬ p0 < 0 ∧ ¬ p0 ≤ 1)) (h : post 1) : wpY_bad post (f, lt, sz, row, cY, sg, nd) p0 := by
  rcases h0 with h0 | ⟨h0, h1⟩
  · exact br_t h0 h
  · exact br_f h0 (br_f h1 h)
theorem kx_1n0 : ¬ (1 : Int32) = 0 := by decide
/-- n letters, each 1 to 7 -/
def kx_V (n : Nat) (l : Nat → Nat) : Prop := n ≤ 7 ∧ ∀ i, i < n → 1 ≤ l i ∧ l i ≤ 7
theorem kx_V8 {n : Nat} {l : Nat → Nat} (h : kx_V n l) : ∀ j, j < n → l j < 8 := fun j hj => by have := (h.2 j hj).2; omega
theorem kx_c7 {n c : Nat} (hn : n ≤ 7) (h : c < 8 ^ n) : c < 2097152 :=
  Nat.lt_of_lt_of_le h (Nat.le_trans (Nat.pow_le_pow_right (by decide) hn) (by decide))
theorem kx_cl {n : Nat} {l : Nat → Nat} (h : kx_V n l) : kw_cd l n < 2097152 := kx_c7 h.1 (kw_cd_lt (kx_V8 h))
/-! the component's small methods -/
theorem kx_shr {c m : Nat} (hc : c < 2097152) (hm : m < 32) : nI c >>> (nI m &&& 31) = nI (c / 2 ^ m) := pk_shrN (by omega) _ m (s_l m hm)
theorem kx_let {post : Int32 → Prop} {l : Nat → Nat} {n i : Nat} {p0 p1 p2 : Int32} (h0 : p0 = nI (kw_cd l n)) (h1 : p1 = nI n) (h2 : p2 = nI i)
    (hn : n ≤ 7) (hl : ∀ j, j < n → l j < 8) (hi : i < n) (h : post (nI (l i))) : wpX_letterIn post p0 p1 p2 := by
  subst h0 h1 h2
  have hc : kw_cd l n < 2097152 := kx_c7 hn (kw_cd_lt hl)
  show post ((nI (kw_cd l n) >>> ((3 * ((nI n - 1) - nI i)) &&& 31)) &&& 7)
  rw [show (1 : Int32) = nI 1 from rfl, pk_sub (show 1 ≤ n by omega), pk_sub (show i ≤ n - 1 by omega), show (3 : Int32) = nI 3 from rfl, pk_mul, kx_shr hc (by omega),
    pk_andN (Nat.lt_of_le_of_lt (Nat.div_le_self _ _) (by omega)) 3 (by decide), ← kw_8p, show (2 : Nat) ^ 3 = 8 from rfl, kw_dig hl hi]
  exact h
theorem kx_m75 {post : Int32 → Prop} {l : Nat → Nat} {n i x z : Nat} (hn : n ≤ 7) (hl : ∀ j, j < n → l j < 8) (hi : i + 1 < n) (hx : x < 8) (hz : z < 8)
    (h1 : (i + 2 < n ∧ x ≤ l (i + 2) ∧ l (i + 2) < z) → post 1) (h0 : ¬ (i + 2 < n ∧ x ≤ l (i + 2) ∧ l (i + 2) < z) → post 0) :
    wX_mayMove_75 post (nI (kw_cd l n)) (nI n) (nI i) (nI x) (nI z) := by
  refine pk_le (n - 2) i (fun a => h0 (by omega)) (fun a => ?_) (pk_sub (a := n) (b := 2) (by omega)) rfl (by omega) (by omega)
  have hy := hl (i + 2) (by omega)
  refine kx_let rfl rfl (nI_add i 2) hn hl (by omega) ?_
  refine pk_lt (l (i + 2)) x (fun b => h0 (by omega)) (fun b => ?_) rfl rfl (by omega) (by omega)
  exact pk_le z (l (i + 2)) (fun c => h0 (by omega)) (fun c => h1 ⟨by omega, b, c⟩) rfl rfl (by omega) (by omega)
theorem kx_m43 {post : Int32 → Prop} {l : Nat → Nat} {n i x z : Nat} (hn : n ≤ 7) (hl : ∀ j, j < n → l j < 8) (hi : i + 1 < n) (hx : x < 8) (hz : z < 8)
    (h1 : ((0 < i ∧ x < l (i - 1) ∧ l (i - 1) ≤ z) ∨ (i + 2 < n ∧ x ≤ l (i + 2) ∧ l (i + 2) < z)) → post 1)
    (h0 : ¬ ((0 < i ∧ x < l (i - 1) ∧ l (i - 1) ≤ z) ∨ (i + 2 < n ∧ x ≤ l (i + 2) ∧ l (i + 2) < z)) → post 0) :
    wX_mayMove_43 post (nI (kw_cd l n)) (nI n) (nI i) (nI x) (nI z) := by
  have f : (¬ (0 < i ∧ x < l (i - 1) ∧ l (i - 1) ≤ z)) → wX_mayMove_75 post (nI (kw_cd l n)) (nI n) (nI i) (nI x) (nI z) :=
    fun c => kx_m75 hn hl hi hx hz (fun d => h1 (Or.inr d)) (fun d => h0 (fun e => e.elim c d))
  refine pk_le i 0 (fun a => f (by omega)) (fun a => ?_) rfl rfl (by omega) (by omega)
  have hy := hl (i - 1) (by omega)
  refine kx_let rfl rfl (pk_sub (a := i) (b := 1) (by omega)) hn hl (by omega) ?_
  refine pk_le (l (i - 1)) x (fun b => f (by omega)) (fun b => ?_) rfl rfl (by omega) (by omega)
  exact pk_lt z (l (i - 1)) (fun c => f (by omega)) (fun c => h1 (Or.inl ⟨a, b, c⟩)) rfl rfl (by omega) (by omega)
theorem kx_may {post : Int32 → Prop} {l : Nat → Nat} {n i : Nat} {p0 p1 p2 : Int32} (e0 : p0 = nI (kw_cd l n)) (e1 : p1 = nI n) (e2 : p2 = nI i) (hn : n ≤ 7) (hl : ∀ j, j < n → l j < 8) (hi : i + 1 < n)
    (h1 : kw_mm l n i → post 1) (h0 : ¬ kw_mm l n i → post 0) : wpX_mayMove post p0 p1 p2 := by
  subst e0 e1 e2
  have ha := hl i (by omega)
  have hb := hl (i + 1) hi
  unfold kw_mm at h1 h0
  unfold wpX_mayMove
  refine kx_let rfl rfl rfl hn hl (by omega) ?_
  refine kx_let rfl rfl (nI_1 i) hn hl hi ?_
  refine pk_le (l (i + 1)) (l i) (fun a => ?_) (fun a => ?_) rfl rfl (by omega) (by omega)
  · refine pk_le (l (i + 1)) (l i) (fun a => ?_) (fun b => absurd b (by omega)) rfl rfl (by omega) (by omega)
    exact kx_m43 hn hl hi hb ha (fun c => h1 (by omega)) (fun c => h0 (by omega))
  · refine pk_le (l (i + 1)) (l i) (fun b => absurd b (by omega)) (fun _ => ?_) rfl rfl (by omega) (by omega)
    exact kx_m43 hn hl hi ha hb (fun c => h1 (by omega)) (fun c => h0 (by omega))
theorem kx_shl {d m : Nat} (hd : d < 8) (hm : m ≤ 21) : nI d <<< (nI m &&& 31) = nI (d * 2 ^ m) := by
  refine pk_shlN _ m (s_l m (by omega)) ?_
  have h1 : 2 ^ m ≤ 2 ^ 21 := Nat.pow_le_pow_right (by decide) hm
  have h2 : d * 2 ^ m ≤ 8 * 2 ^ 21 := Nat.mul_le_mul (by omega) h1
  exact Nat.lt_of_le_of_lt h2 (by decide)
theorem kx_exd {post : Int32 → Prop} {l : Nat → Nat} {n i : Nat} {p0 p1 p2 : Int32} (e0 : p0 = nI (kw_cd l n)) (e1 : p1 = nI n) (e2 : p2 = nI i) (hn : n ≤ 7) (hl : ∀ j, j < n → l j < 8) (hi : i + 1 < n)
    (h : post (nI (kw_cd (kw_sw l i) n))) : wpX_exchanged post p0 p1 p2 := by
  subst e0 e1 e2
  unfold wpX_exchanged
  refine kx_let rfl rfl rfl hn hl (by omega) ?_
  refine kx_let rfl rfl (nI_1 i) hn hl hi ?_
  have hd : l i ^^^ l (i + 1) < 8 := Nat.xor_lt_two_pow (n := 3) (hl i (by omega)) (hl (i + 1) hi)
  have e : 3 * ((nI n - 2) - nI i) = nI (3 * (n - 2 - i)) := by
    rw [show (2 : Int32) = nI 2 from rfl, pk_sub (show 2 ≤ n by omega), pk_sub (show i ≤ n - 2 by omega), show (3 : Int32) = nI 3 from rfl, pk_mul]
  refine nm_r (nx_xor _ _) (nm_r e ?_)
  rw [show (3 : Int32) = nI 3 from rfl, nI_add, kx_shl hd (by omega), kx_shl hd (by omega), nx_xor, nx_xor, kw_swap_code hl hi]
  exact h
theorem kx_ix {n : Nat} (hn : n ≤ 7) (x : Int32) : x < 0 ∨ (¬ x < 0 ∧ nI n - 1 ≤ x ∧ ¬ x < nI n - 1) ∨ (∃ i, x = nI i ∧ i + 1 < n ∧ ¬ x < 0 ∧ ¬ nI n - 1 ≤ x ∧ x < nI n - 1) := by
  by_cases h : x < 0
  · exact Or.inl h
  · obtain ⟨j, hj, rfl⟩ := nI_of h
    have a := kx_sle (n := n) (m := 1) (j := j) (by omega) (by omega) hj
    have b := kx_lts (n := n) (m := 1) (j := j) (by omega) (by omega) hj
    rw [show (nI 1 : Int32) = 1 from rfl] at a b
    by_cases c : j + 1 < n
    · exact Or.inr (Or.inr ⟨j, rfl, c, h, fun z => by have := a.mp z; omega, b.mpr c⟩)
    · exact Or.inr (Or.inl ⟨h, a.mpr (by omega), fun z => c (b.mp z)⟩)
/-! the reference's small methods -/
section
variable {f : Int32} {lt sz row cY sg nd : Nat → Int32}
theorem ky_take {post : Int32 → SY → Prop} {p0 : Int32} {w n : Nat} {l : Nat → Nat} (hw : w < 2) (e0 : p0 = nI w) (hn : n ≤ 7) (hz : sz w = nI n) (hlt : ∀ i, i < n → lt (7 * w + i) = nI (l i))
    (H : ∀ row', (∀ i, i < n → row' i = nI (l i)) → post (nI n) (f, lt, sz, row', cY, sg, nd)) : wpY_take post (f, lt, sz, row, cY, sg, nd) p0 := by
  subst e0
  have hwc : (nI w).toNatClampNeg = w := nI_clamp (by omega)
  have hz' : sz (nI w).toNatClampNeg = nI n := by rw [hwc]; exact hz
  have hv : vp_in (nI w) 2 := vp_in_nI hw (by omega)
  refine loop_0 (fun m i s => wY_take_2 post (nI w) f m (nI i) lt sz s cY sg nd) (fun i s => ∀ j, j < i → s j = nI (l j)) n row (fun _ h => absurd h (by omega)) ?_ ?_
  · intro m s hs
    refine ⟨hv, pk_le n n (fun _ => ⟨hv, ?_⟩) (fun z => absurd z (by omega)) hz' rfl (by omega) (by omega)⟩
    rw [hz']
    exact H s hs
  · intro m i s hi hs ih
    refine ⟨hv, pk_le n i (fun z => absurd z (by omega)) (fun _ => ?_) hz' rfl (by omega) (by omega)⟩
    refine ⟨pk_in (7 * w + i) 14 (by omega) (kx_7 rfl rfl) (by omega), pk_in i 7 (by omega) rfl (by omega), ?_⟩
    refine nm_e (nm_r (nI_1 i) ?_)
    refine ih _ fun j hj => ?_
    rw [nI_clamp (show i < 2 ^ 31 by omega)]
    by_cases e : j = i
    · rw [e, pk_us, pk_cl (7 * w + i) (kx_7 rfl rfl) (by omega)]
      exact hlt i hi
    · rw [pk_un e]
      exact hs j (by omega)
theorem ky_m86 {post : Int32 → Prop} {l : Nat → Nat} {n i x z : Nat} (hn : n ≤ 7) (hl : ∀ j, j < n → l j < 8) (hr : ∀ j, j < n → row j = nI (l j)) (hi : i + 1 < n) (hx : x < 8) (hz : z < 8)
    (h1 : (i + 2 < n ∧ x ≤ l (i + 2) ∧ l (i + 2) < z) → post 1) (h0 : ¬ (i + 2 < n ∧ x ≤ l (i + 2) ∧ l (i + 2) < z) → post 0) :
    wY_isMove_86 post (nI n) (nI i) (nI x) (nI z) f lt sz row cY sg nd := by
  refine pk_le n (i + 2) (fun a => h0 (by omega)) (fun a => ?_) rfl (nI_add i 2) (by omega) (by omega)
  have hy := hl (i + 2) (by omega)
  have e : row (nI i + 2).toNatClampNeg = nI (l (i + 2)) := by
    rw [pk_cl (x := nI i + 2) (i + 2) (nI_add i 2) (by omega)]; exact hr _ (by omega)
  have hv : vp_in (nI i + 2) 7 := pk_in (i + 2) 7 (by omega) (nI_add i 2) (by omega)
  refine ⟨hv, pk_lt (l (i + 2)) x (fun b => h0 (by omega)) (fun b => ⟨hv, ?_⟩) e rfl (by omega) (by omega)⟩
  exact pk_le z (l (i + 2)) (fun c => h0 (by omega)) (fun c => h1 ⟨by omega, b, c⟩) rfl e (by omega) (by omega)
theorem ky_m43 {post : Int32 → Prop} {l : Nat → Nat} {n i x z : Nat} (hn : n ≤ 7) (hl : ∀ j, j < n → l j < 8) (hr : ∀ j, j < n → row j = nI (l j)) (hi : i + 1 < n) (hx : x < 8) (hz : z < 8)
    (h1 : ((0 < i ∧ x < l (i - 1) ∧ l (i - 1) ≤ z) ∨ (i + 2 < n ∧ x ≤ l (i + 2) ∧ l (i + 2) < z)) → post 1)
    (h0 : ¬ ((0 < i ∧ x < l (i - 1) ∧ l (i - 1) ≤ z) ∨ (i + 2 < n ∧ x ≤ l (i + 2) ∧ l (i + 2) < z)) → post 0) :
    wY_isMove_43 post (nI n) (nI i) (nI x) (nI z) f lt sz row cY sg nd := by
  have g : (¬ (0 < i ∧ x < l (i - 1) ∧ l (i - 1) ≤ z)) → wY_isMove_86 post (nI n) (nI i) (nI x) (nI z) f lt sz row cY sg nd :=
    fun c => ky_m86 hn hl hr hi hx hz (fun d => h1 (Or.inr d)) (fun d => h0 (fun e => e.elim c d))
  refine pk_eq x z (fun a => h0 (by omega)) (fun _ => ?_) rfl rfl (by omega) (by omega)
  refine pk_le i 0 (fun a => g (by omega)) (fun a => ?_) rfl rfl (by omega) (by omega)
  have hy := hl (i - 1) (by omega)
  have es : nI i - 1 = nI (i - 1) := pk_sub (a := i) (b := 1) (by omega)
  have e : row (nI i - 1).toNatClampNeg = nI (l (i - 1)) := by
    rw [pk_cl (i - 1) es (by omega)]; exact hr _ (by omega)
  have hv : vp_in (nI i - 1) 7 := pk_in (i - 1) 7 (by omega) es (by omega)
  refine ⟨hv, pk_le (l (i - 1)) x (fun b => g (by omega)) (fun b => ⟨hv, ?_⟩) e rfl (by omega) (by omega)⟩
  exact pk_lt z (l (i - 1)) (fun c => g (by omega)) (fun c => h1 (Or.inl ⟨a, b, c⟩)) rfl e (by omega) (by omega)
theorem ky_may {post : Int32 → Prop} {l : Nat → Nat} {n i : Nat} {p0 p1 : Int32} (e0 : p0 = nI n) (e1 : p1 = nI i) (hn : n ≤ 7) (hl : ∀ j, j < n → l j < 8) (hr : ∀ j, j < n → row j = nI (l j)) (hi : i + 1 < n)
    (h1 : kw_mm l n i → post 1) (h0 : ¬ kw_mm l n i → post 0) : wpY_isMove post (f, lt, sz, row, cY, sg, nd) p0 p1 := by
  subst e0 e1
  have ha := hl i (by omega)
  have hb := hl (i + 1) hi
  unfold kw_mm at h1 h0
  have ea : row (nI i).toNatClampNeg = nI (l i) := by rw [nI_clamp (by omega)]; exact hr _ (by omega)
  have eb : row (nI i + 1).toNatClampNeg = nI (l (i + 1)) := by rw [pk_cl (i + 1) (nI_1 i) (by omega)]; exact hr _ hi
  refine ⟨pk_in i 7 (by omega) rfl (by omega), nm_r ea ⟨pk_in (i + 1) 7 (by omega) (nI_1 i) (by omega), nm_r eb ?_⟩⟩
  refine pk_le (l (i + 1)) (l i) (fun a => ?_) (fun a => ?_) rfl rfl (by omega) (by omega)
  · refine pk_le (l (i + 1)) (l i) (fun a => ?_) (fun b => absurd b (by omega)) rfl rfl (by omega) (by omega)
    exact ky_m43 hn hl hr hi hb ha (fun c => h1 (by omega)) (fun c => h0 (by omega))
  · refine pk_le (l (i + 1)) (l i) (fun b => absurd b (by omega)) (fun _ => ?_) rfl rfl (by omega) (by omega)
    exact ky_m43 hn hl hr hi ha hb (fun c => h1 (by omega)) (fun c => h0 (by omega))
theorem ky_code {post : Int32 → Prop} {l : Nat → Nat} {n : Nat} {p0 : Int32} (e0 : p0 = nI n) (hn : n ≤ 7) (hr : ∀ j, j < n → row j = nI (l j)) (h : post (nI (kw_cd l n))) :
    wpY_codeOfRow post (f, lt, sz, row, cY, sg, nd) p0 := by
  subst e0
  refine loop_0 (fun m i (s : Int32) => wY_codeOfRow_4 post (nI n) f lt sz row cY sg nd m s (nI i)) (fun i s => s = nI (kw_cd l i)) n 0 rfl ?_ ?_
  · intro m s hs
    exact pk_le n n (fun _ => by rw [hs]; exact h) (fun z => absurd z (by omega)) rfl rfl (by omega) (by omega)
  · intro m i s hi hs ih
    refine pk_le n i (fun z => absurd z (by omega)) (fun _ => ?_) rfl rfl (by omega) (by omega)
    refine ⟨pk_in i 7 (by omega) rfl (by omega), nm_r (e' := nI (kw_cd l (i + 1))) ?_ (nm_r (nI_1 i) (ih _ rfl))⟩
    rw [hs, nI_clamp (show i < 2 ^ 31 by omega), hr i hi, show (8 : Int32) = nI 8 from rfl, pk_mul, nI_add]
    rfl
theorem ky_spread {post : SY → Prop} {n c : Nat} {p0 p1 : Int32} (e0 : p0 = nI c) (e1 : p1 = nI n) (hn : n ≤ 7) (hc : c < 8 ^ n)
    (H : ∀ row', (∀ i, i < n → row' i = nI (kw_dg n c i)) → post (f, lt, sz, row', cY, sg, nd)) : wpY_spread post (f, lt, sz, row, cY, sg, nd) p0 p1 := by
  subst e0 e1
  have hc7 := kx_c7 hn hc
  have hdz : ∀ m, c / 8 ^ m < 2 ^ 31 := fun m => Nat.lt_of_le_of_lt (Nat.div_le_self _ _) (by omega)
  refine nm_e ⟨n + 1, ?_⟩
  have key := pk_loopD (fun fu m (s : Nat → Int32) => wY_spread_7 post f fu (nI (c / 8 ^ (n - m))) (nI m - 1) lt sz s cY sg nd)
    (fun m s => m ≤ n ∧ ∀ j, m ≤ j → j < n → s j = nI (kw_dg n c j)) ?_ ?_ n row ⟨Nat.le_refl _, fun j h1 h2 => absurd h1 (by omega)⟩
  · have e : c / 8 ^ (n - n) = c := by rw [Nat.sub_self, Nat.pow_zero, Nat.div_one]
    simp only [e] at key
    exact key
  · intro m s hs
    exact br_t (by decide) (H s fun i hi => hs.2 i (by omega) hi)
  · intro m i s hs ih
    have hn1 := hs.1
    rw [nI_pred]
    refine br_f (nI_pos (by omega)) ⟨by decide, pk_in i 7 (by omega) rfl (by omega), nm_e ⟨by decide, ?_⟩⟩
    have ed : nI (c / 8 ^ (n - (i + 1))) / 8 = nI (c / 8 ^ (n - i)) := by
      have e : n - i = (n - (i + 1)) + 1 := by omega
      rw [show (8 : Int32) = nI 8 from rfl, pk_div (hdz _) (by decide) (by decide), Nat.div_div_eq_div_mul, e, Nat.pow_succ]
    have er : nI (c / 8 ^ (n - (i + 1))) - nI (c / 8 ^ (n - (i + 1))) / 8 * 8 = nI (kw_dg n c i) := by
      rw [show (8 : Int32) = nI 8 from rfl, pk_rem (hdz _) (by decide) (by decide)]
      have e : n - (i + 1) = n - 1 - i := by omega
      rw [e]
      rfl
    refine nm_r ed (nm_r (show nI i + (-1) = nI i - 1 from (Int32.sub_eq_add_neg _ _).symm) (ih _ ⟨by omega, fun j h1 h2 => ?_⟩))
    rw [nI_clamp (show i < 2 ^ 31 by omega), er]
    by_cases e : j = i
    · rw [e, pk_us]
    · rw [pk_un e]
      exact hs.2 j (by omega) h2
end
