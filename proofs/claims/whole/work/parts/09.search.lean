/-! the search for kin: both sides against one pure row of codes -/
def kf_o1 (n c i : Nat) : Nat := kw_cd (kw_sw (kw_dg n c) i) n
def kf_new (n c i : Nat) (s : Nat × (Nat → Nat)) : Prop := kw_mm (kw_dg n c) n i ∧ ∀ j, j < s.1 → s.2 j ≠ kf_o1 n c i
def kf_ad (s : Nat × (Nat → Nat)) (o : Nat) : Nat × (Nat → Nat) := (s.1 + 1, fun j => if j = s.1 then o else s.2 j)
noncomputable def kf_st (n c i : Nat) (s : Nat × (Nat → Nat)) : Nat × (Nat → Nat) := @ite _ (kf_new n c i s) (Classical.propDecidable _) (kf_ad s (kf_o1 n c i)) s
theorem kf_st_t {n c i : Nat} {s : Nat × (Nat → Nat)} (h : kf_new n c i s) : kf_st n c i s = kf_ad s (kf_o1 n c i) := if_pos h
theorem kf_st_f {n c i : Nat} {s : Nat × (Nat → Nat)} (h : ¬ kf_new n c i s) : kf_st n c i s = s := if_neg h
noncomputable def kf_in (n c : Nat) (s : Nat × (Nat → Nat)) : Nat → Nat × (Nat → Nat)
  | 0 => s
  | i + 1 => kf_st n c i (kf_in n c s i)
noncomputable def kf_o (n : Nat) : Nat → Nat → Nat × (Nat → Nat) → Nat × (Nat → Nat)
  | 0, _, s => s
  | f + 1, x, s => if x < s.1 then kf_o n f (x + 1) (kf_in n (s.2 x) s (n - 1)) else s
noncomputable def kf_res (n c : Nat) : Nat × (Nat → Nat) := kf_o n 65 0 (1, fun _ => c)
def kf_A (a : Nat → Int32) (s : Nat × (Nat → Nat)) : Prop := ∀ j, j < s.1 → a j = nI (s.2 j)
def kf_I (K : Nat → Prop) (s : Nat × (Nat → Nat)) : Prop := (∀ j, j < s.1 → K (s.2 j)) ∧ ∀ i, i < s.1 → ∀ j, j < s.1 → s.2 i = s.2 j → i = j
def kf_K (n : Nat) (K : Nat → Prop) (D : List Nat) : Prop := n ≤ 7 ∧ D.length ≤ 64 ∧ (∀ c, K c → c ∈ D) ∧
  ∀ c, K c → c < 8 ^ n ∧ (∀ i, i < n → 1 ≤ kw_dg n c i ∧ kw_dg n c i ≤ 7) ∧ ∀ i, i + 1 < n → kw_mm (kw_dg n c) n i → K (kf_o1 n c i)
theorem kf_adA {a : Nat → Int32} {s : Nat × (Nat → Nat)} {o : Nat} (h : kf_A a s) : kf_A (upd a s.1 (nI o)) (kf_ad s o) := by
  intro j hj
  have hj' : j < s.1 + 1 := hj
  show upd a s.1 (nI o) j = nI (if j = s.1 then o else s.2 j)
  by_cases e : j = s.1
  · rw [if_pos e, e, pk_us]
  · rw [if_neg e, pk_un e]
    exact h j (by omega)
theorem kf_adI {K : Nat → Prop} {s : Nat × (Nat → Nat)} {o : Nat} (h : kf_I K s) (ho : K o) (hn : ∀ j, j < s.1 → s.2 j ≠ o) : kf_I K (kf_ad s o) := by
  constructor
  · intro j hj
    have hj' : j < s.1 + 1 := hj
    show K (if j = s.1 then o else s.2 j)
    by_cases e : j = s.1
    · rw [if_pos e]; exact ho
    · rw [if_neg e]; exact h.1 j (by omega)
  · intro i hi j hj e
    have hi' : i < s.1 + 1 := hi
    have hj' : j < s.1 + 1 := hj
    have e' : (if i = s.1 then o else s.2 i) = (if j = s.1 then o else s.2 j) := e
    by_cases a : i = s.1 <;> by_cases b : j = s.1
    · omega
    · rw [if_pos a, if_neg b] at e'
      exact absurd e'.symm (hn j (by omega))
    · rw [if_neg a, if_pos b] at e'
      exact absurd e' (hn i (by omega))
    · rw [if_neg a, if_neg b] at e'
      exact h.2 i (by omega) j (by omega) e'
theorem kf_stI {n c i : Nat} {K : Nat → Prop} {D : List Nat} {s : Nat × (Nat → Nat)} (hK : kf_K n K D) (hc : K c) (hi : i + 1 < n) (h : kf_I K s) : kf_I K (kf_st n c i s) := by
  by_cases m : kf_new n c i s
  · rw [kf_st_t m]
    exact kf_adI h ((hK.2.2.2 c hc).2.2 i hi m.1) m.2
  · rw [kf_st_f m]; exact h
theorem kf_inI {n c : Nat} {K : Nat → Prop} {D : List Nat} {s : Nat × (Nat → Nat)} (hK : kf_K n K D) (hc : K c) (h : kf_I K s) : ∀ i, i + 1 ≤ n → kf_I K (kf_in n c s i)
  | 0, _ => h
  | i + 1, hi => kf_stI hK hc (by omega) (kf_inI hK hc h i (by omega))
theorem kf_keep {n c : Nat} {s : Nat × (Nat → Nat)} {j : Nat} (hj : j < s.1) : ∀ i, j < (kf_in n c s i).1 ∧ (kf_in n c s i).2 j = s.2 j
  | 0 => ⟨hj, rfl⟩
  | i + 1 => by
    obtain ⟨h1, h2⟩ := kf_keep (n := n) (c := c) hj i
    show j < (kf_st n c i (kf_in n c s i)).1 ∧ (kf_st n c i (kf_in n c s i)).2 j = s.2 j
    by_cases m : kf_new n c i (kf_in n c s i)
    · rw [kf_st_t m]
      refine ⟨Nat.lt_succ_of_lt h1, ?_⟩
      show (if j = (kf_in n c s i).1 then _ else (kf_in n c s i).2 j) = _
      rw [if_neg (by omega), h2]
    · rw [kf_st_f m]; exact ⟨h1, h2⟩
theorem kf_64 {n : Nat} {K : Nat → Prop} {D : List Nat} {s : Nat × (Nat → Nat)} (hK : kf_K n K D) (h : kf_I K s) : s.1 ≤ 64 := kc_pigeon hK.2.1 hK.2.2.1 h.1 h.2
theorem kf_oI {n : Nat} {K : Nat → Prop} {D : List Nat} (hK : kf_K n K D) (hn : 1 ≤ n) : ∀ (f x : Nat) (s : Nat × (Nat → Nat)), kf_I K s → kf_I K (kf_o n f x s)
  | 0, _, _, h => h
  | f + 1, x, s, h => by
    show kf_I K (if x < s.1 then kf_o n f (x + 1) (kf_in n (s.2 x) s (n - 1)) else s)
    by_cases c : x < s.1
    · rw [if_pos c]
      exact kf_oI hK hn f (x + 1) _ (kf_inI hK (h.1 x c) h (n - 1) (by omega))
    · rw [if_neg c]; exact h
theorem kf_I1 {K : Nat → Prop} {c : Nat} (hc : K c) : kf_I K (1, fun _ => c) := ⟨fun _ _ => hc, fun i hi j hj _ => by have h1 : i < 1 := hi; have h2 : j < 1 := hj; omega⟩
theorem kf_c7 {n c : Nat} {K : Nat → Prop} {D : List Nat} (hK : kf_K n K D) (hc : K c) : c < 2097152 := kx_c7 hK.1 (hK.2.2.2 c hc).1
/-! the component -/
theorem kx_fnd {post : Int32 → Prop} {cX sz fd en : Nat → Int32} {f0 : Int32} {m c : Nat} {g : Nat → Nat} (e0 : f0 = nI m) (hm : m ≤ 64) (hg : ∀ j, j < m → g j < 2097152) (hc : c < 2097152) (ha : ∀ j, j < m → fd j = nI (g j))
    (h1 : (∃ j, j < m ∧ g j = c) → post 1) (h0 : (∀ j, j < m → g j ≠ c) → post 0) : wpX_isFound post (f0, cX, sz, fd, en) (nI c) := by
  subst e0
  refine loop_0 (fun q i (_ : Unit) => wX_isFound_2 post (nI c) (nI m) cX sz fd en q (nI i)) (fun i _ => ∀ j, j < i → g j ≠ c) m () (fun _ h => absurd h (by omega)) ?_ ?_
  · intro q _ hs
    exact pk_le m m (fun _ => h0 hs) (fun z => absurd z (by omega)) rfl rfl (by omega) (by omega)
  · intro q i _ hi hs ih
    have hgi := hg i hi
    have e : fd (nI i).toNatClampNeg = nI (g i) := by rw [nI_clamp (by omega)]; exact ha i hi
    refine pk_le m i (fun z => absurd z (by omega)) (fun _ => ⟨pk_in i 5040 (by omega) rfl (by omega), ?_⟩) rfl rfl (by omega) (by omega)
    refine pk_eq (g i) c (fun a => h1 ⟨i, hi, a⟩) (fun a => nm_r (nI_1 i) (ih () fun j hj => ?_)) e rfl (by omega) (by omega)
    by_cases b : j = i
    · rw [b]; exact a
    · exact hs j (by omega)
theorem kx_nb {post : SX → Prop} {cX sz fd en : Nat → Int32} {f0 p0 : Int32} {n c : Nat} {K : Nat → Prop} {D : List Nat} {s : Nat × (Nat → Nat)} (hK : kf_K n K D) (hn1 : 1 ≤ n) (hc : K c) (hI : kf_I K s) (hA : kf_A fd s) (e0 : f0 = nI s.1) (e1 : p0 = nI c)
    (H : ∀ fd', kf_A fd' (kf_in n c s (n - 1)) → post (nI (kf_in n c s (n - 1)).1, cX, sz, fd', en)) : wpX_findNeighbours post (f0, cX, sz, fd, en) p0 (nI n) := by
  subst e0 e1
  have hn := hK.1
  have hcc := hK.2.2.2 c hc
  have ec : nI c = nI (kw_cd (kw_dg n c) n) := by rw [kw_cd_dg hcc.1]
  have hl : ∀ j, j < n → kw_dg n c j < 8 := fun j _ => kw_dg_lt n c j
  refine loop_0 (fun q i (t : Int32 × (Nat → Int32)) => wX_findNeighbours_2 post (nI c) (nI n) q (nI i) t.1 cX sz t.2 en) (fun i t => t.1 = nI (kf_in n c s i).1 ∧ kf_A t.2 (kf_in n c s i)) (n - 1) (nI s.1, fd) ⟨rfl, hA⟩ ?_ ?_
  · rintro q ⟨t1, t2⟩ ⟨h1, h2⟩
    have h1' : t1 = nI (kf_in n c s (n - 1)).1 := h1
    subst h1'
    exact kx_bs hn (by omega) (fun _ => H t2 h2) (fun z => absurd z (by omega))
  · rintro q i ⟨t1, t2⟩ hi ⟨h1, h2⟩ ih
    have h1' : t1 = nI (kf_in n c s i).1 := h1
    subst h1'
    have hIi := kf_inI hK hc hI i (by omega)
    have h64 := kf_64 hK hIi
    refine kx_bs hn (by omega) (fun z => absurd z (by omega)) (fun hi1 => ?_)
    have old : ¬ kf_new n c i (kf_in n c s i) → ∀ y, y = nI i + 1 → wX_findNeighbours_2 post (nI c) (nI n) q y (nI (kf_in n c s i).1) cX sz t2 en := by
      intro z
      refine nm_r (nI_1 i) (ih (nI (kf_in n c s i).1, t2) ⟨?_, ?_⟩)
      · show _ = nI (kf_st n c i (kf_in n c s i)).1
        rw [kf_st_f z]
      · show kf_A t2 (kf_st n c i (kf_in n c s i))
        rw [kf_st_f z]; exact h2
    refine kx_may ec rfl rfl hn hl hi1 (fun m => br_f kx_1n0 ?_) (fun m => br_t rfl (old fun z => m z.1))
    have hKo := hcc.2.2 i hi1 m
    refine kx_exd ec rfl rfl hn hl hi1 ?_
    refine kx_fnd (m := (kf_in n c s i).1) (g := (kf_in n c s i).2) rfl h64 (fun j hj => kf_c7 hK (hIi.1 j hj)) (kf_c7 hK hKo) h2 (fun a => br_f kx_1n0 (old ?_)) (fun a => br_t rfl ?_)
    · rintro ⟨_, z⟩
      obtain ⟨j, hj, e⟩ := a
      exact z j hj e
    · refine pk_le 5040 (kf_in n c s i).1 (fun z => absurd z (by omega)) (fun _ => ?_) rfl rfl (by omega) (by omega)
      refine ⟨pk_in (kf_in n c s i).1 5040 (by omega) rfl (by omega), nm_e (nm_r (nI_1 _) (nm_r (nI_1 i) (ih (nI ((kf_in n c s i).1 + 1), _) ⟨?_, ?_⟩)))⟩
      · show _ = nI (kf_st n c i (kf_in n c s i)).1
        rw [kf_st_t ⟨m, a⟩]
        rfl
      · show kf_A (upd t2 (nI (kf_in n c s i).1).toNatClampNeg (nI (kf_o1 n c i))) (kf_st n c i (kf_in n c s i))
        rw [kf_st_t ⟨m, a⟩, nI_clamp (by omega)]
        exact kf_adA h2
theorem kx_o {post : SX → Prop} {cX sz en : Nat → Int32} {n : Nat} {K : Nat → Prop} {D : List Nat} (hK : kf_K n K D) (hn1 : 1 ≤ n) :
    ∀ (f x : Nat) (s : Nat × (Nat → Nat)) (fd : Nat → Int32), kf_I K s → kf_A fd s → 65 ≤ x + f → x ≤ 65 →
      (∀ fd', kf_A fd' (kf_o n f x s) → post (nI (kf_o n f x s).1, cX, sz, fd', en)) → wX_findKin_14 post (nI n) (f + 1) (nI x) (nI s.1) cX sz fd en
  | 0, x, s, fd, hI, hA, hx, hx2, H => by
    have h64 := kf_64 hK hI
    refine pk_le 5040 x (fun z => absurd z (by omega)) (fun _ => ?_) rfl rfl (by omega) (by omega)
    exact pk_le s.1 x (fun _ => H fd hA) (fun z => absurd z (by omega)) rfl rfl (by omega) (by omega)
  | f + 1, x, s, fd, hI, hA, hx, hx2, H => by
    have h64 := kf_64 hK hI
    refine pk_le 5040 x (fun z => absurd z (by omega)) (fun _ => ?_) rfl rfl (by omega) (by omega)
    refine pk_le s.1 x (fun a => ?_) (fun a => ?_) rfl rfl (by omega) (by omega)
    · have e : kf_o n (f + 1) x s = s := if_neg (by omega)
      rw [e] at H
      exact H fd hA
    · have e : kf_o n (f + 1) x s = kf_o n f (x + 1) (kf_in n (s.2 x) s (n - 1)) := if_pos a
      rw [e] at H
      have ef : fd (nI x).toNatClampNeg = nI (s.2 x) := by rw [nI_clamp (by omega)]; exact hA x a
      refine ⟨pk_in x 5040 (by omega) rfl (by omega), ?_⟩
      refine kx_nb hK hn1 (hI.1 x a) hI hA rfl ef fun fd' hA' => ?_
      refine nm_r (nI_1 x) ?_
      exact kx_o hK hn1 f (x + 1) _ fd' (kf_inI hK (hI.1 x a) hI (n - 1) (by omega)) hA' (by omega) (by omega) H
/-- of an empty word nothing comes but itself -/
theorem kf_o0 : ∀ (f : Nat) (c : Nat), kf_o 0 f 1 (1, fun _ => c) = (1, fun _ => c)
  | 0, _ => rfl
  | f + 1, _ => if_neg (by show ¬ 1 < 1; omega)
theorem kf_res0 (c : Nat) : kf_res 0 c = (1, fun _ => c) := kf_o0 64 c
theorem kx_nb0 {post : SX → Prop} {u : SX} {p0 : Int32} (H : post u) : wpX_findNeighbours post u p0 (nI 0) := by
  obtain ⟨f0, cX, sz, fd, en⟩ := u
  exact ⟨1, br_t (by decide) H⟩
theorem kx_kin {post : SX → Prop} {fc : Int32} {cX sz fd en : Nat → Int32} {n : Nat} {l : Nat → Nat} (V : kx_V n l)
    (H : ∀ fd', kf_A fd' (kf_res n (kw_cd l n)) → post (nI (kf_res n (kw_cd l n)).1, cX, sz, fd', en)) : wpX_findKin post (fc, cX, sz, fd, en) (nI (kw_cd l n)) (nI n) := by
  have hA : kf_A (upd fd 0 (nI (kw_cd l n))) (1, fun _ => kw_cd l n) := by
    intro j hj
    have hj' : j < 1 := hj
    have : j = 0 := by omega
    subst this
    exact pk_us
  refine nm_e ?_
  by_cases h0 : n = 0
  · subst h0
    refine ⟨2, ?_⟩
    rw [kf_res0] at H
    refine pk_le 5040 0 (fun z => absurd z (by omega)) (fun _ => ?_) rfl rfl (by omega) (by omega)
    refine pk_le 1 0 (fun z => absurd z (by omega)) (fun _ => ⟨pk_in 0 5040 (by omega) rfl (by omega), ?_⟩) rfl rfl (by omega) (by omega)
    refine kx_nb0 (nm_r (e' := nI 1) (by decide) ?_)
    refine pk_le 5040 1 (fun z => absurd z (by omega)) (fun _ => ?_) rfl rfl (by omega) (by omega)
    exact pk_le 1 1 (fun _ => H _ hA) (fun z => absurd z (by omega)) rfl rfl (by omega) (by omega)
  · obtain ⟨K, D, hD, hKD, hk, hK⟩ := kc_main V.1 V.2
    have hKK : kf_K n K D := ⟨V.1, hD, hKD, hK⟩
    exact ⟨66, kx_o hKK (by omega) 65 0 _ _ (kf_I1 hk) hA (by omega) (by omega) H⟩
theorem kf_fact {n : Nat} {l : Nat → Nat} (V : kx_V n l) : (kf_res n (kw_cd l n)).1 ≤ 64 ∧ ∀ j, j < (kf_res n (kw_cd l n)).1 → (kf_res n (kw_cd l n)).2 j < 8 ^ n ∧ ∀ i, i < n → 1 ≤ kw_dg n ((kf_res n (kw_cd l n)).2 j) i ∧ kw_dg n ((kf_res n (kw_cd l n)).2 j) i ≤ 7 := by
  by_cases h0 : n = 0
  · subst h0
    rw [kf_res0]
    exact ⟨by show 1 ≤ 64; omega, fun j _ => ⟨Nat.zero_lt_one, fun i hi => absurd hi (by omega)⟩⟩
  · obtain ⟨K, D, hD, hKD, hk, hK⟩ := kc_main V.1 V.2
    have hKK : kf_K n K D := ⟨V.1, hD, hKD, hK⟩
    have h := kf_oI hKK (by omega) 65 0 _ (kf_I1 hk)
    exact ⟨kf_64 hKK h, fun j hj => ⟨(hK _ (h.1 j hj)).1, (hK _ (h.1 j hj)).2.1⟩⟩
