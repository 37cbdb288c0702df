/-! the reference's search -/
theorem ky_meet {post : SY → Prop} {f0 : Int32} {lt sz row cY sg nd : Nat → Int32} {m c : Nat} {g : Nat → Nat} (e0 : f0 = nI m) (hm : m ≤ 64) (hg : ∀ j, j < m → g j < 2097152) (hc : c < 2097152) (ha : ∀ j, j < m → cY j = nI (g j))
    (h1 : (∃ j, j < m ∧ g j = c) → post (nI m, lt, sz, row, cY, sg, nd)) (h0 : (∀ j, j < m → g j ≠ c) → m < 64 ∧ post (nI (m + 1), lt, sz, row, upd cY m (nI c), sg, nd)) : wpY_meet post (f0, lt, sz, row, cY, sg, nd) (nI c) := by
  subst e0
  refine loop_0 (fun q i (_ : Unit) => wY_meet_2 post (nI c) (nI m) lt sz row cY sg nd q (nI i)) (fun i _ => ∀ j, j < i → g j ≠ c) m () (fun _ h => absurd h (by omega)) ?_ ?_
  · intro q _ hs
    obtain ⟨h2, h3⟩ := h0 hs
    refine pk_le m m (fun _ => ⟨pk_in m 64 h2 rfl (by omega), nm_e (nm_r (nI_1 m) ?_)⟩) (fun z => absurd z (by omega)) rfl rfl (by omega) (by omega)
    rw [nI_clamp (by omega)]
    exact h3
  · intro q i _ hi hs ih
    have hgi := hg i hi
    have e : cY (nI i).toNatClampNeg = nI (g i) := by rw [nI_clamp (by omega)]; exact ha i hi
    refine pk_le m i (fun z => absurd z (by omega)) (fun _ => ⟨pk_in i 64 (by omega) rfl (by omega), ?_⟩) rfl rfl (by omega) (by omega)
    refine pk_eq (g i) c (fun a => h1 ⟨i, hi, a⟩) (fun a => nm_r (nI_1 i) (ih () fun j hj => ?_)) e rfl (by omega) (by omega)
    by_cases b : j = i
    · rw [b]; exact a
    · exact hs j (by omega)
theorem ky_in {post : SY → Prop} {J25 : Int32 → Int32 → (Nat → Int32) → (Nat → Int32) → (Nat → Int32) → (Nat → Int32) → (Nat → Int32) → (Nat → Int32) → Prop}
    {lt sz row cY sg nd : Nat → Int32} {n x : Nat} {K : Nat → Prop} {D : List Nat} {s : Nat × (Nat → Nat)} (hK : kf_K n K D) (hn1 : 1 ≤ n) (hx : x < s.1) (hI : kf_I K s) (hA : kf_A cY s)
    (H : ∀ row' cY', kf_A cY' (kf_in n (s.2 x) s (n - 1)) → J25 (nI (x + 1)) (nI (kf_in n (s.2 x) s (n - 1)).1) lt sz row' cY' sg nd) :
    ∃ m, wY_search_37 post J25 (nI n) (nI x) m 0 (nI s.1) lt sz row cY sg nd := by
  have hn := hK.1
  have hc : K (s.2 x) := hI.1 x hx
  have h64x := kf_64 hK hI
  have keep := fun i => kf_keep (n := n) (c := s.2 x) hx i
  generalize hcg : s.2 x = c at *
  have hcc := hK.2.2.2 c hc
  have hl : ∀ j, j < n → kw_dg n c j < 8 := fun j _ => kw_dg_lt n c j
  refine loop_0 (fun q i (t : Int32 × (Nat → Int32) × (Nat → Int32)) => wY_search_37 post J25 (nI n) (nI x) q (nI i) t.1 lt sz t.2.1 t.2.2 sg nd) (fun i t => t.1 = nI (kf_in n c s i).1 ∧ kf_A t.2.2 (kf_in n c s i)) (n - 1) (nI s.1, row, cY) ⟨rfl, hA⟩ ?_ ?_
  · rintro q ⟨t1, t2, t3⟩ ⟨h1, h2⟩
    have h1' : t1 = nI (kf_in n c s (n - 1)).1 := h1
    subst h1'
    exact kx_bs hn (by omega) (fun _ => nm_r (nI_1 x) (H t2 t3 h2)) (fun z => absurd z (by omega))
  · rintro q i ⟨t1, t2, t3⟩ hi ⟨h1, h2⟩ ih
    have h1' : t1 = nI (kf_in n c s i).1 := h1
    subst h1'
    have hIi := kf_inI hK hc hI i (by omega)
    have h64 := kf_64 hK hIi
    have h2' : kf_A t3 (kf_in n c s i) := h2
    have ex : t3 (nI x).toNatClampNeg = nI c := by
      rw [nI_clamp (by omega), h2' x (keep i).1, (keep i).2]
    refine kx_bs hn (by omega) (fun z => absurd z (by omega)) (fun hi1 => ?_)
    refine ⟨pk_in x 64 (by omega) rfl (by omega), ?_⟩
    refine ky_spread ex rfl hn hcc.1 fun row' hr => ?_
    have old : ¬ kf_new n c i (kf_in n c s i) → ∀ r2 y, y = nI i + 1 → wY_search_37 post J25 (nI n) (nI x) q y (nI (kf_in n c s i).1) lt sz r2 t3 sg nd := by
      intro z r2
      refine nm_r (nI_1 i) (ih (nI (kf_in n c s i).1, r2, t3) ⟨?_, ?_⟩)
      · show _ = nI (kf_st n c i (kf_in n c s i)).1
        rw [kf_st_f z]
      · show kf_A t3 (kf_st n c i (kf_in n c s i))
        rw [kf_st_f z]; exact h2'
    refine ky_may rfl rfl hn hl hr hi1 (fun m => br_f kx_1n0 ?_) (fun m => br_t rfl (old (fun z => m z.1) row'))
    have hKo := hcc.2.2 i hi1 m
    have v0 : vp_in (nI i) 7 := pk_in i 7 (by omega) rfl (by omega)
    have v1 : vp_in (nI i + 1) 7 := pk_in (i + 1) 7 (by omega) (nI_1 i) (by omega)
    refine ⟨v0, nm_e ⟨v1, v0, nm_e ⟨v1, nm_e ?_⟩⟩⟩
    rw [pk_cl (i + 1) (nI_1 i) (by omega), nI_clamp (show i < 2 ^ 31 by omega)]
    refine ky_code (l := kw_sw (kw_dg n c) i) rfl hn (fun j hj => ?_) ?_
    · show _ = nI (if j = i then kw_dg n c (i + 1) else if j = i + 1 then kw_dg n c i else kw_dg n c j)
      by_cases a : j = i
      · rw [if_pos a, a, pk_un (by omega), pk_us]
        exact hr (i + 1) hi1
      · rw [if_neg a]
        by_cases b : j = i + 1
        · rw [if_pos b, b, pk_us]
          exact hr i (by omega)
        · rw [if_neg b, pk_un b, pk_un a]
          exact hr j hj
    · refine ky_meet (m := (kf_in n c s i).1) (g := (kf_in n c s i).2) rfl h64 (fun j hj => kf_c7 hK (hIi.1 j hj)) (kf_c7 hK hKo) h2' (fun a => old ?_ _) (fun a => ?_)
      · rintro ⟨_, z⟩
        obtain ⟨j, hj, e⟩ := a
        exact z j hj e
      · have h65 : (kf_in n c s i).1 + 1 ≤ 64 := kf_64 hK (kf_adI hIi hKo a)
        refine ⟨by omega, nm_r (nI_1 i) (ih (nI ((kf_in n c s i).1 + 1), _, _) ⟨?_, ?_⟩)⟩
        · show _ = nI (kf_st n c i (kf_in n c s i)).1
          rw [kf_st_t ⟨m, a⟩]
          rfl
        · show kf_A (upd t3 (kf_in n c s i).1 (nI (kf_o1 n c i))) (kf_st n c i (kf_in n c s i))
          rw [kf_st_t ⟨m, a⟩]
          exact kf_adA h2'
theorem ky_o {post : SY → Prop} {lt sz sg nd : Nat → Int32} {n : Nat} {K : Nat → Prop} {D : List Nat} (hK : kf_K n K D) (hn1 : 1 ≤ n) :
    ∀ (f x : Nat) (s : Nat × (Nat → Nat)) (row cY : Nat → Int32), kf_I K s → kf_A cY s → 65 ≤ x + f → x ≤ 65 →
      (∀ row' cY', kf_A cY' (kf_o n f x s) → post (nI (kf_o n f x s).1, lt, sz, row', cY', sg, nd)) → wY_search_25 post (nI n) (f + 1) (nI x) (nI s.1) lt sz row cY sg nd
  | 0, x, s, row, cY, hI, hA, hx, hx2, H => by
    have h64 := kf_64 hK hI
    exact pk_le s.1 x (fun _ => H row cY hA) (fun z => absurd z (by omega)) rfl rfl (by omega) (by omega)
  | f + 1, x, s, row, cY, hI, hA, hx, hx2, H => by
    have h64 := kf_64 hK hI
    refine pk_le s.1 x (fun a => ?_) (fun a => ?_) rfl rfl (by omega) (by omega)
    · have e : kf_o n (f + 1) x s = s := if_neg (by omega)
      rw [e] at H
      exact H row cY hA
    · have e : kf_o n (f + 1) x s = kf_o n f (x + 1) (kf_in n (s.2 x) s (n - 1)) := if_pos a
      rw [e] at H
      refine ky_in hK hn1 a hI hA fun row' cY' hA' => ?_
      exact ky_o hK hn1 f (x + 1) _ row' cY' (kf_inI hK (hI.1 x a) hI (n - 1) (by omega)) hA' (by omega) (by omega) H
theorem ky_kin {post : SY → Prop} {f : Int32} {lt sz row cY sg nd : Nat → Int32} {p0 : Int32} {w n : Nat} {l : Nat → Nat} (hw : w < 2) (e0 : p0 = nI w) (V : kx_V n l) (hz : sz w = nI n) (hlt : ∀ i, i < n → lt (7 * w + i) = nI (l i))
    (H : ∀ row' cY', kf_A cY' (kf_res n (kw_cd l n)) → post (nI (kf_res n (kw_cd l n)).1, lt, sz, row', cY', sg, nd)) : wpY_search post (f, lt, sz, row, cY, sg, nd) p0 := by
  have hn := V.1
  unfold wpY_search
  dsimp only
  refine ky_take hw e0 hn hz hlt fun row' hr => ?_
  refine ky_code rfl hn hr ?_
  refine ky_meet (m := 0) (g := fun _ => 0) rfl (by omega) (fun j hj => absurd hj (by omega)) (kx_cl V) (fun j hj => absurd hj (by omega)) (fun ⟨j, hj, _⟩ => absurd hj (by omega)) (fun _ => ⟨by omega, ?_⟩)
  have hA : kf_A (upd cY 0 (nI (kw_cd l n))) (1, fun _ => kw_cd l n) := by
    intro j hj
    have hj' : j < 1 := hj
    have : j = 0 := by omega
    subst this
    exact pk_us
  by_cases h0 : n = 0
  · subst h0
    refine ⟨2, ?_⟩
    rw [kf_res0] at H
    refine pk_le 1 0 (fun z => absurd z (by omega)) (fun _ => ⟨1, ?_⟩) rfl rfl (by omega) (by omega)
    refine br_t (by decide) (nm_r (e' := nI 1) (by decide) ?_)
    exact pk_le 1 1 (fun _ => H _ _ hA) (fun z => absurd z (by omega)) rfl rfl (by omega) (by omega)
  · obtain ⟨K, D, hD, hKD, hk, hK⟩ := kc_main V.1 V.2
    have hKK : kf_K n K D := ⟨V.1, hD, hKD, hK⟩
    exact ⟨66, ky_o hKK (by omega) 65 0 _ _ _ (kf_I1 hk) hA (by omega) (by omega) H⟩
/-! kin -/
theorem i_vc_kin {k : Nat} {u : SX} {v : SY} (I : i_Rel k u v) (hk : k + 3 ≤ 1536) (v1 : Int32) : wpX_kin (fun r u' => wpY_kin (fun r' v' => r' = r ∧ i_Rel (k + 3) u' v') v v1) u v1 := by
  obtain ⟨fc, cX, sz, fd, en, f, lt, row, cY, sg, nd, rfl, rfl, J⟩ := I
  have R : i_Rel (k + 3) (fc, cX, sz, fd, en) (f, lt, sz, row, cY, sg, nd) := kx_mk J
  unfold wpX_kin
  dsimp only
  rcases kx_w v1 with ⟨w, hw, rfl⟩ | ⟨h0, h1, h2⟩
  · obtain ⟨n, l, V, hz, hc, hlt⟩ := J w hw
    have hv := kx_vw hw
    have hz' : sz (nI w).toNatClampNeg = nI n := by rw [kx_cw hw]; exact hz
    have hc' : cX (nI w).toNatClampNeg = nI (kw_cd l n) := by rw [kx_cw hw]; exact hc
    refine kx_isW hw (br_f kx_1n0 ⟨hv, hv, ?_⟩)
    rw [hz', hc']
    refine kx_kin V fun fd' hA => ?_
    unfold wpY_kin
    dsimp only
    refine ky_isW hw (br_t rfl ?_)
    exact ky_kin hw rfl V hz hlt fun row' cY' hA' => ⟨rfl, kx_mk J⟩
  · refine kx_isN h0 h1 (br_t rfl ?_)
    unfold wpY_kin
    dsimp only
    exact ky_isN h2 (br_f kx_1n0 ⟨rfl, R⟩)
/-! kinAt -/
def kf_bf (g : Nat → Nat) (c m : Nat) : Nat := kr_ct (fun j => decide (g j < c)) m
theorem kf_bf_t {g : Nat → Nat} {c i : Nat} (h : g i < c) : kf_bf g c (i + 1) = kf_bf g c i + 1 := by
  show kr_ct _ i + (if decide (g i < c) then 1 else 0) = _
  rw [decide_eq_true h]
  rfl
theorem kf_bf_f {g : Nat → Nat} {c i : Nat} (h : ¬ g i < c) : kf_bf g c (i + 1) = kf_bf g c i := by
  show kr_ct _ i + (if decide (g i < c) then 1 else 0) = _
  rw [decide_eq_false h]
  rfl
theorem kx_before {post : Int32 → Prop} {cX sz fd en : Nat → Int32} {m c : Nat} {g : Nat → Nat} {p0 : Int32} (e0 : p0 = nI c) (hm : m ≤ 64) (hg : ∀ j, j < m → g j < 2097152) (hc : c < 2097152) (ha : ∀ j, j < m → fd j = nI (g j))
    (h : post (nI (kf_bf g c m))) : wpX_foundBefore post (nI m, cX, sz, fd, en) p0 := by
  subst e0
  refine loop_0 (fun q i (s : Int32) => wX_foundBefore_4 post (nI c) (nI m) cX sz fd en q s (nI i)) (fun i s => s = nI (kf_bf g c i)) m 0 rfl ?_ ?_
  · intro q s hs
    subst hs
    exact pk_le m m (fun _ => h) (fun z => absurd z (by omega)) rfl rfl (by omega) (by omega)
  · intro q i s hi hs ih
    subst hs
    have hgi := hg i hi
    have e : fd (nI i).toNatClampNeg = nI (g i) := by rw [nI_clamp (by omega)]; exact ha i hi
    refine pk_le m i (fun z => absurd z (by omega)) (fun _ => ⟨pk_in i 5040 (by omega) rfl (by omega), ?_⟩) rfl rfl (by omega) (by omega)
    refine pk_le c (g i) (fun a => ?_) (fun a => ?_) rfl e (by omega) (by omega)
    · exact nm_r (nI_1 i) (ih _ (by rw [kf_bf_f (by omega)]))
    · exact nm_e (nm_r (nI_1 i) (ih _ (by rw [kf_bf_t a, nI_1])))
theorem ky_before {post : Int32 → SY → Prop} {J17 : Int32 → Prop} {lt sz row cY sg nd : Nat → Int32} {m x : Nat} {g : Nat → Nat} {p1 : Int32} (hx : x < m) (hm : m ≤ 64) (hg : ∀ j, j < m → g j < 2097152) (ha : ∀ j, j < m → cY j = nI (g j))
    (h1 : nI (kf_bf g (g x) m) = p1 → post (nI (g x)) (nI m, lt, sz, row, cY, sg, nd)) (h0 : ¬ nI (kf_bf g (g x) m) = p1 → J17 (nI (x + 1))) :
    ∃ q, wY_kinAt_31 post J17 p1 (nI x) (nI m) lt sz row cY sg nd q 0 0 := by
  have ex : cY (nI x).toNatClampNeg = nI (g x) := by rw [nI_clamp (by omega)]; exact ha x hx
  have hvx : vp_in (nI x) 64 := pk_in x 64 (by omega) rfl (by omega)
  refine loop_0 (fun q i (s : Int32) => wY_kinAt_31 post J17 p1 (nI x) (nI m) lt sz row cY sg nd q s (nI i)) (fun i s => s = nI (kf_bf g (g x) i)) m 0 rfl ?_ ?_
  · intro q s hs
    subst hs
    refine pk_le m m (fun _ => br_c (fun a => ⟨hvx, ?_⟩) (fun a => nm_r (nI_1 x) (h0 a))) (fun z => absurd z (by omega)) rfl rfl (by omega) (by omega)
    rw [ex]
    exact h1 a
  · intro q i s hi hs ih
    subst hs
    have hgi := hg i hi
    have hgx := hg x hx
    have e : cY (nI i).toNatClampNeg = nI (g i) := by rw [nI_clamp (by omega)]; exact ha i hi
    refine pk_le m i (fun z => absurd z (by omega)) (fun _ => ⟨pk_in i 64 (by omega) rfl (by omega), hvx, ?_⟩) rfl rfl (by omega) (by omega)
    refine pk_le (g x) (g i) (fun a => ?_) (fun a => ?_) ex e (by omega) (by omega)
    · exact nm_r (nI_1 i) (ih _ (by rw [kf_bf_f (by omega)]))
    · exact nm_e (nm_r (nI_1 i) (ih _ (by rw [kf_bf_t a, nI_1])))
theorem kk_at {m : Nat} {g : Nat → Nat} (p1 : Int32) (hm : m ≤ 64) (hg : ∀ j, j < m → g j < 2097152) :
    ∀ d x : Nat, x + d = m → ∃ r : Int32, (∀ (cX sz fd en : Nat → Int32), (∀ j, j < m → fd j = nI (g j)) → ∀ post : Int32 → SX → Prop, post r (nI m, cX, sz, fd, en) → wX_kinAt_27 post p1 (nI m) cX sz fd en (d + 1) (nI x)) ∧
      (∀ (lt sz row cY sg nd : Nat → Int32), (∀ j, j < m → cY j = nI (g j)) → ∀ post : Int32 → SY → Prop, post r (nI m, lt, sz, row, cY, sg, nd) → wY_kinAt_17 post p1 (nI m) lt sz row cY sg nd (d + 1) (nI x))
  | 0, x, hx => ⟨-4, fun _ _ _ _ _ _ hp => pk_le m x (fun _ => hp) (fun z => absurd z (by omega)) rfl rfl (by omega) (by omega), fun _ _ _ _ _ _ _ _ hp => pk_le m x (fun _ => hp) (fun z => absurd z (by omega)) rfl rfl (by omega) (by omega)⟩
  | d + 1, x, hx => by
    have hv : vp_in (nI x) 5040 := pk_in x 5040 (by omega) rfl (by omega)
    by_cases c : nI (kf_bf g (g x) m) = p1
    · refine ⟨nI (g x), fun cX sz fd en hX post hp => ?_, fun lt sz row cY sg nd hY post hp => ?_⟩
      · have ex : fd (nI x).toNatClampNeg = nI (g x) := by rw [nI_clamp (by omega)]; exact hX x (by omega)
        refine pk_le m x (fun z => absurd z (by omega)) (fun _ => ⟨hv, kx_before ex hm hg (hg x (by omega)) hX (br_t c ⟨hv, ?_⟩)⟩) rfl rfl (by omega) (by omega)
        rw [ex]
        exact hp
      · exact pk_le m x (fun z => absurd z (by omega)) (fun _ => ky_before (by omega) hm hg hY (fun _ => hp) (fun z => absurd c z)) rfl rfl (by omega) (by omega)
    · obtain ⟨r, h1, h2⟩ := kk_at p1 hm hg d (x + 1) (by omega)
      refine ⟨r, fun cX sz fd en hX post hp => ?_, fun lt sz row cY sg nd hY post hp => ?_⟩
      · have ex : fd (nI x).toNatClampNeg = nI (g x) := by rw [nI_clamp (by omega)]; exact hX x (by omega)
        exact pk_le m x (fun z => absurd z (by omega)) (fun _ => ⟨hv, kx_before ex hm hg (hg x (by omega)) hX (br_f c (nm_r (nI_1 x) (h1 _ _ _ _ hX post hp)))⟩) rfl rfl (by omega) (by omega)
      · exact pk_le m x (fun z => absurd z (by omega)) (fun _ => ky_before (by omega) hm hg hY (fun z => absurd z c) (fun _ => h2 _ _ _ _ _ _ hY post hp)) rfl rfl (by omega) (by omega)
theorem i_vc_kinAt {k : Nat} {u : SX} {v : SY} (I : i_Rel k u v) (hk : k + 3 ≤ 1536) (v1 : Int32) (v2 : Int32) : wpX_kinAt (fun r u' => wpY_kinAt (fun r' v' => r' = r ∧ i_Rel (k + 3) u' v') v v1 v2) u v1 v2 := by
  obtain ⟨fc, cX, sz, fd, en, f, lt, row, cY, sg, nd, rfl, rfl, J⟩ := I
  have R : i_Rel (k + 3) (fc, cX, sz, fd, en) (f, lt, sz, row, cY, sg, nd) := kx_mk J
  unfold wpX_kinAt
  dsimp only
  rcases kx_w v1 with ⟨w, hw, rfl⟩ | ⟨h0, h1, h2⟩
  · obtain ⟨n, l, V, hz, hc, hlt⟩ := J w hw
    have hv := kx_vw hw
    have hz' : sz (nI w).toNatClampNeg = nI n := by rw [kx_cw hw]; exact hz
    have hc' : cX (nI w).toNatClampNeg = nI (kw_cd l n) := by rw [kx_cw hw]; exact hc
    obtain ⟨f1, f2⟩ := kf_fact V
    refine kx_isW hw (br_f kx_1n0 ⟨hv, hv, ?_⟩)
    rw [hz', hc']
    obtain ⟨r, hX, hY⟩ := kk_at v2 f1 (fun j hj => kx_c7 V.1 (f2 j hj).1) (kf_res n (kw_cd l n)).1 0 (by omega)
    refine kx_kin V fun fd' hA => ?_
    refine ⟨_, hX _ _ _ _ hA _ ?_⟩
    unfold wpY_kinAt
    dsimp only
    refine ky_isW hw (br_t rfl ?_)
    exact ky_kin hw rfl V hz hlt fun row' cY' hA' => ⟨_, hY _ _ _ _ _ _ hA' _ ⟨rfl, kx_mk J⟩⟩
  · refine kx_isN h0 h1 (br_t rfl ?_)
    unfold wpY_kinAt
    dsimp only
    exact ky_isN h2 (br_f kx_1n0 ⟨rfl, R⟩)
/-! related -/
theorem kw_lo {l : Nat → Nat} {k : Nat} (h : 1 ≤ l 0) : 8 ^ k ≤ kw_cd l (k + 1) := by
  have e : k + 1 = 1 + k := by omega
  rw [e, kw_split l 1 k]
  have e1 : kw_cd l 1 = l 0 := by show 8 * 0 + l 0 = l 0; omega
  rw [e1]
  have : 1 * 8 ^ k ≤ l 0 * 8 ^ k := Nat.mul_le_mul_right _ h
  omega
theorem kw_len {l l' : Nat → Nat} {n m : Nat} (h8 : ∀ i, i < n → l i < 8) (h1 : ∀ i, i < m → 1 ≤ l' i) (e : kw_cd l n = kw_cd l' m) : m ≤ n := by
  by_cases c : m ≤ n
  · exact c
  · obtain ⟨k, rfl⟩ : ∃ k, m = k + 1 := ⟨m - 1, by omega⟩
    have a := kw_cd_lt h8
    have b := kw_lo (l := l') (k := k) (h1 0 (by omega))
    have d : 8 ^ n ≤ 8 ^ k := Nat.pow_le_pow_right (by decide) (by omega)
    omega
theorem ky_rel {post : Int32 → SY → Prop} {lt sz row cY sg nd : Nat → Int32} {m c : Nat} {g : Nat → Nat} (hm : m ≤ 64) (hg : ∀ j, j < m → g j < 2097152) (hc : c < 2097152) (ha : ∀ j, j < m → cY j = nI (g j))
    (h1 : (∃ j, j < m ∧ g j = c) → post 1 (nI m, lt, sz, row, cY, sg, nd)) (h0 : (∀ j, j < m → g j ≠ c) → post 0 (nI m, lt, sz, row, cY, sg, nd)) : ∃ q, wY_related_36 post (nI c) (nI m) lt sz row cY sg nd q 0 := by
  refine loop_0 (fun q i (_ : Unit) => wY_related_36 post (nI c) (nI m) lt sz row cY sg nd q (nI i)) (fun i _ => ∀ j, j < i → g j ≠ c) m () (fun _ h => absurd h (by omega)) ?_ ?_
  · intro q _ hs
    exact pk_le m m (fun _ => h0 hs) (fun z => absurd z (by omega)) rfl rfl (by omega) (by omega)
  · intro q i _ hi hs ih
    have hgi := hg i hi
    have e : cY (nI i).toNatClampNeg = nI (g i) := by rw [nI_clamp (by omega)]; exact ha i hi
    refine pk_le m i (fun z => absurd z (by omega)) (fun _ => ⟨pk_in i 64 (by omega) rfl (by omega), ?_⟩) rfl rfl (by omega) (by omega)
    refine pk_eq (g i) c (fun a => h1 ⟨i, hi, a⟩) (fun a => nm_r (nI_1 i) (ih () fun j hj => ?_)) e rfl (by omega) (by omega)
    by_cases b : j = i
    · rw [b]; exact a
    · exact hs j (by omega)
theorem i_vc_related {k : Nat} {u : SX} {v : SY} (I : i_Rel k u v) (hk : k + 3 ≤ 1536) : wpX_related (fun r u' => wpY_related (fun r' v' => r' = r ∧ i_Rel (k + 3) u' v') v) u := by
  obtain ⟨fc, cX, sz, fd, en, f, lt, row, cY, sg, nd, rfl, rfl, J⟩ := I
  obtain ⟨n, l, V, hz, hc, hlt⟩ := J 0 (by omega)
  obtain ⟨n', l', V', hz', hc', hlt'⟩ := J 1 (by omega)
  obtain ⟨f1, f2⟩ := kf_fact V
  have hn := V.1
  have hn' := V'.1
  have hg : ∀ j, j < (kf_res n (kw_cd l n)).1 → (kf_res n (kw_cd l n)).2 j < 2097152 := fun j hj => kx_c7 V.1 (f2 j hj).1
  have hc7 : kw_cd l' n' < 2097152 := kx_cl V'
  unfold wpX_related
  dsimp only
  rw [hc, hz]
  refine kx_kin V fun fd' hA => ?_
  dsimp only
  rw [hc']
  have Y : ∀ post : Int32 → SY → Prop,
      ((∃ j, j < (kf_res n (kw_cd l n)).1 ∧ (kf_res n (kw_cd l n)).2 j = kw_cd l' n') → ∀ f' row' cY', post 1 (f', lt, sz, row', cY', sg, nd)) →
      ((∀ j, j < (kf_res n (kw_cd l n)).1 → (kf_res n (kw_cd l n)).2 j ≠ kw_cd l' n') → ∀ f' row' cY', post 0 (f', lt, sz, row', cY', sg, nd)) → wpY_related post (f, lt, sz, row, cY, sg, nd) := by
    intro post H1 H0
    unfold wpY_related
    dsimp only
    refine pk_eq n n' (fun a => ?_) (fun a => H0 (fun j hj e => a ?_) f row cY) hz hz' (by omega) (by omega)
    · refine ky_take (w := 1) (by omega) rfl hn' hz' hlt' fun row' hr => ?_
      refine ky_code rfl hn' hr ?_
      refine ky_kin (w := 0) (by omega) rfl V hz hlt fun row'' cY' hA' => ?_
      exact ky_rel f1 hg hc7 hA' (fun b => H1 b _ _ _) (fun b => H0 b _ _ _)
    · have q := f2 j hj
      have e2 : kw_cd (kw_dg n ((kf_res n (kw_cd l n)).2 j)) n = kw_cd l' n' := by rw [kw_cd_dg q.1, e]
      have a1 := kw_len (fun i hi => kw_dg_lt n _ i) (fun i hi => (V'.2 i hi).1) e2
      have a2 := kw_len (fun i hi => kx_V8 V' i hi) (fun i hi => (q.2 i hi).1) e2.symm
      omega
  refine kx_fnd (m := (kf_res n (kw_cd l n)).1) (g := (kf_res n (kw_cd l n)).2) rfl f1 hg hc7 hA (fun a => br_f kx_1n0 ?_) (fun a => br_t rfl ?_)
  · exact Y _ (fun _ f' row' cY' => ⟨rfl, kx_mk J⟩) (fun z => by obtain ⟨j, hj, e⟩ := a; exact absurd e (z j hj))
  · exact Y _ (fun ⟨j, hj, e⟩ => absurd e (a j hj)) (fun _ f' row' cY' => ⟨rfl, kx_mk J⟩)
