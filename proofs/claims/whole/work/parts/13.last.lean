/-! rising, falling, risingOf -/
theorem ky_u1 : (1 : Int32) = kx_u true := rfl
theorem ky_u0 : (0 : Int32) = kx_u false := rfl
theorem kx_k3 {x : Int32} (h0 : ¬ x < 0) (h3 : x ≤ 3) : ∃ k, k ≤ 3 ∧ x = nI k := nI_of2 (M := 3) (n := 3) (by decide) h0 h3
theorem i_vc_rising {k : Nat} {u : SX} {v : SY} (I : i_Rel k u v) (hk : k + 3 ≤ 1536) (v1 : Int32) (v2 : Int32) : wpX_rising (fun r u' => wpY_rising (fun r' v' => r' = r ∧ i_Rel (k + 3) u' v') v v1 v2) u v1 v2 := by
  obtain ⟨fc, cX, sz, fd, en, f, lt, row, cY, sg, nd, rfl, rfl, J⟩ := I
  have R : i_Rel (k + 3) (fc, cX, sz, fd, en) (f, lt, sz, row, cY, sg, nd) := kx_mk J
  unfold wpX_rising
  dsimp only
  rcases kx_w v1 with ⟨w, hw, rfl⟩ | ⟨h0, h1, h2⟩
  · obtain ⟨n, l, V, hz, hc, hlt⟩ := J w hw
    have hv := kx_vw hw
    have hz' : sz (nI w).toNatClampNeg = nI n := by rw [kx_cw hw]; exact hz
    have hc' : cX (nI w).toNatClampNeg = nI (kw_cd l n) := by rw [kx_cw hw]; exact hc
    refine kx_isW hw (br_f kx_1n0 ?_)
    by_cases a : v2 < 0
    · refine br_t a ?_
      unfold wpY_rising
      dsimp only
      exact ky_isW hw (br_t rfl (br_t a ⟨rfl, R⟩))
    refine br_f a ?_
    by_cases b : v2 ≤ 3
    · refine br_t b ⟨hv, hv, ?_⟩
      rw [hz', hc']
      obtain ⟨q, hq, rfl⟩ := kx_k3 a b
      refine kx_most true V.1 (kx_V8 V) hq fun r en' hr => ?_
      unfold wpY_rising
      dsimp only
      refine ky_isW hw (br_t rfl (br_f a (br_t b ?_)))
      exact ky_most true hw V hq hz hlt fun r' row' sg' nd' hr' => ⟨by rw [kv_uniq hr' hr], kx_mk J⟩
    · refine br_f b ?_
      unfold wpY_rising
      dsimp only
      exact ky_isW hw (br_t rfl (br_f a (br_f b ⟨rfl, R⟩)))
  · refine kx_isN h0 h1 (br_t rfl ?_)
    unfold wpY_rising
    dsimp only
    exact ky_isN h2 (br_f kx_1n0 ⟨rfl, R⟩)
theorem i_vc_falling {k : Nat} {u : SX} {v : SY} (I : i_Rel k u v) (hk : k + 3 ≤ 1536) (v1 : Int32) (v2 : Int32) : wpX_falling (fun r u' => wpY_falling (fun r' v' => r' = r ∧ i_Rel (k + 3) u' v') v v1 v2) u v1 v2 := by
  obtain ⟨fc, cX, sz, fd, en, f, lt, row, cY, sg, nd, rfl, rfl, J⟩ := I
  have R : i_Rel (k + 3) (fc, cX, sz, fd, en) (f, lt, sz, row, cY, sg, nd) := kx_mk J
  unfold wpX_falling
  dsimp only
  rcases kx_w v1 with ⟨w, hw, rfl⟩ | ⟨h0, h1, h2⟩
  · obtain ⟨n, l, V, hz, hc, hlt⟩ := J w hw
    have hv := kx_vw hw
    have hz' : sz (nI w).toNatClampNeg = nI n := by rw [kx_cw hw]; exact hz
    have hc' : cX (nI w).toNatClampNeg = nI (kw_cd l n) := by rw [kx_cw hw]; exact hc
    refine kx_isW hw (br_f kx_1n0 ?_)
    by_cases a : v2 < 0
    · refine br_t a ?_
      unfold wpY_falling
      dsimp only
      exact ky_isW hw (br_t rfl (br_t a ⟨rfl, R⟩))
    refine br_f a ?_
    by_cases b : v2 ≤ 3
    · refine br_t b ⟨hv, hv, ?_⟩
      rw [hz', hc']
      obtain ⟨q, hq, rfl⟩ := kx_k3 a b
      refine kx_most false V.1 (kx_V8 V) hq fun r en' hr => ?_
      unfold wpY_falling
      dsimp only
      refine ky_isW hw (br_t rfl (br_f a (br_t b ?_)))
      exact ky_most false hw V hq hz hlt fun r' row' sg' nd' hr' => ⟨by rw [kv_uniq hr' hr], kx_mk J⟩
    · refine br_f b ?_
      unfold wpY_falling
      dsimp only
      exact ky_isW hw (br_t rfl (br_f a (br_f b ⟨rfl, R⟩)))
  · refine kx_isN h0 h1 (br_t rfl ?_)
    unfold wpY_falling
    dsimp only
    exact ky_isN h2 (br_f kx_1n0 ⟨rfl, R⟩)
theorem ky_rof {post : Int32 → SY → Prop} {f : Int32} {lt sz row cY sg nd : Nat → Int32} {l : Nat → Nat} {n : Nat} (hn : n ≤ 7) (hl : ∀ j, j < n → l j < 8) (hr : ∀ j, j < n → row j = nI (l j))
    (H : ∀ r, kv_mx l true 1 n r → post (nI r) (f, lt, sz, row, cY, sg, nd)) : ∃ m, wY_risingOf_35 post (nI n) f lt sz row cY sg nd m 0 1 := by
  have h2n : 2 ^ n ≤ 128 := Nat.pow_le_pow_right (n := 2) (by decide) hn
  have h1n : 1 ≤ 2 ^ n := Nat.pow_pos (by decide)
  refine pk_loop (fun m i (s : Int32) => wY_risingOf_35 post (nI n) f lt sz row cY sg nd m s (nI i)) (fun t s => ∃ r, s = nI r ∧ ky_best l true n 1 t r) (2 ^ n) 1 0 h1n ⟨0, rfl, ky_b1 l true n 1⟩ ?_ ?_
  · rintro m s ⟨r, rfl, hb⟩
    exact pk_le (2 ^ n) (2 ^ n) (fun _ => H r (kv_mxs hn hb.2.1 hb.2.2)) (fun z => absurd z (by omega)) (ky_1n hn) rfl (by omega) (by omega)
  · rintro m t s ht ⟨r, rfl, hb⟩ ih
    have hsz : kv_sz t ≤ 7 := kr_ct_le _ _
    have hr7 := hb.1
    refine pk_le (2 ^ n) t (fun z => absurd z (by omega)) (fun _ => ?_) (ky_1n hn) rfl (by omega) (by omega)
    refine ky_size (by omega) ?_
    refine pk_le (kv_sz t) r (fun c => ?_) (fun c => ?_) rfl rfl (by omega) (by omega)
    · exact nm_r (nI_1 t) (ih _ ⟨r, rfl, ky_b_keep hb (fun _ => c)⟩)
    · refine ky_part true hn hl hr (by omega) (fun p => br_f kx_1n0 ?_) (fun p => br_t rfl ?_)
      · exact nm_r (nI_1 t) (ih _ ⟨_, rfl, ky_b_new hb (kv_D1.mpr p) c⟩)
      · exact nm_r (nI_1 t) (ih _ ⟨r, rfl, ky_b_keep hb (fun d => absurd (kv_D1.mp d) p)⟩)
theorem i_vc_risingOf {k : Nat} {u : SX} {v : SY} (I : i_Rel k u v) (hk : k + 3 ≤ 1536) (v1 : Int32) (v2 : Int32) : wpX_risingOf (fun r u' => wpY_risingOf (fun r' v' => r' = r ∧ i_Rel (k + 3) u' v') v v1 v2) u v1 v2 := by
  obtain ⟨fc, cX, sz, fd, en, f, lt, row, cY, sg, nd, rfl, rfl, J⟩ := I
  have R : i_Rel (k + 3) (fc, cX, sz, fd, en) (f, lt, sz, row, cY, sg, nd) := kx_mk J
  unfold wpX_risingOf
  dsimp only
  rcases kx_w v1 with ⟨w, hw, rfl⟩ | ⟨h0, h1, h2⟩
  · obtain ⟨n, l, V, hz, hc, hlt⟩ := J w hw
    have hv := kx_vw hw
    have hn := V.1
    have hl := kx_V8 V
    have hcl := kx_cl V
    have hz' : sz (nI w).toNatClampNeg = nI n := by rw [kx_cw hw]; exact hz
    have hc' : cX (nI w).toNatClampNeg = nI (kw_cd l n) := by rw [kx_cw hw]; exact hc
    refine kx_isW hw (br_f kx_1n0 ?_)
    by_cases a : v2 < 0
    · refine br_t a ?_
      unfold wpY_risingOf
      dsimp only
      exact ky_isW hw (br_t rfl (br_t a ⟨rfl, R⟩))
    obtain ⟨q, hq, rfl⟩ := nI_of a
    refine br_f a ⟨hv, pk_le q n (fun c => ⟨hv, hv, ?_⟩) (fun c => ?_) rfl hz' hq (by omega)⟩
    · have e : cX (nI w).toNatClampNeg >>> ((3 * (sz (nI w).toNatClampNeg - nI q)) &&& 31) = nI (kw_cd l q) := by
        rw [hc', hz', pk_sub c, show (3 : Int32) = nI 3 from rfl, pk_mul, kx_shr hcl (by omega), ← kw_8p, kw_pre hl c]
      refine nm_r e ?_
      refine kx_most (k := 1) true (show q ≤ 7 by omega) (fun j hj => hl j (by omega)) (by omega) fun r en' hr => ?_
      unfold wpY_risingOf
      dsimp only
      refine ky_isW hw (br_t rfl (br_f a ⟨hv, pk_le q n (fun _ => ?_) (fun z => absurd z (by omega)) rfl hz' hq (by omega)⟩))
      refine ky_take hw rfl hn hz hlt fun row' hrow => ?_
      exact ky_rof (l := l) (by omega) (fun j hj => hl j (by omega)) (fun j hj => hrow j (by omega)) fun r' hr' => ⟨by rw [kv_uniq hr' hr], kx_mk J⟩
    · unfold wpY_risingOf
      dsimp only
      exact ky_isW hw (br_t rfl (br_f a ⟨hv, pk_le q n (fun z => absurd z (by omega)) (fun _ => ⟨rfl, R⟩) rfl hz' hq (by omega)⟩))
  · refine kx_isN h0 h1 (br_t rfl ?_)
    unfold wpY_risingOf
    dsimp only
    exact ky_isN h2 (br_f kx_1n0 ⟨rfl, R⟩)
