/-! the relation: both words are the same on both sides; everything else is made anew by each call -/
def kx_J (cX sz lt : Nat → Int32) : Prop := ∀ w, w < 2 → ∃ (n : Nat) (l : Nat → Nat), kx_V n l ∧ sz w = nI n ∧ cX w = nI (kw_cd l n) ∧ ∀ i, i < n → lt (7 * w + i) = nI (l i)
def i_Rel (k : Nat) (u : SX) (v : SY) : Prop :=
  ∃ (fc : Int32) (cX sz fd en : Nat → Int32) (f : Int32) (lt row cY sg nd : Nat → Int32), u = (fc, cX, sz, fd, en) ∧ v = (f, lt, sz, row, cY, sg, nd) ∧ kx_J cX sz lt
theorem kx_mk {k : Nat} {fc f : Int32} {cX sz fd en lt row cY sg nd : Nat → Int32} (J : kx_J cX sz lt) : i_Rel k (fc, cX, sz, fd, en) (f, lt, sz, row, cY, sg, nd) :=
  ⟨fc, cX, sz, fd, en, f, lt, row, cY, sg, nd, rfl, rfl, J⟩
theorem i_up {k : Nat} {u : SX} {v : SY} (h : i_Rel k u v) : i_Rel (k + 3) u v := h
theorem i_vc0 : wpX_init (fun u => wpY_init (fun v => i_Rel 0 u v)) :=
  kx_mk (k := 0) (fun w _ => ⟨0, fun _ => 0, ⟨by omega, fun _ h => absurd h (by omega)⟩, rfl, rfl, fun _ h => absurd h (by omega)⟩)
theorem kx_Ju {cX sz lt cX' sz' lt' : Nat → Int32} {w n : Nat} {l : Nat → Nat} (J : kx_J cX sz lt) (hw : w < 2) (V : kx_V n l) (h1 : sz' w = nI n) (h2 : cX' w = nI (kw_cd l n))
    (h3 : ∀ i, i < n → lt' (7 * w + i) = nI (l i)) (g1 : ∀ x, x ≠ w → sz' x = sz x) (g2 : ∀ x, x ≠ w → cX' x = cX x) (g3 : ∀ x, x ≠ w → ∀ i, i < 7 → lt' (7 * x + i) = lt (7 * x + i)) : kx_J cX' sz' lt' := by
  intro x hx
  by_cases e : x = w
  · subst e
    exact ⟨n, l, V, h1, h2, h3⟩
  · obtain ⟨m, k, V', a, b, c⟩ := J x hx
    refine ⟨m, k, V', by rw [g1 x e, a], by rw [g2 x e, b], fun i hi => ?_⟩
    rw [g3 x e i (by have := V'.1; omega)]
    exact c i hi
theorem kx_bs {A B : Prop} {n i : Nat} (hn : n ≤ 7) (hi : i < 2 ^ 31) (f : n ≤ i + 1 → A) (g : i + 1 < n → B) : (nI n - 1 ≤ nI i → A) ∧ (¬ nI n - 1 ≤ nI i → B) := by
  have a := kx_sle (n := n) (m := 1) (j := i) (by omega) (by omega) hi
  exact ⟨fun h => f (a.mp h), fun h => g (by by_cases c : n ≤ i + 1; exact absurd (a.mpr c) h; omega)⟩
theorem kx_cw {w : Nat} (hw : w < 2) : (nI w).toNatClampNeg = w := nI_clamp (by omega)
theorem kx_vw {w : Nat} (hw : w < 2) : vp_in (nI w) 2 := vp_in_nI hw (by omega)
/-! add -/
theorem i_vc_add {k : Nat} {u : SX} {v : SY} (I : i_Rel k u v) (hk : k + 3 ≤ 1536) (v1 : Int32) (v2 : Int32) : wpX_add (fun r u' => wpY_add (fun r' v' => r' = r ∧ i_Rel (k + 3) u' v') v v1 v2) u v1 v2 := by
  obtain ⟨fc, cX, sz, fd, en, f, lt, row, cY, sg, nd, rfl, rfl, J⟩ := I
  have R : i_Rel (k + 3) (fc, cX, sz, fd, en) (f, lt, sz, row, cY, sg, nd) := kx_mk J
  unfold wpX_add wpY_add
  dsimp only
  rcases kx_w v1 with ⟨w, hw, rfl⟩ | ⟨h0, h1, h2⟩
  · obtain ⟨n, l, V, hz, hc, hlt⟩ := J w hw
    have hv := kx_vw hw
    have hn := V.1
    have hz' : sz (nI w).toNatClampNeg = nI n := by rw [kx_cw hw]; exact hz
    refine kx_isW hw (br_f kx_1n0 ?_)
    by_cases a : v2 < 1
    · exact br_t a (ky_isW hw (br_t rfl (br_t a ⟨rfl, R⟩)))
    refine br_f a ?_
    by_cases b : v2 ≤ 7
    · refine br_t b ⟨hv, ?_⟩
      have a0 : ¬ v2 < 0 := fun z => a (Int32.lt_of_lt_of_le z (by decide))
      obtain ⟨x, hx, rfl⟩ := nI_of2 (M := 7) (n := 7) (by decide) a0 b
      have hx1 : 1 ≤ x := by
        by_cases c : 1 ≤ x
        · exact c
        · have : x = 0 := by omega
          subst this
          exact absurd (show nI 0 < 1 by decide) a
      refine pk_lt n 7 (fun c => ?_) (fun c => ?_) hz' rfl (by omega) (by omega)
      · refine ⟨hv, hv, nm_e ⟨hv, hv, nm_e ⟨hv, ?_⟩⟩⟩
        refine ky_isW hw (br_t rfl (br_f a (br_t b ⟨hv, ?_⟩)))
        refine pk_eq n 7 (fun z => absurd z (by omega)) (fun _ => ?_) hz' rfl (by omega) (by omega)
        have e7 : 7 * nI w + sz (nI w).toNatClampNeg = nI (7 * w + n) := kx_7 rfl hz'
        refine ⟨hv, pk_in (7 * w + n) 14 (by omega) e7 (by omega), nm_e ⟨hv, hv, nm_e ⟨hv, rfl, ?_⟩⟩⟩
        rw [pk_cl (7 * w + n) e7 (by omega), kx_cw hw, hz, hc]
        refine kx_mk (kx_Ju (n := n + 1) (l := fun i => if i = n then x else l i) J hw ⟨by omega, fun i hi => ?_⟩ ?_ ?_ ?_ (fun _ h => pk_un h) (fun _ h => pk_un h) ?_)
        · show 1 ≤ (if i = n then x else l i) ∧ (if i = n then x else l i) ≤ 7
          by_cases e : i = n
          · rw [if_pos e]; exact ⟨hx1, hx⟩
          · rw [if_neg e]; exact V.2 i (by omega)
        · rw [pk_us, nI_1]
        · have hcl := kx_cl V
          rw [pk_us, pk_shlN ((3 : Int32) &&& 31) 3 (by decide) (by omega), show (2 : Nat) ^ 3 = 8 from rfl, kw_or8 (by omega)]
          show nI _ = nI (8 * kw_cd (fun i => if i = n then x else l i) n + (if n = n then x else l n))
          rw [if_pos rfl, kw_cd_congr (l := fun i => if i = n then x else l i) (l' := l) (fun i hi => if_neg (by omega))]
        · intro i hi
          show _ = nI (if i = n then x else l i)
          by_cases e : i = n
          · rw [if_pos e, e, pk_us]
          · rw [if_neg e, pk_un (by omega)]
            exact hlt i (by omega)
        · intro y hy i hi
          exact pk_un (by omega)
      · refine ky_isW hw (br_t rfl (br_f a (br_t b ⟨hv, ?_⟩)))
        exact pk_eq n 7 (fun _ => ⟨rfl, R⟩) (fun z => absurd z (by omega)) hz' rfl (by omega) (by omega)
    · exact br_f b (ky_isW hw (br_t rfl (br_f a (br_f b ⟨rfl, R⟩))))
  · exact kx_isN h0 h1 (br_t rfl (ky_isN h2 (br_f kx_1n0 ⟨rfl, R⟩)))
/-! drop -/
theorem i_vc_drop {k : Nat} {u : SX} {v : SY} (I : i_Rel k u v) (hk : k + 3 ≤ 1536) (v1 : Int32) : wpX_drop (fun r u' => wpY_drop (fun r' v' => r' = r ∧ i_Rel (k + 3) u' v') v v1) u v1 := by
  obtain ⟨fc, cX, sz, fd, en, f, lt, row, cY, sg, nd, rfl, rfl, J⟩ := I
  have R : i_Rel (k + 3) (fc, cX, sz, fd, en) (f, lt, sz, row, cY, sg, nd) := kx_mk J
  unfold wpX_drop wpY_drop
  dsimp only
  rcases kx_w v1 with ⟨w, hw, rfl⟩ | ⟨h0, h1, h2⟩
  · obtain ⟨n, l, V, hz, hc, hlt⟩ := J w hw
    have hv := kx_vw hw
    have hn := V.1
    have hz' : sz (nI w).toNatClampNeg = nI n := by rw [kx_cw hw]; exact hz
    refine kx_isW hw (br_f kx_1n0 ⟨hv, ?_⟩)
    refine pk_eq n 0 (fun a => ?_) (fun a => ?_) hz' rfl (by omega) (by omega)
    · refine ky_isW hw (br_t rfl ⟨hv, ?_⟩)
      exact pk_eq n 0 (fun _ => ⟨rfl, R⟩) (fun z => absurd a z) hz' rfl (by omega) (by omega)
    · obtain ⟨m, rfl⟩ : ∃ m, n = m + 1 := ⟨n - 1, by omega⟩
      have hcl := kx_cl V
      have hm := V.2 m (by omega)
      have hcd : kw_cd l (m + 1) = 8 * kw_cd l m + l m := rfl
      refine ⟨hv, nm_e ⟨hv, hv, nm_e ⟨hv, hv, nm_e ?_⟩⟩⟩
      refine ky_isW hw (br_t rfl ⟨hv, ?_⟩)
      refine pk_eq (m + 1) 0 (fun z => absurd z (by omega)) (fun _ => ?_) hz' rfl (by omega) (by omega)
      have es : upd sz (nI w).toNatClampNeg (sz (nI w).toNatClampNeg - 1) (nI w).toNatClampNeg = nI m := by rw [pk_us, hz', nI_pred]
      have e7 : 7 * nI w + upd sz (nI w).toNatClampNeg (sz (nI w).toNatClampNeg - 1) (nI w).toNatClampNeg = nI (7 * w + m) := kx_7 rfl es
      refine ⟨hv, hv, nm_e ⟨hv, pk_in (7 * w + m) 14 (by omega) e7 (by omega), ?_, ?_⟩⟩
      · rw [pk_cl (7 * w + m) e7 (by omega), hlt m (by omega), kx_cw hw, hc, pk_andN (by omega) 3 (by decide)]
        exact congrArg nI (by rw [hcd]; show l m = (8 * kw_cd l m + l m) % 8; omega)
      · rw [kx_cw hw]
        refine kx_mk (kx_Ju (n := m) (l := l) J hw ⟨by omega, fun i hi => V.2 i (by omega)⟩ ?_ ?_ (fun i hi => hlt i (by omega)) (fun _ h => pk_un h) (fun _ h => pk_un h) (fun _ _ _ _ => rfl))
        · rw [pk_us, hz, nI_pred]
        · rw [pk_us, hc, pk_shrN (by omega) ((3 : Int32) &&& 31) 3 (by decide)]
          exact congrArg nI (by rw [hcd]; show (8 * kw_cd l m + l m) / 8 = kw_cd l m; omega)
  · exact kx_isN h0 h1 (br_t rfl (ky_isN h2 (br_f kx_1n0 ⟨rfl, R⟩)))
/-! exchange, move -/
theorem ky_swap {post : SY → Prop} {f : Int32} {lt sz row cY sg nd : Nat → Int32} {w i n : Nat} {l : Nat → Nat} (hw : w < 2) (hn : n ≤ 7) (hi : i + 1 < n) (hlt : ∀ j, j < n → lt (7 * w + j) = nI (l j))
    (H : ∀ lt', (∀ j, j < n → lt' (7 * w + j) = nI (kw_sw l i j)) → (∀ x, x ≠ 7 * w + i → x ≠ 7 * w + i + 1 → lt' x = lt x) → post (f, lt', sz, row, cY, sg, nd)) :
    wpY_swap post (f, lt, sz, row, cY, sg, nd) (nI w) (nI i) := by
  have e : 7 * nI w + nI i = nI (7 * w + i) := kx_7 rfl rfl
  have e1 : 7 * nI w + nI i + 1 = nI (7 * w + i + 1) := by rw [e, nI_1]
  have v0 : vp_in (7 * nI w + nI i) 14 := pk_in (7 * w + i) 14 (by omega) e (by omega)
  have v1 : vp_in (7 * nI w + nI i + 1) 14 := pk_in (7 * w + i + 1) 14 (by omega) e1 (by omega)
  refine ⟨v0, nm_e ⟨v1, v0, nm_e ⟨v1, nm_e ?_⟩⟩⟩
  rw [pk_cl (7 * w + i) e (by omega), pk_cl (7 * w + i + 1) e1 (by omega), hlt i (by omega), show lt (7 * w + i + 1) = nI (l (i + 1)) from hlt (i + 1) hi]
  refine H _ (fun j hj => ?_) (fun x h1 h2 => by rw [pk_un h2, pk_un h1])
  show _ = nI (if j = i then l (i + 1) else if j = i + 1 then l i else l j)
  by_cases c : j = i
  · rw [if_pos c, c, pk_un (by omega), pk_us]
  · rw [if_neg c]
    by_cases d : j = i + 1
    · rw [if_pos d, d]
      exact pk_us
    · rw [if_neg d, pk_un (by omega), pk_un (by omega)]
      exact hlt j hj
theorem kx_Js {cX sz lt lt' : Nat → Int32} {w n i : Nat} {l : Nat → Nat} (J : kx_J cX sz lt) (hw : w < 2) (V : kx_V n l) (hi : i + 1 < n) (hz : sz w = nI n)
    (h1 : ∀ j, j < n → lt' (7 * w + j) = nI (kw_sw l i j)) (h2 : ∀ x, x ≠ 7 * w + i → x ≠ 7 * w + i + 1 → lt' x = lt x) : kx_J (upd cX w (nI (kw_cd (kw_sw l i) n))) sz lt' := by
  have hn := V.1
  refine kx_Ju (n := n) (l := kw_sw l i) J hw ⟨V.1, kw_sw_lt (P := fun x => 1 ≤ x ∧ x ≤ 7) V.2 hi⟩ hz pk_us h1 (fun _ _ => rfl) (fun _ h => pk_un h) (fun x hx j hj => h2 _ (by omega) (by omega))
theorem i_vc_exchange {k : Nat} {u : SX} {v : SY} (I : i_Rel k u v) (hk : k + 3 ≤ 1536) (v1 : Int32) (v2 : Int32) : wpX_exchange (fun r u' => wpY_exchange (fun r' v' => r' = r ∧ i_Rel (k + 3) u' v') v v1 v2) u v1 v2 := by
  obtain ⟨fc, cX, sz, fd, en, f, lt, row, cY, sg, nd, rfl, rfl, J⟩ := I
  have R : i_Rel (k + 3) (fc, cX, sz, fd, en) (f, lt, sz, row, cY, sg, nd) := kx_mk J
  unfold wpX_exchange
  dsimp only
  rcases kx_w v1 with ⟨w, hw, rfl⟩ | ⟨h0, h1, h2⟩
  · obtain ⟨n, l, V, hz, hc, hlt⟩ := J w hw
    have hv := kx_vw hw
    have hn := V.1
    have hz' : sz (nI w).toNatClampNeg = nI n := by rw [kx_cw hw]; exact hz
    have hc' : cX (nI w).toNatClampNeg = nI (kw_cd l n) := by rw [kx_cw hw]; exact hc
    refine kx_isW hw (br_f kx_1n0 ⟨hv, ?_⟩)
    rw [hz', hc']
    rcases kx_ix hn v2 with a | ⟨a, b, c⟩ | ⟨i, rfl, hi, a, b, c⟩
    · refine br_t a (br_t rfl ?_)
      unfold wpY_exchange
      dsimp only
      exact ky_isW hw (br_t rfl (br_t a (br_f kx_1n0 ⟨rfl, R⟩)))
    · rw [← hz'] at c
      refine br_f a (br_t b (br_t rfl ?_))
      unfold wpY_exchange
      dsimp only
      exact ky_isW hw (br_t rfl (br_f a ⟨hv, br_f c (br_f kx_1n0 ⟨rfl, R⟩)⟩))
    · rw [← hz'] at c
      refine br_f a (br_f b (br_f kx_1n0 ⟨hv, hv, ?_⟩))
      have Y : ∀ (post : Int32 → SY → Prop), (∀ lt' row', (∀ j, j < n → lt' (7 * w + j) = nI (kw_sw l i j)) → (∀ x, x ≠ 7 * w + i → x ≠ 7 * w + i + 1 → lt' x = lt x) →
          (kw_mm l n i → post 1 (f, lt', sz, row', cY, sg, nd)) ∧ (¬ kw_mm l n i → post 0 (f, lt', sz, row', cY, sg, nd))) → wpY_exchange post (f, lt, sz, row, cY, sg, nd) (nI w) (nI i) := by
        intro post H
        unfold wpY_exchange
        dsimp only
        refine ky_isW hw (br_t rfl (br_f a ⟨hv, br_t c (br_t rfl ?_)⟩))
        refine ky_take hw rfl hn hz hlt fun row' hr => ?_
        refine ky_may rfl rfl hn (kx_V8 V) hr hi (fun m => ?_) (fun m => ?_)
        · exact ky_swap hw hn hi hlt fun lt' g1 g2 => br_f kx_1n0 ((H lt' row' g1 g2).1 m)
        · exact ky_swap hw hn hi hlt fun lt' g1 g2 => br_t rfl ((H lt' row' g1 g2).2 m)
      refine kx_may rfl rfl rfl hn (kx_V8 V) hi (fun m => ?_) (fun m => ?_)
      · refine ⟨hv, hv, kx_exd rfl rfl rfl hn (kx_V8 V) hi ⟨hv, nm_e (br_f kx_1n0 ?_)⟩⟩
        refine Y _ fun lt' row' g1 g2 => ⟨fun _ => ⟨rfl, ?_⟩, fun z => absurd m z⟩
        rw [kx_cw hw]
        exact kx_mk (kx_Js J hw V hi hz g1 g2)
      · refine ⟨hv, hv, kx_exd rfl rfl rfl hn (kx_V8 V) hi ⟨hv, nm_e (br_t rfl ?_)⟩⟩
        refine Y _ fun lt' row' g1 g2 => ⟨fun z => absurd z m, fun _ => ⟨rfl, ?_⟩⟩
        rw [kx_cw hw]
        exact kx_mk (kx_Js J hw V hi hz g1 g2)
  · refine kx_isN h0 h1 (br_t rfl ?_)
    unfold wpY_exchange
    dsimp only
    exact ky_isN h2 (br_f kx_1n0 ⟨rfl, R⟩)
theorem i_vc_move {k : Nat} {u : SX} {v : SY} (I : i_Rel k u v) (hk : k + 3 ≤ 1536) (v1 : Int32) (v2 : Int32) : wpX_move (fun r u' => wpY_move (fun r' v' => r' = r ∧ i_Rel (k + 3) u' v') v v1 v2) u v1 v2 := by
  obtain ⟨fc, cX, sz, fd, en, f, lt, row, cY, sg, nd, rfl, rfl, J⟩ := I
  have R : i_Rel (k + 3) (fc, cX, sz, fd, en) (f, lt, sz, row, cY, sg, nd) := kx_mk J
  unfold wpX_move
  dsimp only
  rcases kx_w v1 with ⟨w, hw, rfl⟩ | ⟨h0, h1, h2⟩
  · obtain ⟨n, l, V, hz, hc, hlt⟩ := J w hw
    have hv := kx_vw hw
    have hn := V.1
    have hz' : sz (nI w).toNatClampNeg = nI n := by rw [kx_cw hw]; exact hz
    have hc' : cX (nI w).toNatClampNeg = nI (kw_cd l n) := by rw [kx_cw hw]; exact hc
    refine kx_isW hw (br_f kx_1n0 ⟨hv, ?_⟩)
    rw [hz', hc']
    rcases kx_ix hn v2 with a | ⟨a, b, c⟩ | ⟨i, rfl, hi, a, b, c⟩
    · refine br_t a (br_t rfl ?_)
      unfold wpY_move
      dsimp only
      exact ky_isW hw (br_t rfl (br_t a (br_f kx_1n0 ⟨rfl, R⟩)))
    · rw [← hz'] at c
      refine br_f a (br_t b (br_t rfl ?_))
      unfold wpY_move
      dsimp only
      exact ky_isW hw (br_t rfl (br_f a ⟨hv, br_f c (br_f kx_1n0 ⟨rfl, R⟩)⟩))
    · rw [← hz'] at c
      refine br_f a (br_f b (br_f kx_1n0 ⟨hv, hv, ?_⟩))
      have Y : ∀ (post : Int32 → SY → Prop), (kw_mm l n i → ∀ lt' row', (∀ j, j < n → lt' (7 * w + j) = nI (kw_sw l i j)) → (∀ x, x ≠ 7 * w + i → x ≠ 7 * w + i + 1 → lt' x = lt x) →
          post 1 (f, lt', sz, row', cY, sg, nd)) → (¬ kw_mm l n i → ∀ row', post (-4) (f, lt, sz, row', cY, sg, nd)) → wpY_move post (f, lt, sz, row, cY, sg, nd) (nI w) (nI i) := by
        intro post H1 H0
        unfold wpY_move
        dsimp only
        refine ky_isW hw (br_t rfl (br_f a ⟨hv, br_t c (br_t rfl ?_)⟩))
        refine ky_take hw rfl hn hz hlt fun row' hr => ?_
        refine ky_may rfl rfl hn (kx_V8 V) hr hi (fun m => br_f kx_1n0 ?_) (fun m => br_t rfl (H0 m row'))
        exact ky_swap hw hn hi hlt fun lt' g1 g2 => H1 m lt' row' g1 g2
      refine kx_may rfl rfl rfl hn (kx_V8 V) hi (fun m => br_f kx_1n0 ?_) (fun m => br_t rfl ?_)
      · refine ⟨hv, hv, kx_exd rfl rfl rfl hn (kx_V8 V) hi ⟨hv, nm_e ?_⟩⟩
        refine Y _ (fun _ lt' row' g1 g2 => ⟨rfl, ?_⟩) (fun z => absurd m z)
        rw [kx_cw hw]
        exact kx_mk (kx_Js J hw V hi hz g1 g2)
      · exact Y _ (fun z => absurd z m) (fun _ row' => ⟨rfl, kx_mk J⟩)
  · refine kx_isN h0 h1 (br_t rfl ?_)
    unfold wpY_move
    dsimp only
    exact ky_isN h2 (br_f kx_1n0 ⟨rfl, R⟩)
