/-! turn, letter, code, descents -/
def kx_tn (l : Nat → Nat) (n : Nat) : Nat → Nat := fun j => 8 - l (n - 1 - j)
theorem kx_tnV {n : Nat} {l : Nat → Nat} (V : kx_V n l) : kx_V n (kx_tn l n) :=
  ⟨V.1, fun i hi => by have := V.2 (n - 1 - i) (by omega); show 1 ≤ 8 - l (n - 1 - i) ∧ 8 - l (n - 1 - i) ≤ 7; omega⟩
theorem kx_turn {post : Int32 → SX → Prop} {fc : Int32} {cX sz fd en : Nat → Int32} {w n : Nat} {l : Nat → Nat} (hw : w < 2) (V : kx_V n l) (hz : sz w = nI n) (hc : cX w = nI (kw_cd l n))
    (H : post (nI n) (fc, upd cX w (nI (kw_cd (kx_tn l n) n)), sz, fd, en)) : ∃ m, wX_turn_20 post (nI w) fc cX sz fd en m 0 (nI n - 1) := by
  have hv := kx_vw hw
  have hn := V.1
  have hz' : sz (nI w).toNatClampNeg = nI n := by rw [kx_cw hw]; exact hz
  have hc' : cX (nI w).toNatClampNeg = nI (kw_cd l n) := by rw [kx_cw hw]; exact hc
  refine ⟨n + 1, ?_⟩
  refine pk_loopD (fun fu m (s : Int32) => wX_turn_20 post (nI w) fc cX sz fd en fu s (nI m - 1)) (fun m s => m ≤ n ∧ s = nI (kw_cd (kx_tn l n) (n - m))) ?_ ?_ n 0 ⟨Nat.le_refl _, by rw [Nat.sub_self]; rfl⟩
  · intro m s hs
    have e : s = nI (kw_cd (kx_tn l n) n) := hs.2
    subst e
    refine br_t (by decide) ⟨hv, nm_e ⟨hv, ?_⟩⟩
    rw [hz', kx_cw hw]
    exact H
  · intro fu m s hs ih
    have hm := hs.1
    have e := hs.2
    subst e
    rw [nI_pred]
    refine br_f (nI_pos (by omega)) ⟨hv, hv, kx_let hc' hz' rfl hn (kx_V8 V) (by omega) ?_⟩
    refine nm_r (e' := nI (kw_cd (kx_tn l n) (n - m))) ?_ (nm_r (show nI m + (-1) = nI m - 1 from (Int32.sub_eq_add_neg _ _).symm) (ih _ ⟨by omega, rfl⟩))
    have hlm := V.2 m (by omega)
    have hb : kw_cd (kx_tn l n) (n - (m + 1)) < 2097152 := kx_c7 (n := n - (m + 1)) (by omega) (kw_cd_lt (fun i hi => kx_V8 (kx_tnV V) i (by omega)))
    rw [show (8 : Int32) = nI 8 from rfl, pk_sub (show l m ≤ 8 by omega), pk_shlN ((3 : Int32) &&& 31) 3 (by decide) (by omega), show (2 : Nat) ^ 3 = 8 from rfl, kw_or8 (by omega)]
    have e2 : n - m = (n - (m + 1)) + 1 := by omega
    rw [e2]
    show nI (8 * kw_cd (kx_tn l n) (n - (m + 1)) + (8 - l m)) = nI (8 * kw_cd (kx_tn l n) (n - (m + 1)) + (8 - l (n - 1 - (n - (m + 1)))))
    have e3 : n - 1 - (n - (m + 1)) = m := by omega
    rw [e3]
theorem ky_turn {post : Int32 → SY → Prop} {f : Int32} {lt sz row cY sg nd : Nat → Int32} {w n : Nat} {l : Nat → Nat} (hw : w < 2) (V : kx_V n l) (hr : ∀ i, i < n → row i = nI (l i))
    (H : ∀ lt', (∀ j, j < n → lt' (7 * w + j) = nI (kx_tn l n j)) → (∀ x, (∀ j, j < n → x ≠ 7 * w + j) → lt' x = lt x) → post (nI n) (f, lt', sz, row, cY, sg, nd)) :
    ∃ m, wY_turn_18 post (nI w) (nI n) f m 0 lt sz row cY sg nd := by
  have hn := V.1
  refine loop_0 (fun m i s => wY_turn_18 post (nI w) (nI n) f m (nI i) s sz row cY sg nd) (fun i s => (∀ j, j < i → s (7 * w + j) = nI (kx_tn l n j)) ∧ (∀ x, (∀ j, j < n → x ≠ 7 * w + j) → s x = lt x)) n lt
    ⟨fun _ h => absurd h (by omega), fun _ _ => rfl⟩ ?_ ?_
  · intro m s hs
    exact pk_le n n (fun _ => H s hs.1 hs.2) (fun z => absurd z (by omega)) rfl rfl (by omega) (by omega)
  · intro m i s hi hs ih
    refine pk_le n i (fun z => absurd z (by omega)) (fun _ => ?_) rfl rfl (by omega) (by omega)
    have e : nI n - 1 - nI i = nI (n - 1 - i) := by rw [show (1 : Int32) = nI 1 from rfl, pk_sub (show 1 ≤ n by omega), pk_sub (show i ≤ n - 1 by omega)]
    have e7 : 7 * nI w + nI i = nI (7 * w + i) := kx_7 rfl rfl
    refine ⟨pk_in (n - 1 - i) 7 (by omega) e (by omega), pk_in (7 * w + i) 14 (by omega) e7 (by omega), nm_e (nm_r (nI_1 i) ?_)⟩
    rw [pk_cl (7 * w + i) e7 (by omega), pk_cl (n - 1 - i) e (by omega)]
    have hv := V.2 (n - 1 - i) (by omega)
    rw [hr _ (by omega), show (8 : Int32) = nI 8 from rfl, pk_sub (show l (n - 1 - i) ≤ 8 by omega)]
    refine ih _ ⟨fun j hj => ?_, fun x hx => ?_⟩
    · by_cases c : j = i
      · rw [c, pk_us]; rfl
      · rw [pk_un (by omega)]
        exact hs.1 j (by omega)
    · rw [pk_un (hx i hi)]
      exact hs.2 x hx
theorem i_vc_turn {k : Nat} {u : SX} {v : SY} (I : i_Rel k u v) (hk : k + 3 ≤ 1536) (v1 : Int32) : wpX_turn (fun r u' => wpY_turn (fun r' v' => r' = r ∧ i_Rel (k + 3) u' v') v v1) u v1 := by
  obtain ⟨fc, cX, sz, fd, en, f, lt, row, cY, sg, nd, rfl, rfl, J⟩ := I
  have R : i_Rel (k + 3) (fc, cX, sz, fd, en) (f, lt, sz, row, cY, sg, nd) := kx_mk J
  unfold wpX_turn
  dsimp only
  rcases kx_w v1 with ⟨w, hw, rfl⟩ | ⟨h0, h1, h2⟩
  · obtain ⟨n, l, V, hz, hc, hlt⟩ := J w hw
    have hv := kx_vw hw
    have hn := V.1
    have hz' : sz (nI w).toNatClampNeg = nI n := by rw [kx_cw hw]; exact hz
    refine kx_isW hw (br_f kx_1n0 ⟨hv, ?_⟩)
    rw [hz']
    refine nm_e (kx_turn hw V hz hc ?_)
    unfold wpY_turn
    dsimp only
    refine ky_isW hw (br_t rfl ?_)
    refine ky_take hw rfl hn hz hlt fun row' hr => ?_
    refine ky_turn hw V hr fun lt' g1 g2 => ⟨rfl, kx_mk ?_⟩
    exact kx_Ju (n := n) (l := kx_tn l n) J hw (kx_tnV V) hz pk_us g1 (fun _ _ => rfl) (fun _ h => pk_un h) (fun x hx j hj => g2 _ (fun i hi => by omega))
  · refine kx_isN h0 h1 (br_t rfl ?_)
    unfold wpY_turn
    dsimp only
    exact ky_isN h2 (br_f kx_1n0 ⟨rfl, R⟩)
theorem i_vc_letter {k : Nat} {u : SX} {v : SY} (I : i_Rel k u v) (hk : k + 3 ≤ 1536) (v1 : Int32) (v2 : Int32) : wpX_letter (fun r => wpY_letter (fun r' => r' = r ∧ i_Rel (k + 3) u v) v v1 v2) u v1 v2 := by
  obtain ⟨fc, cX, sz, fd, en, f, lt, row, cY, sg, nd, rfl, rfl, J⟩ := I
  have R : i_Rel (k + 3) (fc, cX, sz, fd, en) (f, lt, sz, row, cY, sg, nd) := kx_mk J
  unfold wpX_letter wpY_letter
  dsimp only
  rcases kx_w v1 with ⟨w, hw, rfl⟩ | ⟨h0, h1, h2⟩
  · obtain ⟨n, l, V, hz, hc, hlt⟩ := J w hw
    have hv := kx_vw hw
    have hn := V.1
    have hz' : sz (nI w).toNatClampNeg = nI n := by rw [kx_cw hw]; exact hz
    have hc' : cX (nI w).toNatClampNeg = nI (kw_cd l n) := by rw [kx_cw hw]; exact hc
    refine kx_isW hw (br_f kx_1n0 ?_)
    by_cases a : v2 < 0
    · exact br_t a (ky_isW hw (br_t rfl (br_t a ⟨rfl, R⟩)))
    obtain ⟨i, hi, rfl⟩ := nI_of a
    refine br_f a ⟨hv, pk_lt i n (fun c => ?_) (fun c => ?_) rfl hz' hi (by omega)⟩
    · refine ⟨hv, hv, kx_let hc' hz' rfl hn (kx_V8 V) c ?_⟩
      refine ky_isW hw (br_t rfl (br_f a ⟨hv, pk_lt i n (fun _ => ?_) (fun z => absurd z (by omega)) rfl hz' hi (by omega)⟩))
      have e7 : 7 * nI w + nI i = nI (7 * w + i) := kx_7 rfl rfl
      refine ⟨pk_in (7 * w + i) 14 (by omega) e7 (by omega), ?_, R⟩
      rw [pk_cl (7 * w + i) e7 (by omega)]
      exact hlt i c
    · exact ky_isW hw (br_t rfl (br_f a ⟨hv, pk_lt i n (fun z => absurd z (by omega)) (fun _ => ⟨rfl, R⟩) rfl hz' hi (by omega)⟩))
  · exact kx_isN h0 h1 (br_t rfl (ky_isN h2 (br_f kx_1n0 ⟨rfl, R⟩)))
theorem i_vc_code {k : Nat} {u : SX} {v : SY} (I : i_Rel k u v) (hk : k + 3 ≤ 1536) (v1 : Int32) : wpX_code (fun r => wpY_code (fun r' v' => r' = r ∧ i_Rel (k + 3) u v') v v1) u v1 := by
  obtain ⟨fc, cX, sz, fd, en, f, lt, row, cY, sg, nd, rfl, rfl, J⟩ := I
  have R : i_Rel (k + 3) (fc, cX, sz, fd, en) (f, lt, sz, row, cY, sg, nd) := kx_mk J
  unfold wpX_code wpY_code
  dsimp only
  rcases kx_w v1 with ⟨w, hw, rfl⟩ | ⟨h0, h1, h2⟩
  · obtain ⟨n, l, V, hz, hc, hlt⟩ := J w hw
    have hv := kx_vw hw
    have hn := V.1
    have hc' : cX (nI w).toNatClampNeg = nI (kw_cd l n) := by rw [kx_cw hw]; exact hc
    refine kx_isW hw (br_f kx_1n0 ⟨hv, ?_⟩)
    refine ky_isW hw (br_t rfl ?_)
    refine ky_take hw rfl hn hz hlt fun row' hr => ?_
    exact ky_code rfl hn hr ⟨hc'.symm, kx_mk J⟩
  · exact kx_isN h0 h1 (br_t rfl (ky_isN h2 (br_f kx_1n0 ⟨rfl, R⟩)))
/-! descents -/
def kx_ds (l : Nat → Nat) (i : Nat) : Nat := kr_ct (fun j => decide (l (j + 1) < l j)) i
theorem kx_ds_t {l : Nat → Nat} {i : Nat} (h : l (i + 1) < l i) : kx_ds l (i + 1) = kx_ds l i + 1 := by
  show kr_ct _ i + (if decide (l (i + 1) < l i) then 1 else 0) = _
  rw [decide_eq_true h]
  rfl
theorem kx_ds_f {l : Nat → Nat} {i : Nat} (h : ¬ l (i + 1) < l i) : kx_ds l (i + 1) = kx_ds l i := by
  show kr_ct _ i + (if decide (l (i + 1) < l i) then 1 else 0) = _
  rw [decide_eq_false h]
  rfl
theorem i_vc_descents {k : Nat} {u : SX} {v : SY} (I : i_Rel k u v) (hk : k + 3 ≤ 1536) (v1 : Int32) : wpX_descents (fun r => wpY_descents (fun r' v' => r' = r ∧ i_Rel (k + 3) u v') v v1) u v1 := by
  obtain ⟨fc, cX, sz, fd, en, f, lt, row, cY, sg, nd, rfl, rfl, J⟩ := I
  have R : i_Rel (k + 3) (fc, cX, sz, fd, en) (f, lt, sz, row, cY, sg, nd) := kx_mk J
  unfold wpX_descents
  dsimp only
  rcases kx_w v1 with ⟨w, hw, rfl⟩ | ⟨h0, h1, h2⟩
  · obtain ⟨n, l, V, hz, hc, hlt⟩ := J w hw
    have hv := kx_vw hw
    have hn := V.1
    have hl8 := kx_V8 V
    have hz' : sz (nI w).toNatClampNeg = nI n := by rw [kx_cw hw]; exact hz
    have hc' : cX (nI w).toNatClampNeg = nI (kw_cd l n) := by rw [kx_cw hw]; exact hc
    refine kx_isW hw (br_f kx_1n0 ?_)
    generalize hP : (fun r => wpY_descents (fun r' v' => r' = r ∧ i_Rel (k + 3) (fc, cX, sz, fd, en) v') (f, lt, sz, row, cY, sg, nd) (nI w)) = post
    have hX : post (nI (kx_ds l (n - 1))) := by
      rw [← hP]
      show wpY_descents _ _ _
      unfold wpY_descents
      dsimp only
      refine ky_isW hw (br_t rfl ?_)
      refine ky_take hw rfl hn hz hlt fun row' hr => ?_
      refine loop_0 (fun m i (s : Int32) => wY_descents_21 _ (nI n) f lt sz row' cY sg nd m s (nI i)) (fun i s => s = nI (kx_ds l i)) (n - 1) 0 rfl ?_ ?_
      · intro m s hs
        subst hs
        exact kx_bs hn (by omega) (fun _ => ⟨rfl, kx_mk J⟩) (fun z => absurd z (by omega))
      · intro m i s hi hs ih
        subst hs
        have ha := hl8 i (by omega)
        have hb := hl8 (i + 1) (by omega)
        have ea : row' (nI i).toNatClampNeg = nI (l i) := by rw [nI_clamp (by omega)]; exact hr _ (by omega)
        have eb : row' (nI i + 1).toNatClampNeg = nI (l (i + 1)) := by rw [pk_cl (i + 1) (nI_1 i) (by omega)]; exact hr _ (by omega)
        refine kx_bs hn (by omega) (fun z => absurd z (by omega)) (fun _ => ?_)
        refine ⟨pk_in i 7 (by omega) rfl (by omega), pk_in (i + 1) 7 (by omega) (nI_1 i) (by omega), ?_⟩
        refine pk_le (l i) (l (i + 1)) (fun c => ?_) (fun c => ?_) ea eb (by omega) (by omega)
        · exact nm_r (nI_1 i) (ih _ (by rw [kx_ds_f (by omega)]))
        · exact nm_e (nm_r (nI_1 i) (ih _ (by rw [kx_ds_t c, nI_1])))
    refine loop_0 (fun m i (s : Int32) => wX_descents_13 post (nI w) fc cX sz fd en m s (nI i)) (fun i s => s = nI (kx_ds l i)) (n - 1) 0 rfl ?_ ?_
    · intro m s hs
      subst hs
      refine ⟨hv, ?_⟩
      rw [hz']
      exact kx_bs hn (by omega) (fun _ => hX) (fun z => absurd z (by omega))
    · intro m i s hi hs ih
      subst hs
      have ha := hl8 i (by omega)
      have hb := hl8 (i + 1) (by omega)
      refine ⟨hv, ?_⟩
      rw [hz', hc']
      refine kx_bs hn (by omega) (fun z => absurd z (by omega)) (fun _ => ⟨hv, hv, ?_⟩)
      refine kx_let rfl rfl rfl hn hl8 (by omega) ⟨hv, hv, ?_⟩
      refine kx_let rfl rfl (nI_1 i) hn hl8 (by omega) ?_
      refine pk_le (l i) (l (i + 1)) (fun c => ?_) (fun c => ?_) rfl rfl (by omega) (by omega)
      · exact nm_r (nI_1 i) (ih _ (by rw [kx_ds_f (by omega)]))
      · exact nm_e (nm_r (nI_1 i) (ih _ (by rw [kx_ds_t c, nI_1])))
  · refine kx_isN h0 h1 (br_t rfl ?_)
    unfold wpY_descents
    dsimp only
    exact ky_isN h2 (br_f kx_1n0 ⟨rfl, R⟩)
