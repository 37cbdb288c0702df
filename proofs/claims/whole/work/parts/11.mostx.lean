/-! the component: the most places covered, over all ways -/
def kx_u (up : Bool) : Int32 := match up with
  | true => 1
  | false => 0
theorem kv_in8 (up : Bool) : kv_in up ≤ 8 := by cases up <;> decide
theorem kx_clear {post : SX → Prop} {fc : Int32} {cX sz fd en : Nat → Int32} (up : Bool) (H : ∀ en', (∀ q, q < 4 → en' q = nI (kv_in up)) → post (fc, cX, sz, fd, en')) : wpX_clearEnds post (fc, cX, sz, fd, en) (kx_u up) := by
  refine loop_0 (fun m i s => wX_clearEnds_2 post (kx_u up) fc m (nI i) cX sz fd s) (fun i s => ∀ q, q < i → s q = nI (kv_in up)) 4 en (fun _ h => absurd h (by omega)) ?_ ?_
  · intro m s hs
    exact pk_le 4 4 (fun _ => H s hs) (fun z => absurd z (by omega)) rfl rfl (by omega) (by omega)
  · intro m i s hi hs ih
    refine pk_le 4 i (fun z => absurd z (by omega)) (fun _ => ?_) rfl rfl (by omega) (by omega)
    have hv : vp_in (nI i) 4 := pk_in i 4 (by omega) rfl (by omega)
    have go : ∀ x : Int32, x = nI (kv_in up) → ∀ q, q < i + 1 → upd s (nI i).toNatClampNeg x q = nI (kv_in up) := by
      intro x ex q hq
      rw [nI_clamp (show i < 2 ^ 31 by omega)]
      by_cases e : q = i
      · rw [e, pk_us]; exact ex
      · rw [pk_un e]; exact hs q (by omega)
    cases up with
    | true => exact br_f kx_1n0 ⟨hv, nm_e (nm_r (nI_1 i) (ih _ (go _ rfl)))⟩
    | false => exact br_t rfl ⟨hv, nm_e (nm_r (nI_1 i) (ih _ (go _ rfl)))⟩
theorem kv_ct_t {a : Nat → Nat} {i : Nat} (h : a i ≠ 0) : kv_ct a (i + 1) = kv_ct a i + 1 := by
  show kr_ct _ i + (if decide (a i ≠ 0) then 1 else 0) = _
  rw [decide_eq_true h]
  rfl
theorem kv_ct_f {a : Nat → Nat} {i : Nat} (h : a i = 0) : kv_ct a (i + 1) = kv_ct a i := by
  show kr_ct _ i + (if decide (a i ≠ 0) then 1 else 0) = _
  rw [decide_eq_false (fun z => z h)]
  rfl
theorem kv_fitT {x e : Nat} : kv_fit true x e ↔ e ≤ x := Iff.rfl
theorem kv_fitF {x e : Nat} : kv_fit false x e ↔ x < e := Iff.rfl
theorem kv_bad {l : Nat → Nat} {up : Bool} {a : Nat → Nat} {k n i e : Nat} (hi : i < n) (h1 : 1 ≤ a i) (hk : a i ≤ k) (hp : kv_pw l up (fun j => decide (a j = a i)) i e) (hf : ¬ kv_fit up (l i) e) : ¬ kv_ok l up a k n := by
  intro h
  obtain ⟨e2, h2⟩ := kv_pt_le (m := i + 1) (by omega) (h (a i) h1 hk)
  rcases h2 with ⟨_, _, e', h3, h4⟩ | ⟨h3, _⟩
  · rw [kv_pw_fun h3 hp] at h4
    exact hf h4
  · exact absurd rfl (of_decide_eq_false h3)
theorem kx_cov {post : Int32 → SX → Prop} {fc : Int32} {cX sz fd en : Nat → Int32} {l : Nat → Nat} {n k w : Nat} (up : Bool) (hn : n ≤ 7) (hl : ∀ j, j < n → l j < 8) (hk : k ≤ 3) (hw : w < 2 ^ 31)
    (H1 : kv_ok l up (kv_dd (k + 1) w) k n → ∀ en', post (nI (kv_ct (kv_dd (k + 1) w) n)) (fc, cX, sz, fd, en'))
    (H0 : ¬ kv_ok l up (kv_dd (k + 1) w) k n → ∀ en', post 0 (fc, cX, sz, fd, en')) : wpX_coveredIn post (fc, cX, sz, fd, en) (nI w) (nI (kw_cd l n)) (nI n) (nI k) (kx_u up) := by
  unfold wpX_coveredIn
  dsimp only
  refine kx_clear up fun en0 hen => ?_
  generalize ha : kv_dd (k + 1) w = a at *
  have had : ∀ i, w / (k + 1) ^ i % (k + 1) = a i := fun i => by rw [← ha]; rfl
  have hak : ∀ i, a i ≤ k := fun i => by rw [← had i]; exact Nat.le_of_lt_succ (Nat.mod_lt _ (by omega))
  have hwd : ∀ i, w / (k + 1) ^ i < 2 ^ 31 := fun i => Nat.lt_of_le_of_lt (Nat.div_le_self _ _) hw
  refine loop_0 (fun m i (t : Int32 × Int32 × (Nat → Int32)) => wX_coveredIn_15 post (nI (kw_cd l n)) (nI n) (nI k) (kx_u up) fc m t.1 t.2.1 (nI i) cX sz fd t.2.2)
    (fun i t => t.1 = nI (kv_ct a i) ∧ t.2.1 = nI (w / (k + 1) ^ i) ∧ ∃ E : Nat → Nat, (∀ q, q < 4 → E q ≤ 8 ∧ t.2.2 q = nI (E q)) ∧ ∀ q, 1 ≤ q → q ≤ k → kv_pw l up (fun j => decide (a j = q)) i (E q)) n (0, nI w, en0) ?_ ?_ ?_
  · refine ⟨rfl, ?_, fun _ => kv_in up, fun q hq => ⟨kv_in8 up, hen q hq⟩, fun q _ _ => rfl⟩
    show nI w = nI (w / 1)
    rw [Nat.div_one]
  · rintro m ⟨t1, t2, t3⟩ ⟨h1, h2, E, h3, h4⟩
    have h1' : t1 = nI (kv_ct a n) := h1
    subst h1'
    exact pk_le n n (fun _ => H1 (fun q q1 q2 => ⟨E q, h4 q q1 q2⟩) t3) (fun z => absurd z (by omega)) rfl rfl (by omega) (by omega)
  · rintro m i ⟨t1, t2, t3⟩ hi ⟨h1, h2, E, h3, h4⟩ ih
    have h1' : t1 = nI (kv_ct a i) := h1
    have h2' : t2 = nI (w / (k + 1) ^ i) := h2
    have h3' : ∀ q, q < 4 → E q ≤ 8 ∧ t3 q = nI (E q) := h3
    subst h1' h2'
    have hk1 : ¬ (nI k + 1) = 0 := by rw [nI_1]; exact nI_ne0 (by omega) (by omega)
    have ai := hak i
    have er : nI (w / (k + 1) ^ i) - nI (w / (k + 1) ^ i) / (nI k + 1) * (nI k + 1) = nI (a i) := by rw [nI_1, pk_rem (hwd i) (by omega) (by omega), had i]
    have ed : nI (w / (k + 1) ^ i) / (nI k + 1) = nI (w / (k + 1) ^ (i + 1)) := by rw [nI_1, pk_div (hwd i) (by omega) (by omega), Nat.div_div_eq_div_mul, Nat.pow_succ]
    refine pk_le n i (fun z => absurd z (by omega)) (fun _ => ⟨hk1, nm_r er ⟨hk1, nm_r ed ?_⟩⟩) rfl rfl (by omega) (by omega)
    have hct : kv_ct a i ≤ i := kr_ct_le _ _
    refine pk_le (a i) 0 (fun c => ?_) (fun c => ?_) rfl rfl (by omega) (by omega)
    · refine nm_r (nI_1 i) (ih (nI (kv_ct a i), nI (w / (k + 1) ^ (i + 1)), t3) ⟨?_, rfl, E, h3', fun q q1 q2 => Or.inr ⟨decide_eq_false (by omega), h4 q q1 q2⟩⟩)
      rw [kv_ct_f (by omega)]
    · have hli := hl i hi
      obtain ⟨hE, hen⟩ := h3' (a i) (by omega)
      have hv : vp_in (nI (a i)) 4 := pk_in (a i) 4 (by omega) rfl (by omega)
      have en' : t3 (nI (a i)).toNatClampNeg = nI (E (a i)) := by rw [nI_clamp (by omega)]; exact hen
      have bad : ¬ kv_fit up (l i) (E (a i)) → wX_coveredIn_95 post (wX_coveredIn_15 post (nI (kw_cd l n)) (nI n) (nI k) (kx_u up) fc m) (nI (kw_cd l n)) (nI n) (nI k) (kx_u up) (nI (kv_ct a i)) (nI (w / (k + 1) ^ (i + 1))) (nI i) (nI (a i)) (nI (l i)) 0 fc cX sz fd t3 :=
        fun hf => br_t rfl (H0 (kv_bad hi c ai (h4 (a i) c ai) hf) t3)
      have good : kv_fit up (l i) (E (a i)) → wX_coveredIn_95 post (wX_coveredIn_15 post (nI (kw_cd l n)) (nI n) (nI k) (kx_u up) fc m) (nI (kw_cd l n)) (nI n) (nI k) (kx_u up) (nI (kv_ct a i)) (nI (w / (k + 1) ^ (i + 1))) (nI i) (nI (a i)) (nI (l i)) 1 fc cX sz fd t3 := by
        intro hf
        refine br_f kx_1n0 ⟨hv, nm_e (nm_r (nI_1 _) (nm_r (nI_1 i) ?_))⟩
        refine ih (nI (kv_ct a i + 1), nI (w / (k + 1) ^ (i + 1)), _) ⟨?_, rfl, fun q => if q = a i then l i else E q, fun q hq => ?_, fun q q1 q2 => ?_⟩
        · rw [kv_ct_t (by omega)]
        · show (if q = a i then l i else E q) ≤ 8 ∧ upd t3 (nI (a i)).toNatClampNeg (nI (l i)) q = nI (if q = a i then l i else E q)
          rw [nI_clamp (show a i < 2 ^ 31 by omega)]
          by_cases e : q = a i
          · rw [if_pos e, e, pk_us]; exact ⟨by omega, rfl⟩
          · rw [if_neg e, pk_un e]; exact h3' q hq
        · show kv_pw l up (fun j => decide (a j = q)) (i + 1) (if q = a i then l i else E q)
          by_cases e : q = a i
          · rw [if_pos e]
            exact Or.inl ⟨decide_eq_true e.symm, rfl, E (a i), by rw [e]; exact h4 (a i) c ai, hf⟩
          · rw [if_neg e]
            exact Or.inr ⟨decide_eq_false (fun z => e z.symm), h4 q q1 q2⟩
      refine kx_let rfl rfl rfl hn hl hi ?_
      cases up with
      | true => exact br_f kx_1n0 ⟨hv, pk_lt (l i) (E (a i)) (fun z => bad (fun y => by rw [kv_fitT] at y; omega)) (fun z => good z) rfl en' (by omega) (by omega)⟩
      | false => exact br_t rfl ⟨hv, pk_le (E (a i)) (l i) (fun z => bad (fun y => by rw [kv_fitF] at y; omega)) (fun z => good z) en' rfl (by omega) (by omega)⟩
theorem kx_most {post : Int32 → SX → Prop} {fc : Int32} {cX sz fd en : Nat → Int32} {l : Nat → Nat} {n k : Nat} (up : Bool) (hn : n ≤ 7) (hl : ∀ j, j < n → l j < 8) (hk : k ≤ 3)
    (H : ∀ r en', kv_mx l up k n r → post (nI r) (fc, cX, sz, fd, en')) : wpX_mostCovered post (fc, cX, sz, fd, en) (nI (kw_cd l n)) (nI n) (nI k) (kx_u up) := by
  have hp : ∀ i, i ≤ 7 → (k + 1) ^ i ≤ 16384 := by
    intro i hi
    have h1 : (k + 1) ^ i ≤ 4 ^ i := Nat.pow_le_pow_left (by omega) i
    have h2 : 4 ^ i ≤ 4 ^ 7 := Nat.pow_le_pow_right (by decide) hi
    have h3 : 4 ^ 7 = 16384 := by decide
    omega
  have hpn := hp n hn
  unfold wpX_mostCovered
  dsimp only
  refine loop_0 (fun m i (s : Int32) => wX_mostCovered_6 post (nI (kw_cd l n)) (nI n) (nI k) (kx_u up) fc cX sz fd en m s (nI i)) (fun i s => s = nI ((k + 1) ^ i)) n 1 rfl ?_ ?_
  · intro m s hs
    subst hs
    refine pk_le n n (fun _ => ?_) (fun z => absurd z (by omega)) rfl rfl (by omega) (by omega)
    refine loop_0 (fun m i (t : Int32 × (Nat → Int32)) => wX_mostCovered_32 post (nI (kw_cd l n)) (nI n) (nI k) (kx_u up) (nI ((k + 1) ^ n)) m t.1 (nI i) fc cX sz fd t.2)
      (fun i t => ∃ r, t.1 = nI r ∧ r ≤ 7 ∧ (r = 0 ∨ ∃ w, w < i ∧ kv_ok l up (kv_dd (k + 1) w) k n ∧ kv_ct (kv_dd (k + 1) w) n = r) ∧ ∀ w, w < i → kv_ok l up (kv_dd (k + 1) w) k n → kv_ct (kv_dd (k + 1) w) n ≤ r)
      ((k + 1) ^ n) (0, en) ⟨0, rfl, by omega, Or.inl rfl, fun _ h => absurd h (by omega)⟩ ?_ ?_
    · rintro m ⟨t1, t2⟩ ⟨r, h1, h2, h3, h4⟩
      have h1' : t1 = nI r := h1
      subst h1'
      exact pk_le _ _ (fun _ => H r t2 (kv_mxw h3 h4)) (fun z => absurd z (by omega)) rfl rfl (by omega) (by omega)
    · rintro m i ⟨t1, t2⟩ hi ⟨r, h1, h2, h3, h4⟩ ih
      have h1' : t1 = nI r := h1
      subst h1'
      refine pk_le _ i (fun z => absurd z (by omega)) (fun _ => ?_) rfl rfl (by omega) (by omega)
      have hct : kv_ct (kv_dd (k + 1) i) n ≤ n := kr_ct_le _ _
      refine kx_cov up hn hl hk (by omega) (fun hok en' => ?_) (fun hno en' => ?_)
      · refine pk_le (kv_ct (kv_dd (k + 1) i) n) r (fun c => ?_) (fun c => ?_) rfl rfl (by omega) (by omega)
        · refine nm_r (nI_1 i) (ih (nI r, en') ⟨r, rfl, h2, ?_, fun w hw hok' => ?_⟩)
          · rcases h3 with e | ⟨w, hw, q⟩
            · exact Or.inl e
            · exact Or.inr ⟨w, by omega, q⟩
          · by_cases e : w = i
            · rw [e]; exact c
            · exact h4 w (by omega) hok'
        · refine nm_r (nI_1 i) (ih (nI (kv_ct (kv_dd (k + 1) i) n), en') ⟨_, rfl, by omega, Or.inr ⟨i, by omega, hok, rfl⟩, fun w hw hok' => ?_⟩)
          by_cases e : w = i
          · rw [e]; exact Nat.le_refl _
          · have := h4 w (by omega) hok'; omega
      · refine pk_le 0 r (fun c => ?_) (fun z => absurd z (by omega)) rfl rfl (by omega) (by omega)
        refine nm_r (nI_1 i) (ih (nI r, en') ⟨r, rfl, h2, ?_, fun w hw hok' => ?_⟩)
        · rcases h3 with e | ⟨w, hw, q⟩
          · exact Or.inl e
          · exact Or.inr ⟨w, by omega, q⟩
        · by_cases e : w = i
          · rw [e] at hok'; exact absurd hok' hno
          · exact h4 w (by omega) hok'
  · intro m i s hi hs ih
    subst hs
    refine pk_le n i (fun z => absurd z (by omega)) (fun _ => ?_) rfl rfl (by omega) (by omega)
    refine nm_r (e' := nI ((k + 1) ^ (i + 1))) ?_ (nm_r (nI_1 i) (ih _ rfl))
    rw [nI_1, pk_mul, Nat.pow_succ]
