/-! the reference: parts, sizes, least numbers of parts -/
theorem ky_bit {s i : Nat} (hs : s < 2097152) (hi : i < 32) : (nI s >>> (nI i &&& 31)) &&& 1 = nI (s / 2 ^ i % 2) := by
  rw [kx_shr hs hi, pk_andN (Nat.lt_of_le_of_lt (Nat.div_le_self _ _) (by omega)) 1 (by decide)]
theorem ky_tb {s i : Nat} (h : s / 2 ^ i % 2 = 1) : s.testBit i = true := by rw [Nat.testBit_eq_decide_div_mod_eq, decide_eq_true h]
theorem ky_fb {s i : Nat} (h : ¬ s / 2 ^ i % 2 = 1) : s.testBit i = false := by rw [Nat.testBit_eq_decide_div_mod_eq, decide_eq_false h]
theorem ky_ptbad {l : Nat → Nat} {up : Bool} {M : Nat → Bool} {n i e : Nat} (hi : i < n) (hM : M i = true) (hp : kv_pw l up M i e) (hf : ¬ kv_fit up (l i) e) : ¬ kv_pt l up M n := by
  intro h
  obtain ⟨e2, h2⟩ := kv_pt_le (m := i + 1) (by omega) h
  rcases h2 with ⟨_, _, e', h3, h4⟩ | ⟨h3, _⟩
  · rw [kv_pw_fun h3 hp] at h4
    exact hf h4
  · rw [hM] at h3
    exact Bool.noConfusion h3
theorem ky_andn {t p : Nat} (h : p &&& t = p) : nI t &&& (nI p ^^^ (-1)) = nI (t ^^^ p) := by
  rw [← nx_xor]
  have h' : nI p &&& nI t = nI p := by rw [nx_and, h]
  generalize nI t = x at *
  generalize nI p = y at *
  apply Int32.toBitVec_inj.1
  apply BitVec.eq_of_getLsbD_eq
  intro i hi
  have hb : (y &&& x).toBitVec.getLsbD i = y.toBitVec.getLsbD i := by rw [h']
  rw [Int32.toBitVec_and, BitVec.getLsbD_and] at hb
  rw [Int32.toBitVec_and, BitVec.getLsbD_and, Int32.toBitVec_xor, BitVec.getLsbD_xor, Int32.toBitVec_xor, BitVec.getLsbD_xor]
  have h1 : (-1 : Int32).toBitVec.getLsbD i = true := (by decide +kernel : ∀ i, i < 32 → (-1 : Int32).toBitVec.getLsbD i = true) i hi
  rw [h1]
  generalize x.toBitVec.getLsbD i = a at *
  generalize y.toBitVec.getLsbD i = b at *
  revert hb
  cases a <;> cases b <;> decide
section
variable {f : Int32} {lt sz row cY sg nd : Nat → Int32}
theorem ky_part {post : Int32 → Prop} {l : Nat → Nat} {n s : Nat} (up : Bool) (hn : n ≤ 7) (hl : ∀ j, j < n → l j < 8) (hr : ∀ j, j < n → row j = nI (l j)) (hs : s < 128)
    (h1 : kv_pt l up (fun j => s.testBit j) n → post 1) (h0 : ¬ kv_pt l up (fun j => s.testBit j) n → post 0) : wpY_isPart post (f, lt, sz, row, cY, sg, nd) (nI s) (nI n) (kx_u up) := by
  have key : ∃ m, wY_isPart_15 post (nI s) (nI n) (kx_u up) f lt sz row cY sg nd m (nI (kv_in up)) (nI 0) := by
    refine loop_0 (fun m i (t : Int32) => wY_isPart_15 post (nI s) (nI n) (kx_u up) f lt sz row cY sg nd m t (nI i)) (fun i t => ∃ e, t = nI e ∧ e ≤ 8 ∧ kv_pw l up (fun j => s.testBit j) i e) n _ ⟨kv_in up, rfl, kv_in8 up, rfl⟩ ?_ ?_
    · rintro m t ⟨e, rfl, _, hp⟩
      exact pk_le n n (fun _ => h1 ⟨e, hp⟩) (fun z => absurd z (by omega)) rfl rfl (by omega) (by omega)
    · rintro m i t hi ⟨e, rfl, he, hp⟩ ih
      have hli := hl i hi
      have er : row (nI i).toNatClampNeg = nI (l i) := by rw [nI_clamp (by omega)]; exact hr i hi
      have hv : vp_in (nI i) 7 := pk_in i 7 (by omega) rfl (by omega)
      have hb2 : s / 2 ^ i % 2 < 2 := Nat.mod_lt _ (by decide)
      refine pk_le n i (fun z => absurd z (by omega)) (fun _ => ?_) rfl rfl (by omega) (by omega)
      refine pk_eq (s / 2 ^ i % 2) 1 (fun b => ?_) (fun b => ?_) (ky_bit (by omega) (by omega)) rfl (by omega) (by omega)
      · have hb := ky_tb b
        cases up with
        | true =>
          refine br_f kx_1n0 ⟨hv, pk_le e (l i) (fun z => ⟨hv, ?_⟩) (fun z => h0 (ky_ptbad hi hb hp (fun y => by rw [kv_fitT] at y; omega))) rfl er (by omega) (by omega)⟩
          exact nm_r er (nm_r (nI_1 i) (ih _ ⟨l i, rfl, by omega, Or.inl ⟨hb, rfl, e, hp, z⟩⟩))
        | false =>
          refine br_t rfl ⟨hv, pk_lt (l i) e (fun z => ⟨hv, ?_⟩) (fun z => h0 (ky_ptbad hi hb hp (fun y => by rw [kv_fitF] at y; omega))) er rfl (by omega) (by omega)⟩
          exact nm_r er (nm_r (nI_1 i) (ih _ ⟨l i, rfl, by omega, Or.inl ⟨hb, rfl, e, hp, z⟩⟩))
      · exact nm_r (nI_1 i) (ih _ ⟨e, rfl, he, Or.inr ⟨ky_fb b, hp⟩⟩)
  cases up with
  | true => exact br_f kx_1n0 key
  | false => exact br_t rfl key
theorem ky_size {post : Int32 → Prop} {s : Nat} (hs : s < 128) (h : post (nI (kv_sz s))) : wpY_size post (f, lt, sz, row, cY, sg, nd) (nI s) := by
  refine loop_0 (fun m i (t : Int32) => wY_size_4 post (nI s) f lt sz row cY sg nd m t (nI i)) (fun i t => t = nI (kr_ct (fun j => s.testBit j) i)) 7 0 rfl ?_ ?_
  · intro m t ht
    subst ht
    exact pk_le 7 7 (fun _ => h) (fun z => absurd z (by omega)) rfl rfl (by omega) (by omega)
  · intro m i t hi ht ih
    subst ht
    refine pk_le 7 i (fun z => absurd z (by omega)) (fun _ => ?_) rfl rfl (by omega) (by omega)
    refine nm_r (e' := nI (kr_ct (fun j => s.testBit j) (i + 1))) ?_ (nm_r (nI_1 i) (ih _ rfl))
    rw [ky_bit (by omega) (by omega), nI_add]
    show nI _ = nI (kr_ct (fun j => s.testBit j) i + (if s.testBit i then 1 else 0))
    have hb2 : s / 2 ^ i % 2 < 2 := Nat.mod_lt _ (by decide)
    by_cases b : s / 2 ^ i % 2 = 1
    · rw [ky_tb b, b]; rfl
    · rw [ky_fb b]
      have : s / 2 ^ i % 2 = 0 := by omega
      rw [this]; rfl
end
theorem ky_1n {n : Nat} (hn : n ≤ 7) : (1 : Int32) <<< (nI n &&& 31) = nI (2 ^ n) := by
  have h : 2 ^ n ≤ 2 ^ 7 := Nat.pow_le_pow_right (by decide) hn
  have := pk_shlN (n := 1) (nI n &&& 31) n (s_l n (by omega)) (by omega)
  rw [Nat.one_mul] at this
  exact this
theorem ky_nar1 : vp_nar .boolean 1 = 1 := rfl
theorem ky_nar0 : vp_nar .boolean 0 = 0 := rfl
def ky_sgl (l : Nat → Nat) (up : Bool) (n : Nat) (sg : Nat → Int32) (s : Nat) : Prop := (kv_pt l up (fun j => s.testBit j) n → sg s = 1) ∧ (¬ kv_pt l up (fun j => s.testBit j) n → sg s = 0)
def ky_best (l : Nat → Nat) (up : Bool) (n k t r : Nat) : Prop := r ≤ 7 ∧ (r = 0 ∨ ∃ s, s < t ∧ kv_D l up n k s ∧ kv_sz s = r) ∧ ∀ s, s < t → kv_D l up n k s → kv_sz s ≤ r
theorem ky_b_keep {l : Nat → Nat} {up : Bool} {n k t r : Nat} (h : ky_best l up n k t r) (hk : kv_D l up n k t → kv_sz t ≤ r) : ky_best l up n k (t + 1) r := by
  refine ⟨h.1, ?_, fun s hs hd => ?_⟩
  · rcases h.2.1 with e | ⟨s, hs, q⟩
    · exact Or.inl e
    · exact Or.inr ⟨s, by omega, q⟩
  · by_cases e : s = t
    · rw [e] at hd ⊢; exact hk hd
    · exact h.2.2 s (by omega) hd
theorem ky_b_new {l : Nat → Nat} {up : Bool} {n k t r : Nat} (h : ky_best l up n k t r) (hd : kv_D l up n k t) (hr : r < kv_sz t) : ky_best l up n k (t + 1) (kv_sz t) := by
  refine ⟨kr_ct_le _ _, Or.inr ⟨t, by omega, hd, rfl⟩, fun s hs hd' => ?_⟩
  by_cases e : s = t
  · rw [e]; exact Nat.le_refl _
  · have := h.2.2 s (by omega) hd'; omega
theorem ky_b1 (l : Nat → Nat) (up : Bool) (n k : Nat) : ky_best l up n k 1 0 := by
  refine ⟨by omega, Or.inl rfl, fun s hs _ => ?_⟩
  have : s = 0 := by omega
  subst this
  exact Nat.le_of_eq rfl
/-- the inner loop: all parts of the set t -/
theorem ky_inner {post : Int32 → SY → Prop} {J20 : Int32 → Int32 → (Nat → Int32) → (Nat → Int32) → (Nat → Int32) → (Nat → Int32) → (Nat → Int32) → (Nat → Int32) → Prop} {f x3 x4 : Int32} {lt sz row cY sg nd : Nat → Int32}
    {l : Nat → Nat} {n k t r : Nat} {N : Nat → Nat} {up : Bool} (hn : n ≤ 7) (hk : k ≤ 3) (ht1 : 1 ≤ t) (ht : t < 2 ^ n) (hN : ∀ s, s < t → nd s = nI (N s) ∧ kv_nd l up n s (N s)) (h8 : nd t = 8)
    (hsg : ∀ s, 1 ≤ s → s < t + 1 → ky_sgl l up n sg s) (hb : ky_best l up n k t r)
    (H : ∀ r' nd' v, ky_best l up n k (t + 1) r' → (∀ s, s < t → nd' s = nI (N s)) → nd' t = nI v → kv_nd l up n t v → J20 (nI r') (nI (t + 1)) lt sz row cY sg nd') :
    ∃ m, wY_most_58 post J20 (nI k) x3 x4 (nI r) (nI t) f m (nI t) lt sz row cY sg nd := by
  have h128 : t < 128 := Nat.lt_of_lt_of_le ht (Nat.pow_le_pow_right (by decide) hn)
  have hvt : vp_in (nI t) 128 := pk_in t 128 h128 rfl (by omega)
  have hct : (nI t).toNatClampNeg = t := nI_clamp (by omega)
  refine loop_m (fun m (s : Nat × (Nat → Int32)) => wY_most_58 post J20 (nI k) x3 x4 (nI r) (nI t) f m (nI s.1) lt sz row cY sg s.2)
    (fun s => s.1 ≤ t ∧ s.1 &&& t = s.1 ∧ (∀ x, x < t → s.2 x = nI (N x)) ∧ ∃ v, s.2 t = nI v ∧ v ≤ 8 ∧ ∀ j, j < 8 → (v ≤ j ↔ ∃ q, q ≠ 0 ∧ q &&& t = q ∧ s.1 < q ∧ kv_pt l up (fun i => q.testBit i) n ∧ N (t ^^^ q) + 1 ≤ j))
    (fun s => s.1) ?_ (t, nd) ⟨Nat.le_refl _, Nat.and_self t, fun x hx => (hN x hx).1, 8, h8, by omega, fun j hj => ⟨fun z => absurd z (by omega), ?_⟩⟩
  · rintro m ⟨p, nd1⟩ ⟨hp, hsub, hlo, v, ev, hv8, hv⟩ ih
    have hp' : p ≤ t := hp
    have hsub' : p &&& t = p := hsub
    have hlo' : ∀ x, x < t → nd1 x = nI (N x) := hlo
    have ev' : nd1 t = nI v := ev
    have evt : nd1 (nI t).toNatClampNeg = nI v := by rw [hct]; exact ev'
    refine pk_le p 0 (fun a => ?_) (fun a => ?_) rfl rfl (by omega) (by omega)
    · have hnd : kv_nd l up n t v := by
        refine kv_nds (N := N) ht (by omega) (fun q q0 qs => (hN _ ?_).2) hv8 (fun j hj => ?_)
        · have hq : q ≤ t := by rw [← qs]; exact Nat.and_le_right
          have := kv_xsub 7 q t (by omega) qs
          omega
        · rw [hv j hj]
          constructor
          · rintro ⟨q, q0, qs, _, qp, qn⟩; exact ⟨q, q0, qs, qp, qn⟩
          · rintro ⟨q, q0, qs, qp, qn⟩; exact ⟨q, q0, qs, by show p < q; omega, qp, qn⟩
      have hD := hnd.2 k (by omega)
      have hsz : kv_sz t ≤ 7 := kr_ct_le _ _
      have hr7 := hb.1
      refine ky_size h128 ⟨hvt, pk_lt k v (fun c => ?_) (fun c => ?_) rfl evt (by omega) (by omega)⟩
      · exact nm_r (nI_1 t) (H r nd1 v (ky_b_keep hb (fun d => by have := hD.mpr d; omega)) hlo' ev' hnd)
      · refine pk_le (kv_sz t) r (fun d => ?_) (fun d => ?_) rfl rfl (by omega) (by omega)
        · exact nm_r (nI_1 t) (H r nd1 v (ky_b_keep hb (fun _ => d)) hlo' ev' hnd)
        · exact nm_r (nI_1 t) (H _ nd1 v (ky_b_new hb (hD.mp c) d) hlo' ev' hnd)
    · have hvp : vp_in (nI p) 128 := pk_in p 128 (by omega) rfl (by omega)
      have hcp : (nI p).toNatClampNeg = p := nI_clamp (by omega)
      have en : (nI p - 1) &&& nI t = nI ((p - 1) &&& t) := by rw [show (1 : Int32) = nI 1 from rfl, pk_sub (show 1 ≤ p by omega), nx_and]
      have hlt' : (p - 1) &&& t < p := Nat.lt_of_le_of_lt Nat.and_le_left (by omega)
      have hlet : (p - 1) &&& t ≤ t := Nat.and_le_right
      have hsub2 : ((p - 1) &&& t) &&& t = (p - 1) &&& t := by rw [Nat.and_assoc, Nat.and_self]
      have hq : ∀ q, q ≠ 0 → q &&& t = q → ((p - 1) &&& t < q ↔ q = p ∨ p < q) := by
        intro q q0 qs
        constructor
        · intro h
          by_cases c : q < p
          · have := kv_next 7 p t q (by omega) hsub' qs c
            omega
          · omega
        · rintro (h | h) <;> omega
      have xs : (t ^^^ p) + p = t := kv_xsub 7 p t (by omega) hsub'
      have hxt : t ^^^ p < t := by omega
      have ex : nI t &&& (nI p ^^^ (-1)) = nI (t ^^^ p) := ky_andn hsub'
      have hvx : vp_in (nI t &&& (nI p ^^^ (-1))) 128 := pk_in (t ^^^ p) 128 (by omega) ex (by omega)
      have hN8 := (hN _ hxt).2.1
      have end1 : nd1 (nI t &&& (nI p ^^^ (-1))).toNatClampNeg + 1 = nI (N (t ^^^ p) + 1) := by
        rw [pk_cl (t ^^^ p) ex (by omega), hlo' _ hxt, nI_1]
      obtain ⟨s1, s0⟩ := hsg p (by omega) (by omega)
      refine ⟨hvp, ?_⟩
      have keep : (∀ j, j < 8 → (v ≤ j ↔ ∃ q, q ≠ 0 ∧ q &&& t = q ∧ (p - 1) &&& t < q ∧ kv_pt l up (fun i => q.testBit i) n ∧ N (t ^^^ q) + 1 ≤ j)) →
          ∀ y, y = (nI p - 1) &&& nI t → wY_most_58 post J20 (nI k) x3 x4 (nI r) (nI t) f m y lt sz row cY sg nd1 :=
        fun hh => nm_r en (ih ((p - 1) &&& t, nd1) ⟨hlet, hsub2, hlo', v, ev', hv8, hh⟩ hlt')
      by_cases pt : kv_pt l up (fun i => p.testBit i) n
      · have e1 : ¬ sg (nI p).toNatClampNeg = 0 := by rw [hcp, s1 pt]; exact kx_1n0
        refine br_f e1 ⟨hvx, hvt, pk_le v (N (t ^^^ p) + 1) (fun c => keep fun j hj => ?_) (fun c => ⟨hvx, hvt, nm_e (nm_r en ?_)⟩) evt end1 (by omega) (by omega)⟩
        · rw [hv j hj]
          constructor
          · rintro ⟨q, q0, qs, ql, qp, qn⟩
            have ql' : p < q := ql
            exact ⟨q, q0, qs, (hq q q0 qs).mpr (Or.inr ql'), qp, qn⟩
          · rintro ⟨q, q0, qs, ql, qp, qn⟩
            rcases (hq q q0 qs).mp ql with e | e
            · subst e
              obtain ⟨q', h⟩ := (hv j hj).mp (by omega)
              exact ⟨q', h⟩
            · exact ⟨q, q0, qs, e, qp, qn⟩
        · refine ih ((p - 1) &&& t, _) ⟨hlet, hsub2, fun x hx => ?_, N (t ^^^ p) + 1, ?_, by omega, fun j hj => ?_⟩ hlt'
          · show upd nd1 (nI t).toNatClampNeg _ x = nI (N x)
            rw [hct, pk_un (by omega)]
            exact hlo' x hx
          · show upd nd1 (nI t).toNatClampNeg _ t = nI (N (t ^^^ p) + 1)
            rw [hct, pk_us]
            exact end1
          · constructor
            · intro h
              exact ⟨p, by omega, hsub', hlt', pt, h⟩
            · rintro ⟨q, q0, qs, ql, qp, qn⟩
              rcases (hq q q0 qs).mp ql with e | e
              · subst e; exact qn
              · have := (hv j hj).mpr ⟨q, q0, qs, e, qp, qn⟩
                omega
      · have e0 : sg (nI p).toNatClampNeg = 0 := by rw [hcp]; exact s0 pt
        refine br_t e0 (keep fun j hj => ?_)
        rw [hv j hj]
        constructor
        · rintro ⟨q, q0, qs, ql, qp, qn⟩
          have ql' : p < q := ql
          exact ⟨q, q0, qs, (hq q q0 qs).mpr (Or.inr ql'), qp, qn⟩
        · rintro ⟨q, q0, qs, ql, qp, qn⟩
          rcases (hq q q0 qs).mp ql with e | e
          · subst e; exact absurd qp pt
          · exact ⟨q, q0, qs, e, qp, qn⟩
  · rintro ⟨q, q0, qs, ql, _⟩
    have : q ≤ t := by rw [← qs]; exact Nat.and_le_right
    have ql' : t < q := ql
    omega
theorem ky_most {post : Int32 → SY → Prop} {f : Int32} {lt sz row cY sg nd : Nat → Int32} {l : Nat → Nat} {w n k : Nat} (up : Bool) (hw : w < 2) (V : kx_V n l) (hk : k ≤ 3) (hz : sz w = nI n) (hlt : ∀ i, i < n → lt (7 * w + i) = nI (l i))
    (H : ∀ r row' sg' nd', kv_mx l up k n r → post (nI r) (f, lt, sz, row', cY, sg', nd')) : wpY_most post (f, lt, sz, row, cY, sg, nd) (nI w) (nI k) (kx_u up) := by
  have hn := V.1
  have hl := kx_V8 V
  have h2n : 2 ^ n ≤ 128 := Nat.pow_le_pow_right (n := 2) (by decide) hn
  have h1n : 1 ≤ 2 ^ n := Nat.pow_pos (by decide)
  unfold wpY_most
  dsimp only
  refine ky_take hw rfl hn hz hlt fun row' hr => ?_
  refine nm_e ?_
  refine pk_loop (fun m i (s : Int32 × (Nat → Int32) × (Nat → Int32)) => wY_most_20 post (nI k) (kx_u up) (nI n) f m s.1 (nI i) lt sz row' cY s.2.1 s.2.2)
    (fun t s => 1 ≤ t ∧ ∃ (N : Nat → Nat) (r : Nat), s.1 = nI r ∧ ky_best l up n k t r ∧ (∀ x, x < t → s.2.2 x = nI (N x) ∧ kv_nd l up n x (N x)) ∧ ∀ x, 1 ≤ x → x < t → ky_sgl l up n s.2.1 x)
    (2 ^ n) 1 (0, sg, upd nd 0 0) h1n ?_ ?_ ?_
  · refine ⟨Nat.le_refl _, fun _ => 0, 0, rfl, ky_b1 l up n k, fun x hx => ?_, fun x h1 h2 => absurd h1 (by omega)⟩
    have : x = 0 := by omega
    subst this
    exact ⟨(pk_us : upd nd 0 0 0 = 0), kv_nd0 l up n⟩
  · rintro m ⟨s1, s2, s3⟩ ⟨_, N, r, e, hb, _, _⟩
    have e' : s1 = nI r := e
    subst e'
    exact pk_le (2 ^ n) (2 ^ n) (fun _ => H r row' s2 s3 (kv_mxs hn hb.2.1 hb.2.2)) (fun z => absurd z (by omega)) (ky_1n hn) rfl (by omega) (by omega)
  · rintro m t ⟨s1, s2, s3⟩ ht ⟨ht1, N, r, e, hb, hN, hs⟩ ih
    have e' : s1 = nI r := e
    subst e'
    have ht1' : 1 ≤ t := ht1
    have hN' : ∀ x, x < t → s3 x = nI (N x) ∧ kv_nd l up n x (N x) := hN
    have hs' : ∀ x, 1 ≤ x → x < t → ky_sgl l up n s2 x := hs
    have hvt : vp_in (nI t) 128 := pk_in t 128 (by omega) rfl (by omega)
    have hct : (nI t).toNatClampNeg = t := nI_clamp (by omega)
    have go : ∀ b : Int32, ((kv_pt l up (fun j => t.testBit j) n → b = 1) ∧ (¬ kv_pt l up (fun j => t.testBit j) n → b = 0)) →
        ∃ m58, wY_most_58 post (wY_most_20 post (nI k) (kx_u up) (nI n) f m) (nI k) (kx_u up) (nI n) (nI r) (nI t) f m58 (nI t) lt sz row' cY (upd s2 t b) (upd s3 t 8) := by
      intro b hbb
      refine ky_inner (N := N) (l := l) (up := up) (n := n) hn hk ht1' ht (fun x hx => ⟨by rw [pk_un (by omega)]; exact (hN' x hx).1, (hN' x hx).2⟩) pk_us ?_ hb ?_
      · intro x h1 h2
        unfold ky_sgl
        by_cases e : x = t
        · rw [e, pk_us]; exact hbb
        · rw [pk_un e]; exact hs' x h1 (by omega)
      · intro r' nd' v hb' hlo hev hnd
        refine ih (nI r', upd s2 t b, nd') ⟨by omega, fun x => if x = t then v else N x, r', rfl, hb', fun x hx => ?_, fun x h1 h2 => ?_⟩
        · show nd' x = nI (if x = t then v else N x) ∧ kv_nd l up n x (if x = t then v else N x)
          by_cases e : x = t
          · rw [if_pos e, e]; exact ⟨hev, hnd⟩
          · rw [if_neg e]; exact ⟨hlo x (by omega), (hN' x (by omega)).2⟩
        · show ky_sgl l up n (upd s2 t b) x
          unfold ky_sgl
          by_cases e : x = t
          · rw [e, pk_us]; exact hbb
          · rw [pk_un e]; exact hs' x h1 (by omega)
    refine pk_le (2 ^ n) t (fun z => absurd z (by omega)) (fun _ => ?_) (ky_1n hn) rfl (by omega) (by omega)
    refine ky_part up hn hl hr (by omega) (fun p => ⟨hvt, nm_e ⟨hvt, nm_e ?_⟩⟩) (fun p => ⟨hvt, nm_e ⟨hvt, nm_e ?_⟩⟩)
    · rw [hct, ky_nar1]
      exact go 1 ⟨fun _ => rfl, fun z => absurd p z⟩
    · rw [hct, ky_nar0]
      exact go 0 ⟨fun z => absurd z p, fun _ => rfl⟩
