/-! begin, part, complete, abort -/
section
variable {b l c nx : Nat} {K U : Nat → Nat} {nu co mk ob S w : Nat → Int32}
theorem bq_idx (j i : Nat) : nI j * 8 + nI i = nI (j * 8 + i) := by
  show nI j * nI 8 + nI i = _
  rw [pk_mul, nI_add]
theorem bq_c0n : (0 : Int32) = nI (bq_c 0) := by rw [bq_c0]; rfl
theorem bq_cz {p : Nat} (h : bq_V p) : nI (bq_c p) = 0 ↔ p = 0 := by
  constructor
  · intro e
    have := bq_lt h
    have e2 := bq_ni (a := bq_c p) (b := 0) (by omega) (by decide) e
    by_cases z : p = 0
    · exact z
    · have := bq_pos h z
      omega
  · intro e
    rw [e]
    exact bq_c0n.symm
theorem bq_pz {p : Nat} (h : bq_V p) : nI p = 0 ↔ p = 0 := by
  have := h.1
  constructor
  · intro e
    exact bq_ni (b := 0) (by omega) (by decide) e
  · intro e
    rw [e]
    rfl
/-- the parts of upload j taken away up to i -/
def bq_hi (S : Nat → Int32) (j i : Nat) : Nat → Int32 := fun n => if j * 8 ≤ n ∧ n < j * 8 + i then 0 else bq_h S n
theorem bq_hi0 (j : Nat) : bq_hi S j 0 = bq_h S := by
  funext n
  unfold bq_hi
  rw [if_neg (by omega)]
theorem bq_hi8 (j : Nat) : bq_hi S j 8 = bq_h (bq_up S j 0) := by
  funext n
  unfold bq_hi bq_h bq_up
  by_cases e : n / 8 = j
  · rw [if_pos (by omega), if_pos e, b_0]
    rfl
  · rw [if_neg (by omega), if_neg e]
theorem bq_hi1 (j i : Nat) : upd (bq_hi S j i) (j * 8 + i) 0 = bq_hi S j (i + 1) := by
  funext n
  unfold upd bq_hi
  by_cases e : n = j * 8 + i
  · rw [if_pos e, if_pos (by omega)]
  · rw [if_neg e]
    by_cases h : j * 8 ≤ n ∧ n < j * 8 + i
    · rw [if_pos h, if_pos (by omega)]
    · rw [if_neg h, if_neg (by omega)]
theorem by_beg_h {post : Int32 → SY → Prop} {j : Nat} {up : Nat → Int32} (hj : j < 3) (h : post (nI j) (nI (bq_c b), nI l, nI nx, nI c, nu, (fun i => nI (bq_c (K i))), ob, co, up, bq_hi S j 8, w)) : ∀ d i, i + d = 8 → wY_begin_38 post (nI j) (nI (bq_c b)) (nI l) (nI nx) (nI c) (d + 1) (nI i) nu (fun i => nI (bq_c (K i))) ob co up (bq_hi S j i) w := by
  intro d
  induction d with
  | zero =>
    intro i hi
    obtain rfl : i = 8 := by omega
    exact br_t (nI_le (a := 8) (b := 8) (by decide) (by decide)) h
  | succ d ih =>
    intro i hi
    refine br_f (nI_ge (b := 8) (by omega) (by decide)) ⟨?_, nm_r (?_ : _ = bq_hi S j (i + 1)) (nm_r (nI_1 i) (ih _ (by omega)))⟩
    · rw [bq_idx]
      exact vp_in_nI (by omega) (by decide)
    · rw [bq_idx, nI_clamp (by omega), bq_nar (Or.inl rfl)]
      exact bq_hi1 j i
theorem bx_beg_l {post : Int32 → SX → Prop} (hU : ∀ i, bq_V (U i)) (h1 : (∀ t, t < 3 → U t ≠ 0) → post (-2) (bq_x b l c nx K nu co mk U S w)) (h2 : ∀ j, j < 3 → U j = 0 → (∀ t, t < j → U t ≠ 0) → post (nI j) (bq_x b l c nx K nu co mk (bq_up U j b) (bq_up S j 0) w)) : ∀ d j, j + d = 3 → (∀ t, t < j → U t ≠ 0) → wX_begin_12 post (nI b) (nI l) (nI c) (nI nx) (fun i => nI (K i)) nu co mk (fun i => nI (U i)) S w (d + 1) (nI j) := by
  intro d
  induction d with
  | zero =>
    intro j hj hn
    obtain rfl : j = 3 := by omega
    exact br_t (nI_le (a := 3) (b := 3) (by decide) (by decide)) (h1 hn)
  | succ d ih =>
    intro j hj hn
    have hcl : (nI j).toNatClampNeg = j := nI_clamp (by omega)
    have hi : vp_in (nI j) 3 := vp_in_nI (by omega) (by decide)
    have hk : (fun i => nI (U i)) (nI j).toNatClampNeg = nI (U j) := congrArg (fun i => nI (U i)) hcl
    refine br_f (nI_ge (b := 3) (by omega) (by decide)) ⟨hi, ?_⟩
    by_cases z : U j = 0
    · refine br_t (hk.trans ((bq_pz (hU j)).mpr z)) ⟨hi, nm_r (?_ : _ = fun i => nI (bq_up U j b i)) ⟨hi, nm_r (?_ : _ = bq_up S j 0) (h2 j (by omega) z hn)⟩⟩
      · rw [hcl]
        exact bq_updN _ U j b (fun x => x) rfl
      · rw [hcl]
        rfl
    · refine br_f (fun y => z ((bq_pz (hU j)).mp (hk.symm.trans y))) (nm_r (nI_1 j) (ih _ (by omega) (fun t ht => ?_)))
      by_cases e : t = j
      · subst e
        exact z
      · exact hn t (by omega)
theorem by_beg_l {post : Int32 → SY → Prop} (hU : ∀ i, bq_V (U i)) (h1 : (∀ t, t < 3 → U t ≠ 0) → post (-2) (bq_y b l c nx K nu co ob U S w)) (h2 : ∀ j, j < 3 → U j = 0 → (∀ t, t < j → U t ≠ 0) → post (nI j) (bq_y b l c nx K nu co ob (bq_up U j b) (bq_up S j 0) w)) : ∀ d j, j + d = 3 → (∀ t, t < j → U t ≠ 0) → wY_begin_12 post (nI (bq_c b)) (nI l) (nI nx) (nI c) nu (fun i => nI (bq_c (K i))) ob co (fun i => nI (bq_c (U i))) (bq_h S) w (d + 1) (nI j) := by
  intro d
  induction d with
  | zero =>
    intro j hj hn
    obtain rfl : j = 3 := by omega
    exact br_t (nI_le (a := 3) (b := 3) (by decide) (by decide)) (h1 hn)
  | succ d ih =>
    intro j hj hn
    have hcl : (nI j).toNatClampNeg = j := nI_clamp (by omega)
    have hi : vp_in (nI j) 3 := vp_in_nI (by omega) (by decide)
    have hk : (fun i => nI (bq_c (U i))) (nI j).toNatClampNeg = nI (bq_c (U j)) := congrArg (fun i => nI (bq_c (U i))) hcl
    refine br_f (nI_ge (b := 3) (by omega) (by decide)) ⟨hi, ?_⟩
    by_cases z : U j = 0
    · refine br_t (hk.trans ((bq_cz (hU j)).mpr z)) ⟨hi, nm_r (?_ : _ = fun i => nI (bq_c (bq_up U j b i))) ?_⟩
      · rw [hcl]
        exact bq_updN _ U j b bq_c rfl
      · have h3 := by_beg_h (S := S) (post := post) (b := b) (l := l) (c := c) (nx := nx) (K := K) (nu := nu) (co := co) (ob := ob) (w := w) (up := fun i => nI (bq_c (bq_up U j b i))) (j := j) (by omega) (by rw [bq_hi8]; exact h2 j (by omega) z hn) 8 0 (by omega)
        rw [bq_hi0] at h3
        exact ⟨_, h3⟩
    · refine br_f (fun y => z ((bq_cz (hU j)).mp (hk.symm.trans y))) (nm_r (nI_1 j) (ih _ (by omega) (fun t ht => ?_)))
      by_cases e : t = j
      · subst e
        exact z
      · exact hn t (by omega)
theorem bz_upV {j q : Nat} (hU : ∀ i, bq_V (U i)) (hq : bq_V q) (i : Nat) : bq_V (bq_up U j q i) := by
  unfold bq_up
  split
  · exact hq
  · exact hU i
/-- an upload that is under way, or none -/
theorem bz_up (b l c nx : Nat) (K : Nat → Nat) (nu co mk ob S w : Nat → Int32) (hU : ∀ i, bq_V (U i)) (v1 : Int32) : ((∀ post : Int32 → Prop, post 0 → wpX_isUnderWay post (bq_x b l c nx K nu co mk U S w) v1) ∧ (∀ post : Int32 → Prop, post 1 → wpY_noUpload post (bq_y b l c nx K nu co ob U S w) v1)) ∨ (∃ j, j < 3 ∧ v1 = nI j ∧ U j ≠ 0 ∧ (∀ post : Int32 → Prop, post 1 → wpX_isUnderWay post (bq_x b l c nx K nu co mk U S w) v1) ∧ (∀ post : Int32 → Prop, post 0 → wpY_noUpload post (bq_y b l c nx K nu co ob U S w) v1)) := by
  rcases pk_ix v1 (n := 3) (by decide) with h0 | h3 | ⟨j, hj, rfl⟩
  · exact Or.inl ⟨fun _ hp => br_t h0 hp, fun _ hp => br_t h0 hp⟩
  · have h0 : ¬ v1 < 0 := fun z => absurd (Int32.lt_of_le_of_lt h3 z) (by decide)
    have h2 : 2 < v1 := Int32.lt_of_lt_of_le (by decide : (2 : Int32) < nI 3) h3
    exact Or.inl ⟨fun _ hp => br_f h0 (br_t h3 hp), fun _ hp => br_f h0 (br_t h2 hp)⟩
  · have hcl : (nI j).toNatClampNeg = j := nI_clamp (by omega)
    have hi : vp_in (nI j) 3 := vp_in_nI (by omega) (by decide)
    have hk : (fun i => nI (U i)) (nI j).toNatClampNeg = nI (U j) := congrArg (fun i => nI (U i)) hcl
    have hky : (fun i => nI (bq_c (U i))) (nI j).toNatClampNeg = nI (bq_c (U j)) := congrArg (fun i => nI (bq_c (U i))) hcl
    have h0 : ¬ nI j < 0 := nI_pos (by omega)
    have h3 : ¬ (3 : Int32) ≤ nI j := nI_ge (b := 3) hj (by decide)
    have h2 : ¬ (2 : Int32) < nI j := nI_nlt (a := 2) (b := j) (by omega) (by decide)
    by_cases z : U j = 0
    · exact Or.inl ⟨fun _ hp => br_f h0 (br_f h3 ⟨hi, br_t (hk.trans ((bq_pz (hU j)).mpr z)) hp⟩), fun _ hp => br_f h0 (br_f h2 ⟨hi, br_t (hky.trans ((bq_cz (hU j)).mpr z)) hp⟩)⟩
    · exact Or.inr ⟨j, hj, rfl, z, fun _ hp => br_f h0 (br_f h3 ⟨hi, br_f (fun y => z ((bq_pz (hU j)).mp (hk.symm.trans y))) hp⟩), fun _ hp => br_f h0 (br_f h2 ⟨hi, br_f (fun y => z ((bq_cz (hU j)).mp (hky.symm.trans y))) hp⟩)⟩
theorem bq_has {j i : Nat} (hj : j < 3) (hi : i < 8) : bq_h S (nI j * 8 + nI i).toNatClampNeg = if bt (S j) i then 1 else 0 := by
  rw [bq_idx, nI_clamp (by omega)]
  unfold bq_h
  rw [show (j * 8 + i) / 8 = j by omega, show (j * 8 + i) % 8 = i by omega]
theorem bq_hasI {j i : Nat} (hj : j < 3) (hi : i < 8) : vp_in (nI j * 8 + nI i) 24 := by
  rw [bq_idx]
  exact vp_in_nI (by omega) (by decide)
theorem bz_cnt_l {j : Nat} (hj : j < 3) : ∀ d i (a : Int32), i + d = 8 → ∃ r : Int32, (∀ post : Int32 → Prop, post r → wX_partCount_4 post (nI j) (nI b) (nI l) (nI c) (nI nx) (fun i => nI (K i)) nu co mk (fun i => nI (U i)) S w (d + 1) a (nI i)) ∧ (∀ post : Int32 → Prop, post r → wY_parts_4 post (nI j) (nI (bq_c b)) (nI l) (nI nx) (nI c) nu (fun i => nI (bq_c (K i))) ob co (fun i => nI (bq_c (U i))) (bq_h S) w (d + 1) a (nI i)) := by
  intro d
  induction d with
  | zero =>
    intro i a hi
    have h : (8 : Int32) ≤ nI i := nI_le (a := 8) (by omega) (by omega)
    exact ⟨a, fun _ hp => br_t h hp, fun _ hp => br_t h hp⟩
  | succ d ih =>
    intro i a hi
    have h : ¬ (8 : Int32) ≤ nI i := nI_ge (b := 8) (by omega) (by decide)
    have hj3 : vp_in (nI j) 3 := vp_in_nI hj (by decide)
    have hcl : (nI j).toNatClampNeg = j := nI_clamp (by omega)
    have hb := bq_bit (S j) (i := i) (by omega)
    have hh := bq_has (S := S) hj (show i < 8 by omega)
    have hix := bq_hasI hj (show i < 8 by omega)
    cases e : bt (S j) i with
    | true =>
      rw [e] at hb hh
      obtain ⟨r, hX, hY⟩ := ih (i + 1) (a + 1) (by omega)
      refine ⟨r, fun post hp => br_f h ⟨hj3, nm_r ?_ (nm_r (nI_1 i) (hX post hp))⟩, fun post hp => br_f h ⟨hix, br_f (fun z => absurd (hh.symm.trans z) (by decide)) (nm_e (nm_r (nI_1 i) (hY post hp)))⟩⟩
      rw [hcl, hb]
      rfl
    | false =>
      rw [e] at hb hh
      obtain ⟨r, hX, hY⟩ := ih (i + 1) a (by omega)
      refine ⟨r, fun post hp => br_f h ⟨hj3, nm_r ?_ (nm_r (nI_1 i) (hX post hp))⟩, fun post hp => br_f h ⟨hix, br_t hh (nm_r (nI_1 i) (hY post hp))⟩⟩
      rw [hcl, hb]
      exact Int32.add_zero a
theorem bz_cnt (b l c nx : Nat) (K U : Nat → Nat) (nu co mk ob S w : Nat → Int32) {j : Nat} (hj : j < 3) : ∃ r : Int32, (∀ post : Int32 → Prop, post r → wpX_partCount post (bq_x b l c nx K nu co mk U S w) (nI j)) ∧ (∀ post : Int32 → Prop, post r → wpY_parts post (bq_y b l c nx K nu co ob U S w) (nI j)) := by
  obtain ⟨r, hX, hY⟩ := bz_cnt_l (b := b) (l := l) (c := c) (nx := nx) (K := K) (U := U) (nu := nu) (co := co) (mk := mk) (ob := ob) (S := S) (w := w) hj 8 0 0 (by omega)
  exact ⟨r, fun post hp => ⟨_, hX post hp⟩, fun post hp => ⟨_, hY post hp⟩⟩
theorem bq_hset {j n : Nat} (hn : n < 8) : upd (bq_h S) (j * 8 + n) 1 = bq_h (bq_up S j (S j ||| ((1 : Int32) <<< (nI n &&& 31)))) := by
  funext m
  unfold upd bq_h bq_up
  by_cases e : m / 8 = j
  · subst e
    rw [if_pos rfl, bq_set _ hn (by omega)]
    by_cases e2 : m = m / 8 * 8 + n
    · rw [if_pos e2, decide_eq_true (show m % 8 = n by omega), Bool.or_true]
      rfl
    · rw [if_neg e2, decide_eq_false (show ¬ m % 8 = n by omega), Bool.or_false]
  · rw [if_neg e, if_neg (by omega)]
/-! complete -/
theorem by_bad_l {post : Int32 → SY → Prop} {j : Nat} {p : Int32} (hj : j < 3) (h : post (-6) (bq_y b l c nx K nu co ob U S w)) : ∀ d i (a : Int32), i + d = 8 → (∃ t, i ≤ t ∧ t < 8 ∧ bt p t = true ∧ bt (S j) t = false) → wY_complete_27 post (nI j) p (nI (bq_c b)) (nI l) (nI nx) (nI c) nu (fun i => nI (bq_c (K i))) ob co (fun i => nI (bq_c (U i))) (bq_h S) w (d + 1) a (nI i) := by
  intro d
  induction d with
  | zero =>
    intro i a hi ht
    obtain ⟨t, h1, h2, _⟩ := ht
    omega
  | succ d ih =>
    intro i a hi ht
    have h8 : ¬ (8 : Int32) ≤ nI i := nI_ge (b := 8) (by omega) (by decide)
    have hb := bq_bit p (i := i) (by omega)
    have hh := bq_has (S := S) hj (show i < 8 by omega)
    have hix := bq_hasI hj (show i < 8 by omega)
    obtain ⟨t, h1, h2, h3, h4⟩ := ht
    cases e : bt p i with
    | true =>
      rw [e] at hb
      cases e2 : bt (S j) i with
      | true =>
        rw [e2] at hh
        refine br_f h8 (br_t hb ⟨hix, br_f (fun z => absurd (hh.symm.trans z) (by decide)) ⟨hix, nm_e (nm_r (nI_1 i) (ih _ _ (by omega) ⟨t, ?_, h2, h3, h4⟩))⟩⟩)
        by_cases e3 : t = i
        · subst e3
          rw [e2] at h4
          exact absurd h4 (by decide)
        · omega
      | false =>
        rw [e2] at hh
        exact br_f h8 (br_t hb ⟨hix, br_t hh h⟩)
    | false =>
      rw [e] at hb
      refine br_f h8 (br_f (fun z => absurd (hb.symm.trans z) (by decide)) (nm_r (nI_1 i) (ih _ _ (by omega) ⟨t, ?_, h2, h3, h4⟩)))
      by_cases e3 : t = i
      · subst e3
        rw [e] at h3
        exact absurd h3 (by decide)
      · omega
theorem bz_good_l {j : Nat} {p : Int32} (hj : j < 3) (hall : ∀ t, t < 8 → bt p t = true → bt (S j) t = true) : ∀ d i (a : Int32), i + d = 8 → ∃ r : Int32, (∀ post : Int32 → Prop, post r → wX_contentOfParts_5 post (nI j) (p &&& 255) (nI b) (nI l) (nI c) (nI nx) (fun i => nI (K i)) nu co mk (fun i => nI (U i)) S w (d + 1) a (nI i)) ∧ (∀ post : Int32 → SY → Prop, wY_complete_27 post (nI j) p (nI (bq_c b)) (nI l) (nI nx) (nI c) nu (fun i => nI (bq_c (K i))) ob co (fun i => nI (bq_c (U i))) (bq_h S) w 1 r (nI 8) → wY_complete_27 post (nI j) p (nI (bq_c b)) (nI l) (nI nx) (nI c) nu (fun i => nI (bq_c (K i))) ob co (fun i => nI (bq_c (U i))) (bq_h S) w (d + 1) a (nI i)) := by
  intro d
  induction d with
  | zero =>
    intro i a hi
    obtain rfl : i = 8 := by omega
    exact ⟨a, fun _ hp => br_t (nI_le (a := 8) (b := 8) (by decide) (by decide)) hp, fun _ hp => hp⟩
  | succ d ih =>
    intro i a hi
    have h8 : ¬ (8 : Int32) ≤ nI i := nI_ge (b := 8) (by omega) (by decide)
    have hb := bq_bit p (i := i) (by omega)
    have hb2 := bq_bit (p &&& 255) (i := i) (by omega)
    rw [bq_255 p (show i < 8 by omega)] at hb2
    have hh := bq_has (S := S) hj (show i < 8 by omega)
    have hix := bq_hasI hj (show i < 8 by omega)
    cases e : bt p i with
    | true =>
      rw [e] at hb hb2
      rw [hall i (by omega) e] at hh
      obtain ⟨r, hX, hY⟩ := ih (i + 1) (a * 31 + w (nI j * 8 + nI i).toNatClampNeg) (by omega)
      exact ⟨r, fun post hp => br_f h8 (br_f (fun z => absurd (hb2.symm.trans z) (by decide)) ⟨hix, nm_e (nm_r (nI_1 i) (hX post hp))⟩), fun post hp => br_f h8 (br_t hb ⟨hix, br_f (fun z => absurd (hh.symm.trans z) (by decide)) ⟨hix, nm_e (nm_r (nI_1 i) (hY post hp))⟩⟩)⟩
    | false =>
      rw [e] at hb hb2
      obtain ⟨r, hX, hY⟩ := ih (i + 1) a (by omega)
      exact ⟨r, fun post hp => br_f h8 (br_t hb2 (nm_r (nI_1 i) (hX post hp))), fun post hp => br_f h8 (br_f (fun z => absurd (hb.symm.trans z) (by decide)) (nm_r (nI_1 i) (hY post hp)))⟩
end
theorem i_vc_begin {k : Nat} {u : SX} {v : SY} (I : i_Rel k u v) (hk : k + 4 ≤ 2048) : wpX_begin (fun r u' => wpY_begin (fun r' v' => r' = r ∧ i_Rel (k + 4) u' v') v) u := by
  have I0 := i_up I
  obtain ⟨b, l, c, nx, K, nu, co, mk, ob, U, S, w, rfl, rfl, hB, hC, hU, hx⟩ := I
  have hl4 : l ≤ 4 := hB.2.1
  by_cases h0 : b = 0
  · have hl := (bz_b0 hB).mp h0
    exact br_t (congrArg nI h0) (br_t (congrArg nI hl) ⟨rfl, I0⟩)
  · have hl : l ≠ 0 := fun e => h0 ((bz_b0 hB).mpr e)
    have hlf : ¬ nI l = 0 := nI_ne0 (by omega) (by omega)
    refine br_f (nI_ne0 (by omega) (by have := hB.1.1; omega)) ⟨4, bx_beg_l hU (fun hn => ?_) (fun j hj z hn => ?_) 3 0 (by omega) (fun t ht => absurd ht (by omega))⟩
    · exact br_f hlf ⟨4, by_beg_l hU (fun _ => ⟨rfl, I0⟩) (fun j hj z _ => absurd z (hn j hj)) 3 0 (by omega) (fun t ht => absurd ht (by omega))⟩
    · refine br_f hlf ⟨4, by_beg_l hU (fun hn2 => absurd z (hn2 j hj)) (fun i hi z2 hn2 => ?_) 3 0 (by omega) (fun t ht => absurd ht (by omega))⟩
      obtain rfl : i = j := by
        rcases Nat.lt_trichotomy i j with h | h | h
        · exact absurd z2 (hn i h)
        · exact h
        · exact absurd z (hn2 j h)
      exact ⟨rfl, b, l, c, nx, K, nu, co, mk, ob, _, _, w, rfl, rfl, hB, hC, bz_upV hU hB.1, by omega⟩
theorem i_vc_part {k : Nat} {u : SX} {v : SY} (I : i_Rel k u v) (hk : k + 4 ≤ 2048) (v1 : Int32) (v2 : Int32) (v3 : Int32) : wpX_part (fun r u' => wpY_part (fun r' v' => r' = r ∧ i_Rel (k + 4) u' v') v v1 v2 v3) u v1 v2 v3 := by
  have I0 := i_up I
  obtain ⟨b, l, c, nx, K, nu, co, mk, ob, U, S, w, rfl, rfl, hB, hC, hU, hx⟩ := I
  unfold wpX_part wpY_part
  dsimp only
  rcases bz_up b l c nx K nu co mk ob S w hU v1 with ⟨hX, hY⟩ | ⟨j, hj, rfl, hn, hX, hY⟩
  · refine hX _ (br_t rfl (hY _ (br_f (by decide) ⟨rfl, I0⟩)))
  · refine hX _ (br_f (by decide) ?_)
    rcases pk_ix v2 (n := 8) (by decide) with h0 | h8 | ⟨n, hn8, rfl⟩
    · refine br_t h0 (hY _ (br_t rfl (br_t h0 ⟨rfl, I0⟩)))
    · have h0 : ¬ v2 < 0 := fun z => absurd (Int32.lt_of_le_of_lt h8 z) (by decide)
      have h9 : ¬ v2 < 8 := fun z => absurd (Int32.lt_of_le_of_lt h8 z) (by decide)
      have h7 : ¬ v2 ≤ 7 := fun z => absurd (Int32.le_trans h8 z) (by decide)
      exact br_f h0 (br_f h9 (hY _ (br_t rfl (br_f h0 (br_f h7 ⟨rfl, I0⟩)))))
    · have h0 : ¬ nI n < 0 := nI_pos (by omega)
      have h9 : nI n < 8 := nI_lt (b := 8) hn8 (by decide)
      have h7 : nI n ≤ 7 := nI_le (b := 7) (by omega) (by decide)
      have hix := bq_hasI hj hn8
      have hcl : (nI j).toNatClampNeg = j := nI_clamp (by omega)
      have hcl2 : (nI j * 8 + nI n).toNatClampNeg = j * 8 + n := by rw [bq_idx]; exact nI_clamp (by omega)
      have hj3 : vp_in (nI j) 3 := vp_in_nI hj (by decide)
      obtain ⟨r, cX, cY⟩ := bz_cnt b l c nx K U nu co mk ob (bq_up S j (S j ||| ((1 : Int32) <<< (nI n &&& 31)))) (bq_up w (j * 8 + n) v3) hj
      refine br_f h0 (br_t h9 ⟨hix, nm_r (?_ : _ = bq_up w (j * 8 + n) v3) ⟨hj3, hj3, nm_r (?_ : _ = bq_up S j (S j ||| ((1 : Int32) <<< (nI n &&& 31)))) ?_⟩⟩)
      · rw [hcl2]
        rfl
      · rw [hcl]
        rfl
      refine cX _ ?_
      refine hY _ (br_t rfl (br_f h0 (br_t h7 ⟨hix, nm_r (?_ : _ = bq_h (bq_up S j (S j ||| ((1 : Int32) <<< (nI n &&& 31))))) ⟨hix, nm_r (?_ : _ = bq_up w (j * 8 + n) v3) ?_⟩⟩)))
      · rw [hcl2, bq_nar (Or.inr rfl)]
        exact bq_hset hn8
      · rw [hcl2]
        rfl
      refine cY _ ?_
      exact ⟨rfl, b, l, c, nx, K, nu, co, mk, ob, U, _, _, rfl, rfl, hB, hC, hU, by omega⟩
theorem i_vc_complete {k : Nat} {u : SX} {v : SY} (I : i_Rel k u v) (hk : k + 4 ≤ 2048) (v1 : Int32) (v2 : Int32) : wpX_complete (fun r u' => wpY_complete (fun r' v' => r' = r ∧ i_Rel (k + 4) u' v') v v1 v2) u v1 v2 := by
  have I0 := i_up I
  obtain ⟨b, l, c, nx, K, nu, co, mk, ob, U, S, w, rfl, rfl, hB, hC, hU, hx⟩ := I
  have hc := hC.1
  unfold wpX_complete wpY_complete
  dsimp only
  rcases bz_up b l c nx K nu co mk ob S w hU v1 with ⟨hX, hY⟩ | ⟨j, hj, rfl, hn, hX, hY⟩
  · refine hX _ (br_t rfl (hY _ (br_f (by decide) ⟨rfl, I0⟩)))
  · have hcl : (nI j).toNatClampNeg = j := nI_clamp (by omega)
    have hj3 : vp_in (nI j) 3 := vp_in_nI hj (by decide)
    refine hX _ (br_f (by decide) (nm_e ⟨hj3, nm_e ?_⟩))
    simp only [hcl]
    by_cases hz : v2 &&& 255 = 0
    · exact br_t hz (hY _ (br_t rfl (br_t hz ⟨by trivial, I0⟩)))
    · refine br_f hz ?_
      by_cases hm : (v2 &&& 255) &&& (S j ^^^ (-1)) = 0
      · have hall := (bq_miss v2 (S j)).mp hm
        refine br_t hm ?_
        obtain ⟨r, cX, cY⟩ := bz_good_l (b := b) (l := l) (c := c) (nx := nx) (K := K) (U := U) (nu := nu) (co := co) (mk := mk) (ob := ob) (w := w) hj hall 8 0 0 (by omega)
        refine ⟨9, cX _ ⟨hj3, ?_⟩⟩
        have u0 : upd (fun i => nI (U i)) j 0 = fun i => nI (bq_up U j 0 i) := bq_updN _ U j 0 (fun x => x) rfl
        have u1 : upd (fun i => nI (bq_c (U i))) j 0 = fun i => nI (bq_c (bq_up U j 0 i)) := by
          rw [bq_c0n]
          exact bq_updN _ U j 0 bq_c rfl
        have h8 : (8 : Int32) ≤ nI 8 := nI_le (a := 8) (b := 8) (by decide) (by decide)
        have hky : (fun i => nI (bq_c (U i))) (nI j).toNatClampNeg = nI (bq_c (U j)) := congrArg (fun i => nI (bq_c (U i))) hcl
        by_cases h : c < 24
        · refine bx_add1 h (Or.inl rfl) ?_
          refine br_f (fun z => nI_pos (n := nx) (by omega) (by rw [z]; decide)) ⟨hj3, nm_r u0 ?_⟩
          refine hY _ (br_t rfl (br_f hz ⟨9, cY _ (br_t h8 ⟨hj3, ?_⟩)⟩))
          rw [hky]
          refine by_add1 h (Or.inr rfl) ?_
          refine br_f (nI_pos (by omega)) ⟨hj3, nm_r ((congrArg (fun z => upd (fun i => nI (bq_c (U i))) z 0) hcl).trans u1) ?_⟩
          exact ⟨rfl, b, l, _, _, _, _, _, _, _, _, S, w, rfl, rfl, hB, bz_addC hC h (hU j) hn (Or.inl ⟨rfl, rfl⟩), bz_upV hU bq_V0, by omega⟩
        · refine bx_add0 (by omega) ?_
          refine br_t rfl ?_
          refine hY _ (br_t rfl (br_f hz ⟨9, cY _ (br_t h8 ⟨hj3, ?_⟩)⟩))
          refine by_add0 (by omega) ?_
          exact br_t (by decide) ⟨rfl, I0⟩
      · refine br_f hm ?_
        have hex : ∃ t, 0 ≤ t ∧ t < 8 ∧ bt v2 t = true ∧ bt (S j) t = false := by
          by_cases h : ∃ t, 0 ≤ t ∧ t < 8 ∧ bt v2 t = true ∧ bt (S j) t = false
          · exact h
          · exfalso
            apply hm
            rw [bq_miss]
            intro i hi hb
            cases e : bt (S j) i with
            | true => rfl
            | false => exact absurd ⟨i, Nat.zero_le _, hi, hb, e⟩ h
        exact hY _ (br_t rfl (br_f hz ⟨9, by_bad_l hj ⟨rfl, I0⟩ 8 0 0 (by omega) hex⟩))
theorem i_vc_abort {k : Nat} {u : SX} {v : SY} (I : i_Rel k u v) (hk : k + 4 ≤ 2048) (v1 : Int32) : wpX_abort (fun r u' => wpY_abort (fun r' v' => r' = r ∧ i_Rel (k + 4) u' v') v v1) u v1 := by
  have I0 := i_up I
  obtain ⟨b, l, c, nx, K, nu, co, mk, ob, U, S, w, rfl, rfl, hB, hC, hU, hx⟩ := I
  unfold wpX_abort wpY_abort
  dsimp only
  rcases bz_up b l c nx K nu co mk ob S w hU v1 with ⟨hX, hY⟩ | ⟨j, hj, rfl, hn, hX, hY⟩
  · refine hX _ (br_t rfl (hY _ (br_f (by decide) ⟨rfl, I0⟩)))
  · have hcl : (nI j).toNatClampNeg = j := nI_clamp (by omega)
    have hj3 : vp_in (nI j) 3 := vp_in_nI hj (by decide)
    have u0 : upd (fun i => nI (U i)) j 0 = fun i => nI (bq_up U j 0 i) := bq_updN _ U j 0 (fun x => x) rfl
    have u1 : upd (fun i => nI (bq_c (U i))) j 0 = fun i => nI (bq_c (bq_up U j 0 i)) := by
      rw [bq_c0n]
      exact bq_updN _ U j 0 bq_c rfl
    obtain ⟨r, cX, cY⟩ := bz_cnt b l c nx K (bq_up U j 0) nu co mk ob S w hj
    refine hX _ (br_f (by decide) ⟨hj3, nm_r ((congrArg (fun z => upd (fun i => nI (U i)) z 0) hcl).trans u0) ?_⟩)
    refine cX _ ?_
    refine hY _ (br_t rfl ⟨hj3, nm_r ((congrArg (fun z => upd (fun i => nI (bq_c (U i))) z 0) hcl).trans u1) ?_⟩)
    refine cY _ ?_
    exact ⟨rfl, b, l, c, nx, K, nu, co, mk, ob, _, S, w, rfl, rfl, hB, hC, bz_upV hU bq_V0, by omega⟩
