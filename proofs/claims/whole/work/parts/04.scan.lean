section
variable {b l c nx : Nat} {K U : Nat → Nat} {nu co mk ob S w : Nat → Int32}
theorem bq_nm1 {n : Nat} (h : n < 2 ^ 31) : ¬ nI n = -1 := fun e => nI_pos h (by rw [e]; decide +kernel)
theorem bq_ni {a b : Nat} (ha : a < 2 ^ 31) (hb : b < 2 ^ 31) (h : nI a = nI b) : a = b := (nI_eq ha hb).mp h
theorem bq_nar {x : Int32} (h : x = 0 ∨ x = 1) : vp_nar .boolean x = x := by
  rcases h with rfl | rfl
  · decide +kernel
  · decide +kernel
/-! X: the slot of the i-th newest -/
theorem bx_slot_l {post : Int32 → Prop} {q : Nat} {i : Int32} (hc : c ≤ 24) (hV : ∀ j, bq_V (K j)) (hq : bq_V q) (h1 : (∀ s, s < c → K s = q → nI (bq_N K q c (s + 1)) ≠ i) → post (-1)) (h2 : ∀ s, s < c → K s = q → nI (bq_N K q c (s + 1)) = i → post (nI s)) : ∀ d x, d ≤ c → x = nI d + (-1) → (∀ s, d ≤ s → s < c → K s = q → nI (bq_N K q c (s + 1)) ≠ i) → wX_slotOfNewest_10 post (nI q) i (nI b) (nI l) (nI c) (nI nx) (fun i => nI (K i)) nu co mk (fun i => nI (U i)) S w (d + 1) (nI (bq_N K q c d)) x := by
  intro d
  induction d with
  | zero =>
    intro x _ hx hn
    subst hx
    exact br_t bq_z1 (h1 fun s => hn s (Nat.zero_le _))
  | succ d ih =>
    intro x hd hx hn
    rw [pk_m1] at hx
    subst hx
    have hcl : (nI d).toNatClampNeg = d := nI_clamp (by omega)
    refine br_f (nI_pos (by omega)) ⟨vp_in_nI (by omega) (by decide), ?_⟩
    refine pk_eq (K d) q (fun e => ?_) (fun e => ?_) (congrArg (fun j => nI (K j)) hcl) rfl (by have := (hV d).1; omega) (by have := hq.1; omega)
    · refine br_c (fun hi => h2 d (by omega) e hi) (fun hi => nm_r (?_ : _ = nI (bq_N K q c d)) (nm_e (ih _ (by omega) rfl ?_)))
      · rw [nI_1, bq_Nt (by omega) e]
      · intro s hs hsc es
        by_cases e2 : s = d
        · subst e2
          exact hi
        · exact hn s (by omega) hsc es
    · refine nm_e ?_
      have h3 := ih _ (by omega) rfl (fun s hs hsc es => hn s (by
        by_cases e2 : s = d
        · subst e2
          exact absurd es e
        · omega) hsc es)
      rw [bq_Nf (by omega) e] at h3
      exact h3
theorem bx_slot {post : Int32 → Prop} {q : Nat} {i : Int32} (hc : c ≤ 24) (hV : ∀ j, bq_V (K j)) (hq : bq_V q) (h1 : (∀ s, s < c → K s = q → nI (bq_N K q c (s + 1)) ≠ i) → post (-1)) (h2 : ∀ s, s < c → K s = q → nI (bq_N K q c (s + 1)) = i → post (nI s)) : wpX_slotOfNewest post (bq_x b l c nx K nu co mk U S w) (nI q) i := by
  show ∀ x4 : Int32, x4 = nI c - 1 → ∃ n, wX_slotOfNewest_10 post (nI q) i (nI b) (nI l) (nI c) (nI nx) (fun i => nI (K i)) nu co mk (fun i => nI (U i)) S w n 0 x4
  have h3 := bx_slot_l (b := b) (l := l) (nx := nx) (nu := nu) (co := co) (mk := mk) (U := U) (S := S) (w := w) hc hV hq h1 h2 c _ (Nat.le_refl c) rfl (fun s h1 h2 => absurd h1 (by omega))
  rw [bq_Nge (Nat.le_refl c)] at h3
  exact nm_r (bq_s1 c) ⟨c + 1, h3⟩
theorem bx_slot1 {post : Int32 → Prop} {q m s : Nat} (hc : c ≤ 24) (hV : ∀ j, bq_V (K j)) (hq : bq_V q) (hs : s < c) (e : K s = q) (hN : bq_N K q c (s + 1) = m) (h : post (nI s)) : wpX_slotOfNewest post (bq_x b l c nx K nu co mk U S w) (nI q) (nI m) := by
  refine bx_slot hc hV hq (fun hn => absurd (congrArg nI hN) (hn s hs e)) (fun t ht et hN' => ?_)
  have b1 := bq_Nc (K := K) (q := q) (c := c) (s := t + 1)
  have b2 := bq_Nc (K := K) (q := q) (c := c) (s := s + 1)
  have h2 := bq_ni (by omega) (by omega) hN'
  cases bq_un hs e ht et (hN.trans h2.symm)
  exact h
theorem bx_slot0 {post : Int32 → Prop} {q m : Nat} (hc : c ≤ 24) (hV : ∀ j, bq_V (K j)) (hq : bq_V q) (hm : m < 2 ^ 31) (hn : ∀ s, s < c → K s = q → bq_N K q c (s + 1) ≠ m) (h : post (-1)) : wpX_slotOfNewest post (bq_x b l c nx K nu co mk U S w) (nI q) (nI m) := by
  refine bx_slot hc hV hq (fun _ => h) (fun t ht et hN' => ?_)
  have b1 := bq_Nc (K := K) (q := q) (c := c) (s := t + 1)
  exact absurd (bq_ni (by omega) hm hN') (hn t ht et)
theorem bx_cur1 {post : Int32 → Prop} {q s : Nat} (hc : c ≤ 24) (hV : ∀ j, bq_V (K j)) (hq : bq_V q) (hs : s < c) (e : K s = q) (hN : bq_N K q c (s + 1) = 0) (hm : mk s = 0) (h : post (nI s)) : wpX_currentSlot post (bq_x b l c nx K nu co mk U S w) (nI q) := by
  unfold wpX_currentSlot
  dsimp only
  refine bx_slot1 (m := 0) hc hV hq hs e hN ?_
  exact br_f (bq_nm1 (by omega)) ⟨vp_in_nI (by omega) (by decide), br_t ((congrArg mk (nI_clamp (by omega))).trans hm) h⟩
theorem bx_cur0 {post : Int32 → Prop} {q : Nat} (hc : c ≤ 24) (hV : ∀ j, bq_V (K j)) (hq : bq_V q) (hn : ∀ s, s < c → K s = q → bq_N K q c (s + 1) = 0 → mk s ≠ 0) (h : post (-1)) : wpX_currentSlot post (bq_x b l c nx K nu co mk U S w) (nI q) := by
  unfold wpX_currentSlot
  dsimp only
  by_cases hx : ∃ s, s < c ∧ K s = q ∧ bq_N K q c (s + 1) = 0
  · obtain ⟨s, hs, e, hN⟩ := hx
    refine bx_slot1 (m := 0) hc hV hq hs e hN ?_
    exact br_f (bq_nm1 (by omega)) ⟨vp_in_nI (by omega) (by decide), br_f (fun z => hn s hs e hN ((congrArg mk (nI_clamp (by omega))).symm.trans z)) h⟩
  · refine bx_slot0 (m := 0) hc hV hq (by decide) (fun s hs e hN => hx ⟨s, hs, e, hN⟩) ?_
    exact br_t rfl h
theorem bx_pr1 {post : Int32 → Prop} {q s : Nat} (hc : c ≤ 24) (hV : ∀ j, bq_V (K j)) (hq : bq_V q) (hs : s < c) (e : K s = q) (hN : bq_N K q c (s + 1) = 0) (hm : mk s = 0) (h : post 1) : wpX_isPresent post (bq_x b l c nx K nu co mk U S w) (nI q) := by
  unfold wpX_isPresent
  dsimp only
  refine bx_cur1 hc hV hq hs e hN hm ?_
  exact br_f (bq_nm1 (by omega)) h
theorem bx_pr0 {post : Int32 → Prop} {q : Nat} (hc : c ≤ 24) (hV : ∀ j, bq_V (K j)) (hq : bq_V q) (hn : ∀ s, s < c → K s = q → bq_N K q c (s + 1) = 0 → mk s ≠ 0) (h : post 0) : wpX_isPresent post (bq_x b l c nx K nu co mk U S w) (nI q) := by
  unfold wpX_isPresent
  dsimp only
  refine bx_cur0 hc hV hq hn ?_
  exact br_t rfl h
/-! Y: newest, isPresent -/
theorem by_new_l {post : Int32 → Prop} {q : Nat} (hc : c ≤ 24) (hV : ∀ j, bq_V (K j)) (hq : bq_V q) (h1 : (∀ s, s < c → K s ≠ q) → post (-1)) (h2 : ∀ s, s < c → K s = q → (∀ t, s + 1 ≤ t → t < c → K t ≠ q) → post (nI s)) : ∀ d x, d ≤ c → x = nI d + (-1) → (∀ s, d ≤ s → s < c → K s ≠ q) → wY_newest_7 post (nI (bq_c q)) (nI (bq_c b)) (nI l) (nI nx) (nI c) nu (fun i => nI (bq_c (K i))) ob co (fun i => nI (bq_c (U i))) (bq_h S) w (d + 1) x := by
  intro d
  induction d with
  | zero =>
    intro x _ hx hn
    subst hx
    exact br_t bq_z1 (h1 fun s => hn s (Nat.zero_le _))
  | succ d ih =>
    intro x hd hx hn
    rw [pk_m1] at hx
    subst hx
    have hcl : (nI d).toNatClampNeg = d := nI_clamp (by omega)
    refine br_f (nI_pos (by omega)) ⟨vp_in_nI (by omega) (by decide), ?_⟩
    refine pk_eq (bq_c (K d)) (bq_c q) (fun e => ?_) (fun e => ?_) (congrArg (fun j => nI (bq_c (K j))) hcl) rfl (by have := bq_lt (hV d); omega) (by have := bq_lt hq; omega)
    · exact h2 d (by omega) (bq_inj (hV d) hq e) hn
    · exact nm_e (ih _ (by omega) rfl (fun s hs hsc es => by
        by_cases e2 : s = d
        · subst e2
          exact e (congrArg bq_c es)
        · exact hn s (by omega) hsc es))
theorem by_new1 {post : Int32 → Prop} {q s : Nat} (hc : c ≤ 24) (hV : ∀ j, bq_V (K j)) (hq : bq_V q) (hs : s < c) (e : K s = q) (hN : bq_N K q c (s + 1) = 0) (h : post (nI s)) : wpY_newest post (bq_y b l c nx K nu co ob U S w) (nI (bq_c q)) := by
  show ∀ x2 : Int32, x2 = nI c - 1 → ∃ n, wY_newest_7 post (nI (bq_c q)) (nI (bq_c b)) (nI l) (nI nx) (nI c) nu (fun i => nI (bq_c (K i))) ob co (fun i => nI (bq_c (U i))) (bq_h S) w n x2
  refine nm_r (bq_s1 c) ⟨c + 1, by_new_l hc hV hq (fun hn => absurd e (hn s hs)) (fun t ht et hn => ?_) c _ (Nat.le_refl c) rfl (fun s h1 h2 => absurd h1 (by omega))⟩
  cases bq_un hs e ht et (hN.trans (bq_N0' hn).symm)
  exact h
theorem by_new0 {post : Int32 → Prop} {q : Nat} (hc : c ≤ 24) (hV : ∀ j, bq_V (K j)) (hq : bq_V q) (hn : ∀ s, s < c → K s ≠ q) (h : post (-1)) : wpY_newest post (bq_y b l c nx K nu co ob U S w) (nI (bq_c q)) := by
  show ∀ x2 : Int32, x2 = nI c - 1 → ∃ n, wY_newest_7 post (nI (bq_c q)) (nI (bq_c b)) (nI l) (nI nx) (nI c) nu (fun i => nI (bq_c (K i))) ob co (fun i => nI (bq_c (U i))) (bq_h S) w n x2
  exact nm_r (bq_s1 c) ⟨c + 1, by_new_l hc hV hq (fun _ => h) (fun t ht et _ => absurd et (hn t ht)) c _ (Nat.le_refl c) rfl (fun s h1 h2 => absurd h1 (by omega))⟩
theorem by_pr1 {post : Int32 → Prop} {q s : Nat} (hc : c ≤ 24) (hV : ∀ j, bq_V (K j)) (hq : bq_V q) (hs : s < c) (e : K s = q) (hN : bq_N K q c (s + 1) = 0) (hm : ob s = 1) (h : post 1) : wpY_isPresent post (bq_y b l c nx K nu co ob U S w) (nI (bq_c q)) := by
  unfold wpY_isPresent
  dsimp only
  refine by_new1 hc hV hq hs e hN ?_
  exact br_f (nI_pos (by omega)) ⟨vp_in_nI (by omega) (by decide), br_f (fun z => absurd (((congrArg ob (nI_clamp (by omega))).trans hm).symm.trans z) (by decide)) h⟩
theorem by_pr0 {post : Int32 → Prop} {q : Nat} (hc : c ≤ 24) (hV : ∀ j, bq_V (K j)) (hq : bq_V q) (hn : ∀ s, s < c → K s = q → bq_N K q c (s + 1) = 0 → ob s = 0) (h : post 0) : wpY_isPresent post (bq_y b l c nx K nu co ob U S w) (nI (bq_c q)) := by
  unfold wpY_isPresent
  dsimp only
  by_cases hx : ∃ s, s < c ∧ K s = q ∧ bq_N K q c (s + 1) = 0
  · obtain ⟨s, hs, e, hN⟩ := hx
    refine by_new1 hc hV hq hs e hN ?_
    exact br_f (nI_pos (by omega)) ⟨vp_in_nI (by omega) (by decide), br_t ((congrArg ob (nI_clamp (by omega))).trans (hn s hs e hN)) h⟩
  · refine by_new0 hc hV hq (fun s hs e => hx (bq_newest hs e)) ?_
    exact br_t (by decide) h
/-! both: the slot of a version's number -/
theorem bz_find_l (hc : c ≤ 24) (v : Int32) : ∀ d j, j + d = c → ∃ r : Int32, (r = -1 ∨ ∃ s, s < c ∧ r = nI s) ∧ (∀ post : Int32 → Prop, post r → wX_slotOfVersion_2 post v (nI b) (nI l) (nI c) (nI nx) (fun i => nI (K i)) nu co mk (fun i => nI (U i)) S w (d + 1) (nI j)) ∧ (∀ post : Int32 → Prop, post r → wY_find_2 post v (nI (bq_c b)) (nI l) (nI nx) (nI c) nu (fun i => nI (bq_c (K i))) ob co (fun i => nI (bq_c (U i))) (bq_h S) w (d + 1) (nI j)) := by
  intro d
  induction d with
  | zero =>
    intro j hj
    have h : nI c ≤ nI j := nI_le (by omega) (by omega)
    exact ⟨-1, Or.inl rfl, fun _ hp => br_t h hp, fun _ hp => br_t h hp⟩
  | succ d ih =>
    intro j hj
    have h : ¬ nI c ≤ nI j := nI_ge (by omega) (by omega)
    have hi : vp_in (nI j) 24 := vp_in_nI (by omega) (by decide)
    by_cases z : nu (nI j).toNatClampNeg = v
    · exact ⟨nI j, Or.inr ⟨j, by omega, rfl⟩, fun _ hp => br_f h ⟨hi, br_t z hp⟩, fun _ hp => br_f h ⟨hi, br_t z hp⟩⟩
    · obtain ⟨r, hr, hX, hY⟩ := ih (j + 1) (by omega)
      exact ⟨r, hr, fun post hp => br_f h ⟨hi, br_f z (nm_r (nI_1 j) (hX post hp))⟩, fun post hp => br_f h ⟨hi, br_f z (nm_r (nI_1 j) (hY post hp))⟩⟩
theorem bz_find (b l nx : Nat) (K U : Nat → Nat) (nu co mk ob S w : Nat → Int32) (hc : c ≤ 24) (v : Int32) : ∃ r : Int32, (r = -1 ∨ ∃ s, s < c ∧ r = nI s) ∧ (∀ post : Int32 → Prop, post r → wpX_slotOfVersion post (bq_x b l c nx K nu co mk U S w) v) ∧ (∀ post : Int32 → Prop, post r → wpY_find post (bq_y b l c nx K nu co ob U S w) v) := by
  obtain ⟨r, hr, hX, hY⟩ := bz_find_l (b := b) (l := l) (nx := nx) (K := K) (U := U) (nu := nu) (co := co) (mk := mk) (ob := ob) (S := S) (w := w) hc v c 0 (by omega)
  exact ⟨r, hr, fun post hp => ⟨_, hX post hp⟩, fun post hp => ⟨_, hY post hp⟩⟩
/-! Y: newer, versionsOf -/
theorem by_newer_l {post : Int32 → Prop} {s : Nat} (hc : c ≤ 24) (hV : ∀ j, bq_V (K j)) (hs : s < 24) : ∀ d j a, j + d = c → post (nI (a + bq_N K (K s) c j)) → wY_newer_6 post (nI s) (nI (bq_c b)) (nI l) (nI nx) (nI c) nu (fun i => nI (bq_c (K i))) ob co (fun i => nI (bq_c (U i))) (bq_h S) w (d + 1) (nI a) (nI j) := by
  intro d
  induction d with
  | zero =>
    intro j a hj hp
    rw [bq_Nge (by omega)] at hp
    exact br_t (nI_le (by omega) (by omega)) hp
  | succ d ih =>
    intro j a hj hp
    have hcl : (nI j).toNatClampNeg = j := nI_clamp (by omega)
    have hcs : (nI s).toNatClampNeg = s := nI_clamp (by omega)
    refine br_f (nI_ge (by omega) (by omega)) ⟨vp_in_nI (by omega) (by decide), vp_in_nI hs (by decide), ?_⟩
    refine pk_eq (bq_c (K j)) (bq_c (K s)) (fun e => ?_) (fun e => ?_) (congrArg (fun j => nI (bq_c (K j))) hcl) (congrArg (fun j => nI (bq_c (K j))) hcs) (by have := bq_lt (hV j); omega) (by have := bq_lt (hV s); omega)
    · refine nm_r (nI_1 a) (nm_r (nI_1 j) (ih _ _ (by omega) ?_))
      rw [bq_Nt (by omega) (bq_inj (hV j) (hV s) e)] at hp
      rw [show a + 1 + bq_N K (K s) c (j + 1) = a + (bq_N K (K s) c (j + 1) + 1) from by omega]
      exact hp
    · refine nm_r (nI_1 j) (ih _ _ (by omega) ?_)
      rw [bq_Nf (by omega) (fun e2 => e (congrArg bq_c e2))] at hp
      exact hp
theorem by_newer {post : Int32 → Prop} {s : Nat} (hc : c ≤ 24) (hV : ∀ j, bq_V (K j)) (hs : s < c) (h : post (nI (bq_N K (K s) c (s + 1)))) : wpY_newer post (bq_y b l c nx K nu co ob U S w) (nI s) := by
  show ∀ x3 : Int32, x3 = nI s + 1 → ∃ n, wY_newer_6 post (nI s) (nI (bq_c b)) (nI l) (nI nx) (nI c) nu (fun i => nI (bq_c (K i))) ob co (fun i => nI (bq_c (U i))) (bq_h S) w n 0 x3
  refine nm_r (nI_1 s) ⟨c - (s + 1) + 1, by_newer_l hc hV (by omega) _ _ 0 (by omega) ?_⟩
  rw [Nat.zero_add]
  exact h
theorem by_vers_l {post : Int32 → Prop} {q : Nat} (hc : c ≤ 24) (hV : ∀ j, bq_V (K j)) (hq : bq_V q) : ∀ d j a, j + d = c → post (nI (a + bq_N K q c j)) → wY_versionsOf_4 post (nI (bq_c q)) (nI (bq_c b)) (nI l) (nI nx) (nI c) nu (fun i => nI (bq_c (K i))) ob co (fun i => nI (bq_c (U i))) (bq_h S) w (d + 1) (nI a) (nI j) := by
  intro d
  induction d with
  | zero =>
    intro j a hj hp
    rw [bq_Nge (by omega)] at hp
    exact br_t (nI_le (by omega) (by omega)) hp
  | succ d ih =>
    intro j a hj hp
    have hcl : (nI j).toNatClampNeg = j := nI_clamp (by omega)
    refine br_f (nI_ge (by omega) (by omega)) ⟨vp_in_nI (by omega) (by decide), ?_⟩
    refine pk_eq (bq_c (K j)) (bq_c q) (fun e => ?_) (fun e => ?_) (congrArg (fun j => nI (bq_c (K j))) hcl) rfl (by have := bq_lt (hV j); omega) (by have := bq_lt hq; omega)
    · refine nm_r (nI_1 a) (nm_r (nI_1 j) (ih _ _ (by omega) ?_))
      rw [bq_Nt (by omega) (bq_inj (hV j) hq e)] at hp
      rw [show a + 1 + bq_N K q c (j + 1) = a + (bq_N K q c (j + 1) + 1) from by omega]
      exact hp
    · refine nm_r (nI_1 j) (ih _ _ (by omega) ?_)
      rw [bq_Nf (by omega) (fun e2 => e (congrArg bq_c e2))] at hp
      exact hp
theorem by_vers {post : Int32 → Prop} {q : Nat} (hc : c ≤ 24) (hV : ∀ j, bq_V (K j)) (hq : bq_V q) (h : post (nI (bq_N K q c 0))) : wpY_versionsOf post (bq_y b l c nx K nu co ob U S w) (nI (bq_c q)) := by
  refine ⟨c + 1, by_vers_l hc hV hq c 0 0 (by omega) ?_⟩
  rw [Nat.zero_add]
  exact h
/-! both: a slot taken away -/
theorem bx_take_l {post : SX → Prop} (hc : c ≤ 24) : ∀ d s (K : Nat → Nat) (nu co mk : Nat → Int32), s + 1 + d = c → (∀ i, i < c → mk i = 0 ∨ mk i = 1) → post (bq_x b l (c - 1) nx (bq_sh s c K) (bq_sh s c nu) (bq_sh s c co) (bq_sh s c mk) U S w) → wX_takeAway_2 post (nI b) (nI l) (nI c) (nI nx) (d + 1) (nI s) (fun i => nI (K i)) nu co mk (fun i => nI (U i)) S w := by
  intro d
  induction d with
  | zero =>
    intro s K nu co mk hs hm hp
    simp only [bq_sh0 (show c ≤ s + 1 by omega)] at hp
    refine br_t ?_ (nm_r (pk_sub (a := c) (b := 1) (by omega)) hp)
    rw [nI_1]
    exact nI_le (by omega) (by omega)
  | succ d ih =>
    intro s K nu co mk hs hm hp
    have hcl : (nI s).toNatClampNeg = s := nI_clamp (by omega)
    have hcl1 : (nI s + 1).toNatClampNeg = s + 1 := by rw [nI_1]; exact nI_clamp (by omega)
    have hi : vp_in (nI s) 24 := vp_in_nI (by omega) (by decide)
    have hi1 : vp_in (nI s + 1) 24 := by rw [nI_1]; exact vp_in_nI (by omega) (by decide)
    have hn : ¬ nI c ≤ nI s + 1 := by rw [nI_1]; exact nI_ge (by omega) (by omega)
    have hm1 := bq_nar (hm (s + 1) (by omega))
    have e1 : upd (fun i => nI (K i)) (nI s).toNatClampNeg ((fun i => nI (K i)) (nI s + 1).toNatClampNeg) = fun i => nI (bq_up K s (K (s + 1)) i) := by
      rw [hcl, hcl1]
      exact bq_updN _ K s (K (s + 1)) (fun x => x) rfl
    have e2 : upd nu (nI s).toNatClampNeg (nu (nI s + 1).toNatClampNeg) = bq_up nu s (nu (s + 1)) := by rw [hcl, hcl1]; rfl
    have e3 : upd co (nI s).toNatClampNeg (co (nI s + 1).toNatClampNeg) = bq_up co s (co (s + 1)) := by rw [hcl, hcl1]; rfl
    have e4 : upd mk (nI s).toNatClampNeg (vp_nar .boolean (mk (nI s + 1).toNatClampNeg)) = bq_up mk s (mk (s + 1)) := by rw [hcl, hcl1, hm1]; rfl
    refine br_f hn ⟨hi1, hi, nm_r e1 ⟨hi1, hi, nm_r e2 ⟨hi1, hi, nm_r e3 ⟨hi1, hi, nm_r e4 (nm_r (nI_1 s) (ih (s + 1) _ _ _ _ (by omega) ?_ ?_))⟩⟩⟩⟩
    · intro i hi
      unfold bq_up
      by_cases e : i = s
      · rw [if_pos e]
        exact hm _ (by omega)
      · rw [if_neg e]
        exact hm _ hi
    · rw [bq_shs (by omega), bq_shs (by omega), bq_shs (by omega), bq_shs (by omega)]
      exact hp
theorem bx_take {post : SX → Prop} {s : Nat} (hc : c ≤ 24) (hs : s < c) (hm : ∀ i, i < c → mk i = 0 ∨ mk i = 1) (h : post (bq_x b l (c - 1) nx (bq_sh s c K) (bq_sh s c nu) (bq_sh s c co) (bq_sh s c mk) U S w)) : wpX_takeAway post (bq_x b l c nx K nu co mk U S w) (nI s) :=
  ⟨c - (s + 1) + 1, bx_take_l hc _ s K nu co mk (by omega) hm h⟩
theorem by_take_l {post : SY → Prop} (hc : c ≤ 24) : ∀ d s (K : Nat → Nat) (nu co ob : Nat → Int32), s + 1 + d = c → (∀ i, i < c → ob i = 0 ∨ ob i = 1) → post (bq_y b l (c - 1) nx (bq_sh s c K) (bq_sh s c nu) (bq_sh s c co) (bq_sh s c ob) U S w) → wY_take_2 post (nI (bq_c b)) (nI l) (nI nx) (nI c) (d + 1) (nI s) nu (fun i => nI (bq_c (K i))) ob co (fun i => nI (bq_c (U i))) (bq_h S) w := by
  intro d
  induction d with
  | zero =>
    intro s K nu co ob hs hm hp
    simp only [bq_sh0 (show c ≤ s + 1 by omega)] at hp
    have e : nI c - 1 = nI (c - 1) := pk_sub (a := c) (b := 1) (by omega)
    refine br_t ?_ (nm_r e hp)
    rw [e]
    exact nI_le (by omega) (by omega)
  | succ d ih =>
    intro s K nu co ob hs hm hp
    have e : nI c - 1 = nI (c - 1) := pk_sub (a := c) (b := 1) (by omega)
    have hcl : (nI s).toNatClampNeg = s := nI_clamp (by omega)
    have hcl1 : (nI s + 1).toNatClampNeg = s + 1 := by rw [nI_1]; exact nI_clamp (by omega)
    have hi : vp_in (nI s) 24 := vp_in_nI (by omega) (by decide)
    have hi1 : vp_in (nI s + 1) 24 := by rw [nI_1]; exact vp_in_nI (by omega) (by decide)
    have hn : ¬ nI c - 1 ≤ nI s := by rw [e]; exact nI_ge (by omega) (by omega)
    have hm1 := bq_nar (hm (s + 1) (by omega))
    have e1 : upd (fun i => nI (bq_c (K i))) (nI s).toNatClampNeg ((fun i => nI (bq_c (K i))) (nI s + 1).toNatClampNeg) = fun i => nI (bq_c (bq_up K s (K (s + 1)) i)) := by
      rw [hcl, hcl1]
      exact bq_updN _ K s (K (s + 1)) bq_c rfl
    have e2 : upd nu (nI s).toNatClampNeg (nu (nI s + 1).toNatClampNeg) = bq_up nu s (nu (s + 1)) := by rw [hcl, hcl1]; rfl
    have e3 : upd co (nI s).toNatClampNeg (co (nI s + 1).toNatClampNeg) = bq_up co s (co (s + 1)) := by rw [hcl, hcl1]; rfl
    have e4 : upd ob (nI s).toNatClampNeg (vp_nar .boolean (ob (nI s + 1).toNatClampNeg)) = bq_up ob s (ob (s + 1)) := by rw [hcl, hcl1, hm1]; rfl
    refine br_f hn ⟨hi1, hi, nm_r e2 ⟨hi1, hi, nm_r e1 ⟨hi1, hi, nm_r e4 ⟨hi1, hi, nm_r e3 (nm_r (nI_1 s) (ih (s + 1) _ _ _ _ (by omega) ?_ ?_))⟩⟩⟩⟩
    · intro i hi
      unfold bq_up
      by_cases e : i = s
      · rw [if_pos e]
        exact hm _ (by omega)
      · rw [if_neg e]
        exact hm _ hi
    · rw [bq_shs (by omega), bq_shs (by omega), bq_shs (by omega), bq_shs (by omega)]
      exact hp
theorem by_take {post : SY → Prop} {s : Nat} (hc : c ≤ 24) (hs : s < c) (hm : ∀ i, i < c → ob i = 0 ∨ ob i = 1) (h : post (bq_y b l (c - 1) nx (bq_sh s c K) (bq_sh s c nu) (bq_sh s c co) (bq_sh s c ob) U S w)) : wpY_take post (bq_y b l c nx K nu co ob U S w) (nI s) :=
  ⟨c - (s + 1) + 1, by_take_l hc _ s K nu co ob (by omega) hm h⟩
theorem bz_takeC {s : Nat} (h : bq_C c K mk ob) (hs : s < c) : bq_C (c - 1) (bq_sh s c K) (bq_sh s c mk) (bq_sh s c ob) := by
  obtain ⟨h1, h2, h3, h4⟩ := h
  refine ⟨by omega, fun i => ?_, fun i hi => ?_, fun i hi => ?_⟩
  · unfold bq_sh
    split
    · exact h2 _
    · exact h2 _
  · unfold bq_sh
    split
    · exact h3 _ (by omega)
    · exact h3 _ (by omega)
  · unfold bq_sh
    by_cases e : s ≤ i ∧ i + 1 < c
    · rw [if_pos e, if_pos e]
      exact h4 _ (by omega)
    · rw [if_neg e, if_neg e]
      exact h4 _ (by omega)
theorem bz_mk (h : bq_C c K mk ob) (i : Nat) (hi : i < c) : mk i = 0 ∨ mk i = 1 := by
  rcases h.2.2.2 i hi with h | h
  · exact Or.inl h.1
  · exact Or.inr h.1
theorem bz_ob (h : bq_C c K mk ob) (i : Nat) (hi : i < c) : ob i = 0 ∨ ob i = 1 := by
  rcases h.2.2.2 i hi with h | h
  · exact Or.inr h.2
  · exact Or.inl h.2
/-! both: a version more -/
theorem bx_add1 {post : Int32 → SX → Prop} {q : Nat} {v m : Int32} (hc : c < 24) (hm : m = 0 ∨ m = 1) (h : post (nI nx) (bq_x b l (c + 1) (nx + 1) (bq_up K c q) (bq_up nu c (nI nx)) (bq_up co c v) (bq_up mk c m) U S w)) : wpX_addVersion post (bq_x b l c nx K nu co mk U S w) (nI q) v m := by
  have hcl : (nI c).toNatClampNeg = c := nI_clamp (by omega)
  have hi : vp_in (nI c) 24 := vp_in_nI hc (by decide)
  have e1 : upd (fun i => nI (K i)) (nI c).toNatClampNeg (nI q) = fun i => nI (bq_up K c q i) := by
    rw [hcl]
    exact bq_updN _ K c q (fun x => x) rfl
  have e2 : upd nu (nI c).toNatClampNeg (nI nx) = bq_up nu c (nI nx) := by rw [hcl]; rfl
  have e3 : upd co (nI c).toNatClampNeg v = bq_up co c v := by rw [hcl]; rfl
  have e4 : upd mk (nI c).toNatClampNeg (vp_nar .boolean m) = bq_up mk c m := by rw [hcl, bq_nar hm]; rfl
  exact br_t (nI_lt (b := 24) hc (by decide)) ⟨hi, nm_r e1 ⟨hi, nm_r e2 ⟨hi, nm_r e3 ⟨hi, nm_r e4 (nm_r (nI_1 c) (nm_r (nI_1 nx) h))⟩⟩⟩⟩
theorem bx_add0 {post : Int32 → SX → Prop} {q v m : Int32} (hc : c = 24) (h : post (-2) (bq_x b l c nx K nu co mk U S w)) : wpX_addVersion post (bq_x b l c nx K nu co mk U S w) q v m :=
  br_f (nI_nlt (b := 24) (by omega) (by omega)) h
theorem by_add1 {post : Int32 → SY → Prop} {q : Nat} {v m : Int32} (hc : c < 24) (hm : m = 0 ∨ m = 1) (h : post (nI nx) (bq_y b l (c + 1) (nx + 1) (bq_up K c q) (bq_up nu c (nI nx)) (bq_up co c v) (bq_up ob c m) U S w)) : wpY_make post (bq_y b l c nx K nu co ob U S w) (nI (bq_c q)) m v := by
  have hcl : (nI c).toNatClampNeg = c := nI_clamp (by omega)
  have hi : vp_in (nI c) 24 := vp_in_nI hc (by decide)
  have e1 : upd (fun i => nI (bq_c (K i))) (nI c).toNatClampNeg (nI (bq_c q)) = fun i => nI (bq_c (bq_up K c q i)) := by
    rw [hcl]
    exact bq_updN _ K c q bq_c rfl
  have e2 : upd nu (nI c).toNatClampNeg (nI nx) = bq_up nu c (nI nx) := by rw [hcl]; rfl
  have e3 : upd co (nI c).toNatClampNeg v = bq_up co c v := by rw [hcl]; rfl
  have e4 : upd ob (nI c).toNatClampNeg (vp_nar .boolean m) = bq_up ob c m := by rw [hcl, bq_nar hm]; rfl
  refine br_f (fun z => absurd (bq_ni (b := 24) (by omega) (by decide) z) (by omega)) ⟨hi, nm_r e2 ⟨hi, nm_r e1 ⟨hi, nm_r e4 ⟨hi, nm_r e3 (nm_r (nI_1 c) (nm_r (nI_1 nx) ?_))⟩⟩⟩⟩
  rw [nI_pred]
  exact h
theorem by_add0 {post : Int32 → SY → Prop} {q v m : Int32} (hc : c = 24) (h : post (-2) (bq_y b l c nx K nu co ob U S w)) : wpY_make post (bq_y b l c nx K nu co ob U S w) q m v :=
  br_t (congrArg nI hc) h
theorem bz_addC {q : Nat} {m o : Int32} (h : bq_C c K mk ob) (hc : c < 24) (hq : bq_V q) (h0 : q ≠ 0) (hm : (m = 0 ∧ o = 1) ∨ (m = 1 ∧ o = 0)) : bq_C (c + 1) (bq_up K c q) (bq_up mk c m) (bq_up ob c o) := by
  obtain ⟨h1, h2, h3, h4⟩ := h
  refine ⟨by omega, fun i => ?_, fun i hi => ?_, fun i hi => ?_⟩
  · unfold bq_up
    split
    · exact hq
    · exact h2 _
  · unfold bq_up
    by_cases e : i = c
    · rw [if_pos e]
      exact h0
    · rw [if_neg e]
      exact h3 _ (by omega)
  · unfold bq_up
    by_cases e : i = c
    · rw [if_pos e, if_pos e]
      exact hm
    · rw [if_neg e, if_neg e]
      exact h4 _ (by omega)
end
