/-! expire -/
section
variable {b l nx : Nat} {U : Nat → Nat} {S w : Nat → Int32}
theorem bz_e1_l {m : Nat} (hm : m ≤ 24) : ∀ d c (K : Nat → Nat) (nu co mk ob : Nat → Int32), bq_C c K mk ob → d ≤ c → ∃ (c' : Nat) (K' : Nat → Nat) (nu' co' mk' ob' : Nat → Int32), bq_C c' K' mk' ob' ∧ (∀ post : SX → Prop, post (bq_x b l c' nx K' nu' co' mk' U S w) → ∀ x, x = nI d + (-1) → wX_takeAwayBehind_7 post (nI (m + 1)) (d + 1) x (nI b) (nI l) (nI c) (nI nx) (fun i => nI (K i)) nu co mk (fun i => nI (U i)) S w) ∧ (∀ (post : Int32 → SY → Prop) z, wY_expire_34 post z (nI m) 1 (nI 0 + (-1)) (nI (bq_c b)) (nI l) (nI nx) (nI c') nu' (fun i => nI (bq_c (K' i))) ob' co' (fun i => nI (bq_c (U i))) (bq_h S) w → ∀ x, x = nI d + (-1) → wY_expire_34 post z (nI m) (d + 1) x (nI (bq_c b)) (nI l) (nI nx) (nI c) nu (fun i => nI (bq_c (K i))) ob co (fun i => nI (bq_c (U i))) (bq_h S) w) := by
  intro d
  induction d with
  | zero =>
    intro c K nu co mk ob hC _
    refine ⟨c, K, nu, co, mk, ob, hC, fun post hp x hx => ?_, fun post z hp x hx => ?_⟩
    · subst hx
      exact br_t bq_z1 hp
    · subst hx
      exact hp
  | succ d ih =>
    intro c K nu co mk ob hC hd
    have hc := hC.1
    have hV := hC.2.1
    have hcl : (nI d).toNatClampNeg = d := nI_clamp (by omega)
    have hi : vp_in (nI d) 24 := vp_in_nI (by omega) (by decide)
    have h0 : ¬ nI d < 0 := nI_pos (by omega)
    have hk : (fun i => nI (K i)) (nI d).toNatClampNeg = nI (K d) := congrArg (fun i => nI (K i)) hcl
    have hb := bq_Nc (K := K) (q := K d) (c := c) (s := d + 1)
    have em : nI (m + 1) - 1 = nI m := nI_pred m
    by_cases h : bq_N K (K d) c (d + 1) ≤ m
    · obtain ⟨c', K', nu', co', mk', ob', hC', hX, hY⟩ := ih c K nu co mk ob hC (by omega)
      refine ⟨c', K', nu', co', mk', ob', hC', fun post hp x hx => ?_, fun post z hp x hx => ?_⟩
      · rw [pk_m1] at hx
        subst hx
        refine br_f h0 ⟨hi, ?_⟩
        rw [hk, em]
        refine bx_slot hc hV (hV d) (fun _ => ?_) (fun t ht et hN => ?_)
        · exact br_t (Int32.le_trans (by decide : (-1 : Int32) ≤ 0) (nI_pos' (by omega))) (hX post hp)
        · have hb2 := bq_Nc (K := K) (q := K d) (c := c) (s := t + 1)
          have hN2 := bq_ni (by omega) (by omega) hN
          refine br_t (nI_le ?_ (by omega)) (hX post hp)
          rcases Nat.lt_or_ge d t with h1 | h1
          · have := bq_Nlt2 (K := K) (q := K d) (c := c) h1 ht et
            omega
          · exact h1
      · rw [pk_m1] at hx
        subst hx
        refine br_f h0 ?_
        refine by_newer hc hV (by omega) ?_
        exact br_t (nI_le h (by omega)) (hY post z hp)
    · obtain ⟨t, t1, t2, t3, t4⟩ := bq_hit (K := K) (q := K d) (c := c) (c - (d + 1)) (d + 1) m (by omega) (by omega)
      obtain ⟨c', K', nu', co', mk', ob', hC', hX, hY⟩ := ih (c - 1) (bq_sh d c K) (bq_sh d c nu) (bq_sh d c co) (bq_sh d c mk) (bq_sh d c ob) (bz_takeC hC (by omega)) (by omega)
      refine ⟨c', K', nu', co', mk', ob', hC', fun post hp x hx => ?_, fun post z hp x hx => ?_⟩
      · rw [pk_m1] at hx
        subst hx
        refine br_f h0 ⟨hi, ?_⟩
        rw [hk, em]
        refine bx_slot1 hc hV (hV d) t2 t3 t4 ?_
        refine br_f (nI_ge (by omega) (by omega)) ?_
        refine bx_take hc (by omega) (bz_mk hC) ?_
        exact hX post hp
      · rw [pk_m1] at hx
        subst hx
        refine br_f h0 ?_
        refine by_newer hc hV (by omega) ?_
        refine br_f (nI_ge (by omega) (by omega)) ?_
        refine by_take hc (by omega) (bz_ob hC) ?_
        exact hY post z hp
theorem bz_e1 {m c : Nat} {K : Nat → Nat} {nu co mk ob : Nat → Int32} (hm : m ≤ 24) (hC : bq_C c K mk ob) : ∃ (c' : Nat) (K' : Nat → Nat) (nu' co' mk' ob' : Nat → Int32), bq_C c' K' mk' ob' ∧ (∀ post : SX → Prop, post (bq_x b l c' nx K' nu' co' mk' U S w) → wpX_takeAwayBehind post (bq_x b l c nx K nu co mk U S w) (nI (m + 1))) ∧ (∀ (post : Int32 → SY → Prop) z, wY_expire_34 post z (nI m) 1 (nI 0 + (-1)) (nI (bq_c b)) (nI l) (nI nx) (nI c') nu' (fun i => nI (bq_c (K' i))) ob' co' (fun i => nI (bq_c (U i))) (bq_h S) w → ∀ x, x = nI c - 1 → ∃ n, wY_expire_34 post z (nI m) n x (nI (bq_c b)) (nI l) (nI nx) (nI c) nu (fun i => nI (bq_c (K i))) ob co (fun i => nI (bq_c (U i))) (bq_h S) w) := by
  obtain ⟨c', K', nu', co', mk', ob', hC', hX, hY⟩ := bz_e1_l (b := b) (l := l) (nx := nx) (U := U) (S := S) (w := w) hm c c K nu co mk ob hC (Nat.le_refl c)
  refine ⟨c', K', nu', co', mk', ob', hC', fun post hp => ?_, fun post z hp x hx => ⟨c + 1, hY post z hp x (hx.trans (bq_s1 c))⟩⟩
  show ∀ x2 : Int32, x2 = nI c - 1 → ∃ n, wX_takeAwayBehind_7 post (nI (m + 1)) n x2 (nI b) (nI l) (nI c) (nI nx) (fun i => nI (K i)) nu co mk (fun i => nI (U i)) S w
  exact fun x hx => ⟨c + 1, hX post hp x (hx.trans (bq_s1 c))⟩
theorem bx_lone1 {post : Int32 → Prop} {c q : Nat} {K : Nat → Nat} {nu co mk : Nat → Int32} (hc : c ≤ 24) (hV : ∀ j, bq_V (K j)) (hq : bq_V q) (hN : bq_N K q c 0 = 1) (h : post 1) : wpX_isLone post (bq_x b l c nx K nu co mk U S w) (nI q) := by
  unfold wpX_isLone
  dsimp only
  refine bx_slot0 (m := 1) hc hV hq (by decide) (fun t ht et h2 => ?_) ?_
  · have h3 := bq_Nm (K := K) (q := q) (c := c) (Nat.zero_le t)
    rw [bq_Nt ht et] at h3
    omega
  · exact br_t rfl h
theorem bx_lone0 {post : Int32 → Prop} {c q : Nat} {K : Nat → Nat} {nu co mk : Nat → Int32} (hc : c ≤ 24) (hV : ∀ j, bq_V (K j)) (hq : bq_V q) (hN : 1 < bq_N K q c 0) (h : post 0) : wpX_isLone post (bq_x b l c nx K nu co mk U S w) (nI q) := by
  unfold wpX_isLone
  dsimp only
  obtain ⟨t, _, t2, t3, t4⟩ := bq_hit (K := K) (q := q) (c := c) c 0 1 (by omega) hN
  refine bx_slot1 (m := 1) hc hV hq t2 t3 t4 ?_
  exact br_f (bq_nm1 (by omega)) h
theorem bz_e2_l : ∀ d c (K : Nat → Nat) (nu co mk ob : Nat → Int32), bq_C c K mk ob → d ≤ c → ∃ (c' : Nat) (K' : Nat → Nat) (nu' co' mk' ob' : Nat → Int32), bq_C c' K' mk' ob' ∧ (∀ post : SX → Prop, post (bq_x b l c' nx K' nu' co' mk' U S w) → ∀ x, x = nI d + (-1) → wX_takeAwayLoneMarkers_7 post (d + 1) x (nI b) (nI l) (nI c) (nI nx) (fun i => nI (K i)) nu co mk (fun i => nI (U i)) S w) ∧ (∀ (post : Int32 → SY → Prop) z, post (z - nI c') (bq_y b l c' nx K' nu' co' ob' U S w) → ∀ x, x = nI d + (-1) → wY_expire_69 post z (d + 1) x (nI (bq_c b)) (nI l) (nI nx) (nI c) nu (fun i => nI (bq_c (K i))) ob co (fun i => nI (bq_c (U i))) (bq_h S) w) := by
  intro d
  induction d with
  | zero =>
    intro c K nu co mk ob hC _
    refine ⟨c, K, nu, co, mk, ob, hC, fun post hp x hx => ?_, fun post z hp x hx => ?_⟩
    · subst hx
      exact br_t bq_z1 hp
    · subst hx
      exact br_t bq_z1 hp
  | succ d ih =>
    intro c K nu co mk ob hC hd
    have hc := hC.1
    have hV := hC.2.1
    have hcl : (nI d).toNatClampNeg = d := nI_clamp (by omega)
    have hi : vp_in (nI d) 24 := vp_in_nI (by omega) (by decide)
    have h0 : ¬ nI d < 0 := nI_pos (by omega)
    have hk : (fun i => nI (K i)) (nI d).toNatClampNeg = nI (K d) := congrArg (fun i => nI (K i)) hcl
    have hky : (fun i => nI (bq_c (K i))) (nI d).toNatClampNeg = nI (bq_c (K d)) := congrArg (fun i => nI (bq_c (K i))) hcl
    have hb := bq_Nc (K := K) (q := K d) (c := c) (s := 0)
    have h1 : 1 ≤ bq_N K (K d) c 0 := by
      have h3 := bq_Nm (K := K) (q := K d) (c := c) (Nat.zero_le d)
      rw [bq_Nt (by omega) rfl] at h3
      omega
    rcases hC.2.2.2 d (by omega) with ⟨m0, o1⟩ | ⟨m1, o0⟩
    · obtain ⟨c', K', nu', co', mk', ob', hC', hX, hY⟩ := ih c K nu co mk ob hC (by omega)
      refine ⟨c', K', nu', co', mk', ob', hC', fun post hp x hx => ?_, fun post z hp x hx => ?_⟩
      · rw [pk_m1] at hx
        subst hx
        exact br_f h0 ⟨hi, br_t ((congrArg mk hcl).trans m0) (hX post hp)⟩
      · rw [pk_m1] at hx
        subst hx
        exact br_f h0 ⟨hi, br_f (fun z => absurd (((congrArg ob hcl).trans o1).symm.trans z) (by decide)) (hY post z hp)⟩
    · have hmk : ¬ mk (nI d).toNatClampNeg = 0 := fun z => absurd (((congrArg mk hcl).trans m1).symm.trans z) (by decide)
      have hob : ob (nI d).toNatClampNeg = 0 := (congrArg ob hcl).trans o0
      by_cases h : bq_N K (K d) c 0 = 1
      · obtain ⟨c', K', nu', co', mk', ob', hC', hX, hY⟩ := ih (c - 1) (bq_sh d c K) (bq_sh d c nu) (bq_sh d c co) (bq_sh d c mk) (bq_sh d c ob) (bz_takeC hC (by omega)) (by omega)
        refine ⟨c', K', nu', co', mk', ob', hC', fun post hp x hx => ?_, fun post z hp x hx => ?_⟩
        · rw [pk_m1] at hx
          subst hx
          refine br_f h0 ⟨hi, br_f hmk ⟨hi, ?_⟩⟩
          rw [hk]
          refine bx_lone1 hc hV (hV d) h ?_
          refine br_f (by decide) ?_
          refine bx_take hc (by omega) (bz_mk hC) ?_
          exact hX post hp
        · rw [pk_m1] at hx
          subst hx
          refine br_f h0 ⟨hi, br_t hob ⟨hi, ?_⟩⟩
          rw [hky]
          refine by_vers hc hV (hV d) ?_
          rw [h]
          refine br_t rfl ?_
          refine by_take hc (by omega) (bz_ob hC) ?_
          exact hY post z hp
      · obtain ⟨c', K', nu', co', mk', ob', hC', hX, hY⟩ := ih c K nu co mk ob hC (by omega)
        refine ⟨c', K', nu', co', mk', ob', hC', fun post hp x hx => ?_, fun post z hp x hx => ?_⟩
        · rw [pk_m1] at hx
          subst hx
          refine br_f h0 ⟨hi, br_f hmk ⟨hi, ?_⟩⟩
          rw [hk]
          refine bx_lone0 hc hV (hV d) (by omega) ?_
          exact br_t rfl (hX post hp)
        · rw [pk_m1] at hx
          subst hx
          refine br_f h0 ⟨hi, br_t hob ⟨hi, ?_⟩⟩
          rw [hky]
          refine by_vers hc hV (hV d) ?_
          exact br_f (fun e => h (bq_ni (b := 1) (by omega) (by decide) e)) (hY post z hp)
theorem bz_e2 {c : Nat} {K : Nat → Nat} {nu co mk ob : Nat → Int32} (hC : bq_C c K mk ob) : ∃ (c' : Nat) (K' : Nat → Nat) (nu' co' mk' ob' : Nat → Int32), bq_C c' K' mk' ob' ∧ (∀ post : SX → Prop, post (bq_x b l c' nx K' nu' co' mk' U S w) → wpX_takeAwayLoneMarkers post (bq_x b l c nx K nu co mk U S w)) ∧ (∀ (post : Int32 → SY → Prop) z, post (z - nI c') (bq_y b l c' nx K' nu' co' ob' U S w) → ∀ x, x = nI c - 1 → ∃ n, wY_expire_69 post z n x (nI (bq_c b)) (nI l) (nI nx) (nI c) nu (fun i => nI (bq_c (K i))) ob co (fun i => nI (bq_c (U i))) (bq_h S) w) := by
  obtain ⟨c', K', nu', co', mk', ob', hC', hX, hY⟩ := bz_e2_l (b := b) (l := l) (nx := nx) (U := U) (S := S) (w := w) c c K nu co mk ob hC (Nat.le_refl c)
  refine ⟨c', K', nu', co', mk', ob', hC', fun post hp => ?_, fun post z hp x hx => ⟨c + 1, hY post z hp x (hx.trans (bq_s1 c))⟩⟩
  show ∀ x2 : Int32, x2 = nI c - 1 → ∃ n, wX_takeAwayLoneMarkers_7 post n x2 (nI b) (nI l) (nI c) (nI nx) (fun i => nI (K i)) nu co mk (fun i => nI (U i)) S w
  exact fun x hx => ⟨c + 1, hX post hp x (hx.trans (bq_s1 c))⟩
end
theorem i_vc_expire {k : Nat} {u : SX} {v : SY} (I : i_Rel k u v) (hk : k + 4 ≤ 2048) (v1 : Int32) : wpX_expire (fun r u' => wpY_expire (fun r' v' => r' = r ∧ i_Rel (k + 4) u' v') v v1) u v1 := by
  obtain ⟨b, l, c, nx, K, nu, co, mk, ob, U, S, w, rfl, rfl, hB, hC, hU, hx⟩ := I
  obtain ⟨m, hm, hcase⟩ : ∃ m, m ≤ 24 ∧ ((¬ 0 ≤ v1 ∧ m = 0) ∨ (0 ≤ v1 ∧ v1 ≤ 24 ∧ v1 = nI m) ∨ (0 ≤ v1 ∧ ¬ v1 ≤ 24 ∧ m = 24)) := by
    by_cases h0 : 0 ≤ v1
    · by_cases h24 : v1 ≤ 24
      · obtain ⟨m, hm, e⟩ := nI_of2 (n := 24) (by decide) (Int32.not_lt.mpr h0) h24
        exact ⟨m, hm, Or.inr (Or.inl ⟨h0, h24, e⟩)⟩
      · exact ⟨24, by decide, Or.inr (Or.inr ⟨h0, h24, rfl⟩)⟩
    · exact ⟨0, by decide, Or.inl ⟨h0, rfl⟩⟩
  obtain ⟨c1, K1, nu1, co1, mk1, ob1, hC1, X1, Y1⟩ := bz_e1 (b := b) (l := l) (nx := nx) (U := U) (S := S) (w := w) (nu := nu) (co := co) hm hC
  obtain ⟨c2, K2, nu2, co2, mk2, ob2, hC2, X2, Y2⟩ := bz_e2 (b := b) (l := l) (nx := nx) (U := U) (S := S) (w := w) (nu := nu1) (co := co1) hC1
  have fin : i_Rel (k + 4) (bq_x b l c2 nx K2 nu2 co2 mk2 U S w) (bq_y b l c2 nx K2 nu2 co2 ob2 U S w) := ⟨b, l, c2, nx, K2, nu2, co2, mk2, ob2, U, S, w, rfl, rfl, hB, hC2, hU, by omega⟩
  unfold wpX_expire wpY_expire
  dsimp only
  rcases hcase with ⟨h0, rfl⟩ | ⟨h0, h24, rfl⟩ | ⟨h0, h24, rfl⟩
  · refine br_f h0 (nm_r (nI_1 0) ?_)
    refine X1 _ ?_
    refine X2 _ ?_
    exact br_f h0 (Y1 _ _ (br_t bq_z1 (Y2 _ _ ⟨rfl, fin⟩)))
  · refine br_t h0 (br_t h24 (nm_r (nI_1 m) ?_))
    refine X1 _ ?_
    refine X2 _ ?_
    exact br_t h0 (br_t h24 (Y1 _ _ (br_t bq_z1 (Y2 _ _ ⟨rfl, fin⟩))))
  · refine br_t h0 (br_f h24 (nm_r (nI_1 24) ?_))
    refine X1 _ ?_
    refine X2 _ ?_
    exact br_t h0 (br_f h24 (Y1 _ _ (br_t bq_z1 (Y2 _ _ ⟨rfl, fin⟩))))
