theorem rd_count (q : Int32) (al se va wi wo ki ta so st sy : Nat → Int32) (p w : Int32) : ∀ d j : Nat, j + d = 24 → ∀ x : Int32, ∃ r : Int32, (∀ post : Int32 → Prop, post r → wX_count_21 post p w q al se va wi wo ki ta so st (d + 1) x (nI j)) ∧ (∀ post : Int32 → Prop, post r → wY_count_23 post p w q al se va wi wo ki ta so sy (d + 1) x (nI j)) := by
  intro d
  induction d with
  | zero =>
    intro j hj x
    have h : (24 : Int32) ≤ nI j := nI_le (a := 24) (by omega) (by omega)
    exact ⟨x, fun _ hp => br_t h hp, fun _ hp => br_t h hp⟩
  | succ d ih =>
    intro j hj x
    have h : ¬ (24 : Int32) ≤ nI j := nI_ge (b := 24) (by omega) (by decide)
    obtain ⟨r, _, hX, hY⟩ := sm_fits q al se va wi wo ki ta so st sy p w (j := j) (by omega)
    by_cases z : r = 0
    · obtain ⟨r', hX', hY'⟩ := ih (j + 1) (by omega) x
      exact ⟨r', fun post hp => br_f h (hX _ (br_t z (nm_r (nI_1 j) (hX' post hp)))), fun post hp => br_f h (hY _ (br_t z (nm_r (nI_1 j) (hY' post hp))))⟩
    · obtain ⟨r', hX', hY'⟩ := ih (j + 1) (by omega) (x + 1)
      exact ⟨r', fun post hp => br_f h (hX _ (br_f z (nm_e (nm_r (nI_1 j) (hX' post hp))))), fun post hp => br_f h (hY _ (br_f z (nm_e (nm_r (nI_1 j) (hY' post hp)))))⟩
theorem i_vc_count {k : Nat} {u : SX} {v : SY} (I : i_Rel k u v) (hk : k + 4 ≤ 2048) (v1 : Int32) (v2 : Int32) : wpX_count (fun r => wpY_count (fun r' => r' = r ∧ i_Rel (k + 4) u v) v v1 v2) u v1 v2 := by
  have J := i_up I
  obtain ⟨m, al, se, va, wi, wo, ki, ta, so, st, sy, rfl, rfl, R⟩ := I
  unfold wpX_count wpY_count
  dsimp only
  obtain ⟨r1, h1, hX1, hY1⟩ := sm_isSet (nI m, al, se, va, wi, wo, ki, ta, so, sy) v1
  obtain ⟨r2, h2, hX2, hY2⟩ := sm_isSet (nI m, al, se, va, wi, wo, ki, ta, so, sy) v2
  refine hX1 _ ?_
  rcases h1 with rfl | ⟨rfl, a, ha, rfl⟩
  · exact br_t rfl (hY1 _ (br_t rfl ⟨rfl, J⟩))
  · refine br_f aw_10 (hX2 _ ?_)
    rcases h2 with rfl | ⟨rfl, b, hb, rfl⟩
    · exact br_t rfl (hY1 _ (br_f aw_10 (hY2 _ (br_t rfl ⟨rfl, J⟩))))
    · obtain ⟨r, hX, hY⟩ := rd_count (nI m) al se va wi wo ki ta so st sy (nI a) (nI b) 24 0 rfl 0
      exact br_f aw_10 ⟨_, hX _ (hY1 _ (br_f aw_10 (hY2 _ (br_f aw_10 ⟨_, hY _ ⟨rfl, J⟩⟩))))⟩
theorem rd_a0 (x : Int32) : (x &&& 0) = 0 := by
  apply b_ext
  intro i _
  rw [b_and, b_0, Bool.and_false]
theorem rd_living (q : Int32) (al se va wi wo ki ta so st sy : Nat → Int32) : ∀ d j : Nat, j + d = 24 → ∀ x : Int32, ∃ r : Int32, (∀ post : Int32 → Prop, post r → wX_living_4 post q al se va wi wo ki ta so st (d + 1) x (nI j)) ∧ (∀ post : Int32 → Prop, post r → wY_count_23 post 0 0 q al se va wi wo ki ta so sy (d + 1) x (nI j)) := by
  intro d
  induction d with
  | zero =>
    intro j hj x
    have h : (24 : Int32) ≤ nI j := nI_le (a := 24) (by omega) (by omega)
    exact ⟨x, fun _ hp => br_t h hp, fun _ hp => br_t h hp⟩
  | succ d ih =>
    intro j hj x
    have h : ¬ (24 : Int32) ≤ nI j := nI_ge (b := 24) (by omega) (by decide)
    have hi : vp_in (nI j) 24 := vp_in_nI (by omega) (by decide)
    have hc : (nI j).toNatClampNeg = j := aw_cl (by omega)
    obtain ⟨r, hr, hX, hY⟩ := sm_fits q al se va wi wo ki ta so st sy 0 0 (j := j) (by omega)
    have hz : r = 0 ↔ al j = 0 := by
      rw [hr]
      constructor
      · rintro (e | e | e)
        · exact e
        · exact absurd (rd_a0 _) e
        · exact absurd (rd_a0 _) e
      · exact Or.inl
    by_cases z : r = 0
    · obtain ⟨r', hX', hY'⟩ := ih (j + 1) (by omega) x
      exact ⟨r', fun post hp => br_f h ⟨hi, br_t (by rw [hc]; exact hz.mp z) (nm_r (nI_1 j) (hX' post hp))⟩, fun post hp => br_f h (hY _ (br_t z (nm_r (nI_1 j) (hY' post hp))))⟩
    · obtain ⟨r', hX', hY'⟩ := ih (j + 1) (by omega) (x + 1)
      exact ⟨r', fun post hp => br_f h ⟨hi, br_f (by rw [hc]; exact fun e => z (hz.mpr e)) (nm_e (nm_r (nI_1 j) (hX' post hp)))⟩, fun post hp => br_f h (hY _ (br_f z (nm_e (nm_r (nI_1 j) (hY' post hp)))))⟩
theorem i_vc_living {k : Nat} {u : SX} {v : SY} (I : i_Rel k u v) (hk : k + 4 ≤ 2048) : wpX_living (fun r => wpY_living (fun r' => r' = r ∧ i_Rel (k + 4) u v) v) u := by
  have J := i_up I
  obtain ⟨m, al, se, va, wi, wo, ki, ta, so, st, sy, rfl, rfl, R⟩ := I
  unfold wpX_living wpY_living wpY_count
  dsimp only
  have hs : ∀ post : Int32 → Prop, post 1 → wpY_isSet post (nI m, al, se, va, wi, wo, ki, ta, so, sy) 0 := fun post hp => br_f (by decide) (br_f (by decide) hp)
  obtain ⟨r, hX, hY⟩ := rd_living (nI m) al se va wi wo ki ta so st sy 24 0 rfl 0
  exact ⟨_, hX _ (hs _ (br_f aw_10 (hs _ (br_f aw_10 ⟨_, hY _ ⟨rfl, J⟩⟩))))⟩
/-- next: both from the same j on -/
theorem rd_next (q : Int32) (al se va wi wo ki ta so st sy : Nat → Int32) (p w f : Int32) : ∀ d j : Nat, j + d = 24 → (∀ i : Nat, j ≤ i → i < 24 → ¬ nI i < f) → ∃ r : Int32, (∀ post : Int32 → Prop, post r → wX_next_31 post p w q al se va wi wo ki ta so st (d + 1) (nI j)) ∧ (∀ post : Int32 → Prop, post r → wY_next_21 post p w f q al se va wi wo ki ta so sy (d + 1) (nI j)) := by
  intro d
  induction d with
  | zero =>
    intro j hj _
    have h : (24 : Int32) ≤ nI j := nI_le (a := 24) (by omega) (by omega)
    exact ⟨-4, fun _ hp => br_t h hp, fun _ hp => br_t h hp⟩
  | succ d ih =>
    intro j hj hf
    have h : ¬ (24 : Int32) ≤ nI j := nI_ge (b := 24) (by omega) (by decide)
    have hg : ¬ nI j < f := hf j (by omega) (by omega)
    obtain ⟨r, _, hX, hY⟩ := sm_fits q al se va wi wo ki ta so st sy p w (j := j) (by omega)
    by_cases z : r = 0
    · obtain ⟨r', hX', hY'⟩ := ih (j + 1) (by omega) (fun i h1 h2 => hf i (by omega) h2)
      exact ⟨r', fun post hp => br_f h (hX _ (br_t z (nm_r (nI_1 j) (hX' post hp)))), fun post hp => br_f h (br_f hg (hY _ (br_t z (nm_r (nI_1 j) (hY' post hp)))))⟩
    · exact ⟨nI j, fun post hp => br_f h (hX _ (br_f z hp)), fun post hp => br_f h (br_f hg (hY _ (br_f z hp)))⟩
theorem rd_skip (q : Int32) (al se va wi wo ki ta so sy : Nat → Int32) (p w : Int32) (f n : Nat) (hf : f < 2 ^ 31) (post : Int32 → Prop) : ∀ d j : Nat, j + d ≤ 24 → j + d ≤ f → wY_next_21 post p w (nI f) q al se va wi wo ki ta so sy n (nI (j + d)) → wY_next_21 post p w (nI f) q al se va wi wo ki ta so sy (n + d) (nI j) := by
  intro d
  induction d with
  | zero => intro j _ _ h; exact h
  | succ d ih =>
    intro j h1 h2 h
    have e : j + (d + 1) = (j + 1) + d := by omega
    rw [e] at h
    exact br_f (nI_ge (b := 24) (by omega) (by decide)) (br_t (nI_lt (by omega) hf) (nm_r (nI_1 j) (ih (j + 1) (by omega) (by omega) h)))
theorem i_vc_next {k : Nat} {u : SX} {v : SY} (I : i_Rel k u v) (hk : k + 4 ≤ 2048) (v1 : Int32) (v2 : Int32) (v3 : Int32) : wpX_next (fun r => wpY_next (fun r' => r' = r ∧ i_Rel (k + 4) u v) v v1 v2 v3) u v1 v2 v3 := by
  have J := i_up I
  obtain ⟨m, al, se, va, wi, wo, ki, ta, so, st, sy, rfl, rfl, R⟩ := I
  unfold wpX_next wpY_next
  dsimp only
  obtain ⟨r1, h1, hX1, hY1⟩ := sm_isSet (nI m, al, se, va, wi, wo, ki, ta, so, sy) v1
  obtain ⟨r2, h2, hX2, hY2⟩ := sm_isSet (nI m, al, se, va, wi, wo, ki, ta, so, sy) v2
  refine hX1 _ ?_
  rcases h1 with rfl | ⟨rfl, a, ha, rfl⟩
  · exact br_t rfl (hY1 _ (br_t rfl ⟨rfl, J⟩))
  · refine br_f aw_10 (hX2 _ ?_)
    rcases h2 with rfl | ⟨rfl, b, hb, rfl⟩
    · exact br_t rfl (hY1 _ (br_f aw_10 (hY2 _ (br_t rfl ⟨rfl, J⟩))))
    · refine br_f aw_10 ?_
      by_cases h3 : v3 < 0
      · obtain ⟨r, hX, hY⟩ := rd_next (nI m) al se va wi wo ki ta so st sy (nI a) (nI b) v3 24 0 rfl (fun i _ hi z => by
          have := Int32.lt_trans z h3
          exact nI_pos (by omega) this)
        exact br_f (Int32.not_le.mpr h3) ⟨_, hX _ (hY1 _ (br_f aw_10 (hY2 _ (br_f aw_10 ⟨_, hY _ ⟨rfl, J⟩⟩))))⟩
      · refine br_t (Int32.not_lt.mp h3) ?_
        obtain ⟨f, hf, rfl⟩ := nI_of h3
        by_cases h4 : f < 24
        · obtain ⟨r, hX, hY⟩ := rd_next (nI m) al se va wi wo ki ta so st sy (nI a) (nI b) (nI f) (24 - f) f (by omega) (fun i h1 h2 => nI_nlt h1 (by omega))
          refine ⟨_, hX _ (hY1 _ (br_f aw_10 (hY2 _ (br_f aw_10 ⟨_, rd_skip (nI m) al se va wi wo ki ta so sy (nI a) (nI b) f (24 - f + 1) hf _ f 0 (by omega) (by omega) ?_⟩))))⟩
          rw [Nat.zero_add]
          exact hY _ ⟨rfl, J⟩
        · refine ⟨1, br_t (nI_le (a := 24) (by omega) hf) (hY1 _ (br_f aw_10 (hY2 _ (br_f aw_10 ⟨_, rd_skip (nI m) al se va wi wo ki ta so sy (nI a) (nI b) f 1 hf _ 24 0 (by omega) (by omega) ?_⟩))))⟩
          exact br_t (nI_le (a := 24) (b := 24) (by omega) (by decide)) ⟨rfl, J⟩
theorem rd_sum (q : Int32) (al se va wi wo ki ta so st sy : Nat → Int32) (p w : Int32) {c : Nat} (hc6 : c < 6) : ∀ d j : Nat, j + d = 24 → ∀ x : Int32, ∃ r : Int32, (∀ post : Int32 → Prop, post r → wX_sum_29 post p w (nI c) q al se va wi wo ki ta so st (d + 1) x (nI j)) ∧ (∀ post : Int32 → Prop, post r → wY_sum_32 post p w (nI c) q al se va wi wo ki ta so sy (d + 1) x (nI j)) := by
  intro d
  induction d with
  | zero =>
    intro j hj x
    have h : (24 : Int32) ≤ nI j := nI_le (a := 24) (by omega) (by omega)
    exact ⟨x, fun _ hp => br_t h hp, fun _ hp => br_t h hp⟩
  | succ d ih =>
    intro j hj x
    have h : ¬ (24 : Int32) ≤ nI j := nI_ge (b := 24) (by omega) (by decide)
    have hi : vp_in (nI j) 24 := vp_in_nI (by omega) (by decide)
    obtain ⟨r, _, hX, hY⟩ := sm_fits q al se va wi wo ki ta so st sy p w (j := j) (by omega)
    by_cases z : r = 0
    · obtain ⟨r', hX', hY'⟩ := ih (j + 1) (by omega) x
      exact ⟨r', fun post hp => br_f h (hX _ (br_t z (nm_r (nI_1 j) (hX' post hp)))), fun post hp => br_f h (hY _ (br_t z (nm_r (nI_1 j) (hY' post hp))))⟩
    · by_cases zb : sm_i (bt (se (nI j).toNatClampNeg) c) = 0
      · obtain ⟨r', hX', hY'⟩ := ih (j + 1) (by omega) x
        exact ⟨r', fun post hp => br_f h (hX _ (br_f z ⟨hi, sm_cX (by omega) (br_t zb (nm_r (nI_1 j) (hX' post hp)))⟩)), fun post hp => br_f h (hY _ (br_f z ⟨hi, sm_cY _ (by omega) (br_t zb (nm_r (nI_1 j) (hY' post hp)))⟩))⟩
      · obtain ⟨r', hX', hY'⟩ := ih (j + 1) (by omega) (x + va (6 * j + c))
        exact ⟨r', fun post hp => br_f h (hX _ (br_f z ⟨hi, sm_cX (by omega) (br_f zb ⟨aw_nX (by omega) hc6, nm_r (by rw [aw_vX (by omega) hc6]) (nm_r (nI_1 j) (hX' post hp))⟩)⟩)), fun post hp => br_f h (hY _ (br_f z ⟨hi, sm_cY _ (by omega) (br_f zb ⟨aw_nY (by omega) hc6, nm_r (by rw [aw_vY (by omega) hc6]) (nm_r (nI_1 j) (hY' post hp))⟩)⟩))⟩
theorem i_vc_sum {k : Nat} {u : SX} {v : SY} (I : i_Rel k u v) (hk : k + 4 ≤ 2048) (v1 : Int32) (v2 : Int32) (v3 : Int32) : wpX_sum (fun r => wpY_sum (fun r' => r' = r ∧ i_Rel (k + 4) u v) v v1 v2 v3) u v1 v2 v3 := by
  have J := i_up I
  obtain ⟨m, al, se, va, wi, wo, ki, ta, so, st, sy, rfl, rfl, R⟩ := I
  unfold wpX_sum wpY_sum
  dsimp only
  obtain ⟨r1, h1, hX1, hY1⟩ := sm_isSet (nI m, al, se, va, wi, wo, ki, ta, so, sy) v1
  obtain ⟨r2, h2, hX2, hY2⟩ := sm_isSet (nI m, al, se, va, wi, wo, ki, ta, so, sy) v2
  obtain ⟨r3, h3, hX3, hY3⟩ := sm_isComp (nI m, al, se, va, wi, wo, ki, ta, so, sy) v3
  refine hX1 _ ?_
  rcases h1 with rfl | ⟨rfl, a, ha, rfl⟩
  · exact br_t rfl (hY1 _ (br_t rfl ⟨rfl, J⟩))
  · refine br_f aw_10 (hX2 _ ?_)
    rcases h2 with rfl | ⟨rfl, b, hb, rfl⟩
    · exact br_t rfl (hY1 _ (br_f aw_10 (hY2 _ (br_t rfl ⟨rfl, J⟩))))
    · refine br_f aw_10 (hX3 _ ?_)
      rcases h3 with rfl | ⟨rfl, c, hc, rfl⟩
      · exact br_t rfl (hY1 _ (br_f aw_10 (hY2 _ (br_f aw_10 (hY3 _ (br_t rfl ⟨rfl, J⟩))))))
      · obtain ⟨r, hX, hY⟩ := rd_sum (nI m) al se va wi wo ki ta so st sy (nI a) (nI b) hc 24 0 rfl 0
        exact br_f aw_10 ⟨_, hX _ (hY1 _ (br_f aw_10 (hY2 _ (br_f aw_10 (hY3 _ (br_f aw_10 ⟨_, hY _ ⟨rfl, J⟩⟩))))))⟩
theorem i_vc_parts {k : Nat} {u : SX} {v : SY} (I : i_Rel k u v) (hk : k + 4 ≤ 2048) (v1 : Int32) : wpX_parts (fun r => wpY_parts (fun r' => r' = r ∧ i_Rel (k + 4) u v) v v1) u v1 := by
  have J := i_up I
  obtain ⟨m, al, se, va, wi, wo, ki, ta, so, st, sy, rfl, rfl, R⟩ := I
  unfold wpX_parts wpY_parts
  dsimp only
  obtain ⟨r1, h1, hX1, hY1⟩ := sm_lives (nI m) al se va wi wo ki ta so st sy v1
  refine hX1 _ ?_
  rcases h1 with rfl | ⟨rfl, j, hj, rfl, hl⟩
  · exact br_t rfl (hY1 _ (br_t rfl ⟨rfl, J⟩))
  · have hi : vp_in (nI j) 24 := vp_in_nI hj (by decide)
    exact br_f aw_10 ⟨hi, hY1 _ (br_f aw_10 ⟨hi, rfl, J⟩)⟩
theorem i_vc_get {k : Nat} {u : SX} {v : SY} (I : i_Rel k u v) (hk : k + 4 ≤ 2048) (v1 : Int32) (v2 : Int32) : wpX_get (fun r => wpY_get (fun r' => r' = r ∧ i_Rel (k + 4) u v) v v1 v2) u v1 v2 := by
  have J := i_up I
  obtain ⟨m, al, se, va, wi, wo, ki, ta, so, st, sy, rfl, rfl, R⟩ := I
  unfold wpX_get wpY_get
  dsimp only
  obtain ⟨r1, h1, hX1, hY1⟩ := sm_lives (nI m) al se va wi wo ki ta so st sy v1
  obtain ⟨r2, h2, hX2, hY2⟩ := sm_isComp (nI m, al, se, va, wi, wo, ki, ta, so, sy) v2
  refine hX1 _ ?_
  rcases h1 with rfl | ⟨rfl, j, hj, rfl, hl⟩
  · exact br_t rfl (hY1 _ (br_t rfl ⟨rfl, J⟩))
  · have hi : vp_in (nI j) 24 := vp_in_nI hj (by decide)
    refine br_f aw_10 (hX2 _ ?_)
    rcases h2 with rfl | ⟨rfl, c, hc, rfl⟩
    · exact br_t rfl (hY1 _ (br_f aw_10 (hY2 _ (br_t rfl ⟨rfl, J⟩))))
    · refine br_f aw_10 ⟨hi, sm_cX (by omega) ?_⟩
      by_cases zb : sm_i (bt (se (nI j).toNatClampNeg) c) = 0
      · exact br_t zb (hY1 _ (br_f aw_10 (hY2 _ (br_f aw_10 ⟨hi, sm_cY _ (by omega) (br_t zb ⟨rfl, J⟩)⟩))))
      · exact br_f zb ⟨aw_nX hj hc, hY1 _ (br_f aw_10 (hY2 _ (br_f aw_10 ⟨hi, sm_cY _ (by omega) (br_f zb ⟨aw_nY hj hc, by rw [aw_vX hj hc, aw_vY hj hc], J⟩)⟩)))⟩
