/-- the first c values of the entity whose values begin at b, filled with w -/
def wr_fl (va : Nat → Int32) (b : Nat) (w : Int32) : Nat → (Nat → Int32)
  | 0 => va
  | c + 1 => upd (wr_fl va b w c) (b + c) w
theorem wr_fX (q : Int32) (al se va wi wo ki ta so st : Nat → Int32) {j : Nat} (hj : j < 24) (w : Int32) (post : SX → Prop) (hp : post (q, al, se, wr_fl va (6 * j) w 6, wi, wo, ki, ta, so, st)) : ∀ d c : Nat, c + d = 6 → wX_bringToLife_17 post (nI j) w q (d + 1) (nI c) al se (wr_fl va (6 * j) w c) wi wo ki ta so st := by
  intro d
  induction d with
  | zero =>
    intro c hc
    have e : c = 6 := hc
    subst e
    exact br_t (nI_le (a := 6) (b := 6) (by omega) (by decide)) hp
  | succ d ih =>
    intro c hc
    exact br_f (nI_ge (b := 6) (by omega) (by decide)) ⟨aw_nX hj (by omega), nm_r (by rw [aw_vX hj (by omega)]; rfl) (nm_r (nI_1 c) (ih (c + 1) (by omega)))⟩
theorem wr_fY (q : Int32) (al se va wi wo ki ta so st : Nat → Int32) {j : Nat} (hj : j < 24) (w : Int32) (post : Int32 → SY → Prop) (hp : post (nI j) (q, al, se, wr_fl va (6 * j) w 6, wi, wo, ki, ta, so, st)) : ∀ d c : Nat, c + d = 6 → wY_spawn_44 post w (nI j) q (d + 1) (nI c) al se (wr_fl va (6 * j) w c) wi wo ki ta so st := by
  intro d
  induction d with
  | zero =>
    intro c hc
    have e : c = 6 := hc
    subst e
    exact br_t (nI_le (a := 6) (b := 6) (by omega) (by decide)) hp
  | succ d ih =>
    intro c hc
    exact br_f (nI_ge (b := 6) (by omega) (by decide)) ⟨aw_nY hj (by omega), nm_r (by rw [aw_vY hj (by omega)]; rfl) (nm_r (nI_1 c) (ih (c + 1) (by omega)))⟩
/-- spawn's loop: full on both sides, or the same entity on both sides -/
theorem wr_spawn (q : Int32) (al se va wi wo ki ta so st sy : Nat → Int32) (p w : Int32) : ∀ d j : Nat, j + d = 24 →
    ((∀ post : Int32 → SX → Prop, post (-2) (q, al, se, va, wi, wo, ki, ta, so, st) → wX_spawn_11 post p w q al se va wi wo ki ta so st (d + 1) (nI j)) ∧ (∀ post : Int32 → SY → Prop, post (-2) (q, al, se, va, wi, wo, ki, ta, so, sy) → wY_spawn_12 post p w q al se va wi wo ki ta so sy (d + 1) (nI j))) ∨
    ∃ i : Nat, i < 24 ∧ (∀ post : Int32 → SX → Prop, post (nI i) (q, upd al i (vp_nar .boolean 1), upd se i p, wr_fl va (6 * i) w 6, wi, wo, ki, ta, so, st) → wX_spawn_11 post p w q al se va wi wo ki ta so st (d + 1) (nI j)) ∧ (∀ post : Int32 → SY → Prop, post (nI i) (q, upd al i (vp_nar .boolean 1), upd se i p, wr_fl va (6 * i) w 6, wi, wo, ki, ta, so, sy) → wY_spawn_12 post p w q al se va wi wo ki ta so sy (d + 1) (nI j)) := by
  intro d
  induction d with
  | zero =>
    intro j hj
    have h : (24 : Int32) ≤ nI j := nI_le (a := 24) (by omega) (by omega)
    exact Or.inl ⟨fun _ hp => br_t h hp, fun _ hp => br_t h hp⟩
  | succ d ih =>
    intro j hj
    have h : ¬ (24 : Int32) ≤ nI j := nI_ge (b := 24) (by omega) (by decide)
    have hi : vp_in (nI j) 24 := vp_in_nI (by omega) (by decide)
    have hc : (nI j).toNatClampNeg = j := aw_cl (by omega)
    by_cases z : al (nI j).toNatClampNeg = 0
    · refine Or.inr ⟨j, by omega, fun post hp => br_f h ⟨hi, br_t z ?_⟩, fun post hp => br_f h ⟨hi, br_t z ⟨hi, ?_⟩⟩⟩
      · unfold wpX_bringToLife
        dsimp only
        refine ⟨hi, nm_r (by rw [hc]) ⟨hi, nm_r (by rw [hc]) ⟨7, ?_⟩⟩⟩
        exact wr_fX q _ _ va wi wo ki ta so st (by omega) w _ hp 6 0 rfl
      · refine nm_r (by rw [hc]) ⟨hi, nm_r (by rw [hc]) ⟨7, ?_⟩⟩
        exact wr_fY q _ _ va wi wo ki ta so sy (by omega) w _ hp 6 0 rfl
    · rcases ih (j + 1) (by omega) with ⟨hX, hY⟩ | ⟨i, hi', hX, hY⟩
      · exact Or.inl ⟨fun post hp => br_f h ⟨hi, br_f z (nm_r (nI_1 j) (hX post hp))⟩, fun post hp => br_f h ⟨hi, br_f z (nm_r (nI_1 j) (hY post hp))⟩⟩
      · exact Or.inr ⟨i, hi', fun post hp => br_f h ⟨hi, br_f z (nm_r (nI_1 j) (hX post hp))⟩, fun post hp => br_f h ⟨hi, br_f z (nm_r (nI_1 j) (hY post hp))⟩⟩
theorem wr_R {m : Nat} {se ta so st : Nat → Int32} (R : sm_R m se ta so st) {n : Nat} (hn : n < 64) (i : Nat) {x : Int32} (hx : x = nI n) : sm_R m (upd se i x) ta so st := by
  obtain ⟨h1, h2, h3⟩ := R
  refine ⟨h1, fun e => ?_, h3⟩
  by_cases z : e = i
  · exact ⟨n, hn, by rw [z, pk_us, hx]⟩
  · obtain ⟨k, hk, e2⟩ := h2 e
    exact ⟨k, hk, by rw [pk_un z, e2]⟩
theorem i_vc_spawn {k : Nat} {u : SX} {v : SY} (I : i_Rel k u v) (hk : k + 4 ≤ 2048) (v1 : Int32) (v2 : Int32) : wpX_spawn (fun r u' => wpY_spawn (fun r' v' => r' = r ∧ i_Rel (k + 4) u' v') v v1 v2) u v1 v2 := by
  have J := i_up I
  obtain ⟨m, al, se, va, wi, wo, ki, ta, so, st, sy, rfl, rfl, R⟩ := I
  unfold wpX_spawn wpY_spawn
  dsimp only
  obtain ⟨r1, h1, hX1, hY1⟩ := sm_isSet (nI m, al, se, va, wi, wo, ki, ta, so, sy) v1
  refine hX1 _ ?_
  rcases h1 with rfl | ⟨rfl, a, ha, rfl⟩
  · exact br_t rfl (hY1 _ (br_t rfl ⟨rfl, J⟩))
  · refine br_f aw_10 ?_
    rcases wr_spawn (nI m) al se va wi wo ki ta so st sy (nI a) v2 24 0 rfl with ⟨hX, hY⟩ | ⟨i, hi, hX, hY⟩
    · exact ⟨25, hX _ (hY1 _ (br_f aw_10 ⟨25, hY _ ⟨rfl, J⟩⟩))⟩
    · exact ⟨25, hX _ (hY1 _ (br_f aw_10 ⟨25, hY _ ⟨rfl, sm_mk _ _ _ _ _ _ _ _ _ _ _ _ (wr_R R ha i rfl)⟩⟩))⟩
theorem i_vc_kill {k : Nat} {u : SX} {v : SY} (I : i_Rel k u v) (hk : k + 4 ≤ 2048) (v1 : Int32) : wpX_kill (fun r u' => wpY_kill (fun r' v' => r' = r ∧ i_Rel (k + 4) u' v') v v1) u v1 := by
  have J := i_up I
  obtain ⟨m, al, se, va, wi, wo, ki, ta, so, st, sy, rfl, rfl, R⟩ := I
  unfold wpX_kill wpY_kill
  dsimp only
  obtain ⟨r1, h1, hX1, hY1⟩ := sm_lives (nI m) al se va wi wo ki ta so st sy v1
  refine hX1 _ ?_
  rcases h1 with rfl | ⟨rfl, j, hj, rfl, hl⟩
  · exact br_t rfl (hY1 _ (br_t rfl ⟨rfl, J⟩))
  · have hi : vp_in (nI j) 24 := vp_in_nI hj (by decide)
    exact br_f aw_10 ⟨hi, nm_e ⟨hi, hY1 _ (br_f aw_10 ⟨hi, nm_e ⟨hi, rfl, sm_mk _ _ _ _ _ _ _ _ _ _ _ _ R⟩⟩)⟩⟩
theorem i_vc_put {k : Nat} {u : SX} {v : SY} (I : i_Rel k u v) (hk : k + 4 ≤ 2048) (v1 : Int32) (v2 : Int32) (v3 : Int32) : wpX_put (fun r u' => wpY_put (fun r' v' => r' = r ∧ i_Rel (k + 4) u' v') v v1 v2 v3) u v1 v2 v3 := by
  have J := i_up I
  obtain ⟨m, al, se, va, wi, wo, ki, ta, so, st, sy, rfl, rfl, R⟩ := I
  unfold wpX_put wpY_put
  dsimp only
  obtain ⟨r1, h1, hX1, hY1⟩ := sm_lives (nI m) al se va wi wo ki ta so st sy v1
  obtain ⟨r2, h2, hX2, hY2⟩ := sm_isComp (nI m, al, se, va, wi, wo, ki, ta, so, sy) v2
  refine hX1 _ ?_
  rcases h1 with rfl | ⟨rfl, j, hj, rfl, hl⟩
  · exact br_t rfl (hY1 _ (br_t rfl ⟨rfl, J⟩))
  · have hi : vp_in (nI j) 24 := vp_in_nI hj (by decide)
    have hc : (nI j).toNatClampNeg = j := aw_cl (by omega)
    refine br_f aw_10 (hX2 _ ?_)
    rcases h2 with rfl | ⟨rfl, c, hc6, rfl⟩
    · exact br_t rfl (hY1 _ (br_f aw_10 (hY2 _ (br_t rfl ⟨rfl, J⟩))))
    · obtain ⟨n, hn, en⟩ := R.2.1 j
      have hR : i_Rel (k + 4) (nI m, al, upd se j (se j ||| ((1 : Int32) <<< (nI c &&& 31))), upd va (6 * j + c) v3, wi, wo, ki, ta, so, st) (nI m, al, upd se j (se j ||| ((1 : Int32) <<< (nI c &&& 31))), upd va (6 * j + c) v3, wi, wo, ki, ta, so, sy) :=
        sm_mk _ _ _ _ _ _ _ _ _ _ _ _ (wr_R R (aw_or n hn c hc6).2 j (by rw [en]; exact (aw_or n hn c hc6).1))
      have key : ∀ z0 : Int32, z0 = sm_i (bt (se j) c) → wX_put_38 (fun r u' => wpY_isAlive (fun r_1 => (r_1 = 0 → -4 = r ∧ i_Rel (k + 4) u' (nI m, al, se, va, wi, wo, ki, ta, so, sy)) ∧ (¬ r_1 = 0 → wpY_isComponent (fun r_13 => (r_13 = 0 → -1 = r ∧ i_Rel (k + 4) u' (nI m, al, se, va, wi, wo, ki, ta, so, sy)) ∧ (¬ r_13 = 0 → vp_in (nI j) 24 ∧ ∀ x4_26 : Int32, x4_26 = (se (nI j).toNatClampNeg >>> (nI c &&& 31)) &&& 1 → vp_in (nI j) 24 ∧ vp_in (nI j) 24 ∧ ∀ a_sets_29 : Nat → Int32, a_sets_29 = upd se (nI j).toNatClampNeg (se (nI j).toNatClampNeg ||| (1 : Int32) <<< (nI c &&& 31)) → vp_in (6 * nI j + nI c) 144 ∧ ∀ a_values_31 : Nat → Int32, a_values_31 = upd va (6 * nI j + nI c).toNatClampNeg v3 → x4_26 = r ∧ i_Rel (k + 4) u' (nI m, al, a_sets_29, a_values_31, wi, wo, ki, ta, so, sy))) (nI m, al, se, va, wi, wo, ki, ta, so, sy) (nI c))) (nI m, al, se, va, wi, wo, ki, ta, so, sy) (nI j)) (nI j) (nI c) v3 z0 (nI m) al se va wi wo ki ta so st := by
        intro z0 hz
        unfold wX_put_38
        refine ⟨hi, hi, nm_r (by rw [hc]) ⟨aw_nX hj hc6, nm_r (by rw [aw_vX hj hc6]) ?_⟩⟩
        refine hY1 _ (br_f aw_10 (hY2 _ (br_f aw_10 ⟨hi, nm_e ⟨hi, hi, nm_r (by rw [hc]) ⟨aw_nY hj hc6, nm_r (by rw [aw_vY hj hc6]) ⟨?_, hR⟩⟩⟩⟩)))
        rw [hz, hc, sm_cV _ (by omega)]
      refine br_f aw_10 ⟨hi, sm_cX (by omega) ?_⟩
      rw [hc]
      rw [hc] at key
      by_cases zb : sm_i (bt (se j) c) = 0
      · exact br_t zb (key 0 zb.symm)
      · have z1 : sm_i (bt (se j) c) = 1 := by
          cases hb : bt (se j) c
          · rw [hb] at zb; exact absurd rfl zb
          · rfl
        exact br_f zb (key 1 z1.symm)
theorem wr_i1 {b : Bool} (h : ¬ sm_i b = 0) : sm_i b = 1 := by
  cases b
  · exact absurd rfl h
  · rfl
theorem wr_dX (q : Int32) (al se va wi wo ki ta so st : Nat → Int32) {j c : Nat} (hj : j < 24) (z0 : Int32) (post : Int32 → SX → Prop) (hp : post z0 (q, al, upd se j (se j &&& (((1 : Int32) <<< (nI c &&& 31)) ^^^ (-1))), va, wi, wo, ki, ta, so, st)) : wX_drop_38 post (nI j) (nI c) z0 q al se va wi wo ki ta so st := by
  have hi : vp_in (nI j) 24 := vp_in_nI hj (by decide)
  have hc : (nI j).toNatClampNeg = j := aw_cl (by omega)
  unfold wX_drop_38
  exact ⟨hi, hi, nm_r (by rw [hc]) hp⟩
theorem i_vc_drop {k : Nat} {u : SX} {v : SY} (I : i_Rel k u v) (hk : k + 4 ≤ 2048) (v1 : Int32) (v2 : Int32) : wpX_drop (fun r u' => wpY_drop (fun r' v' => r' = r ∧ i_Rel (k + 4) u' v') v v1 v2) u v1 v2 := by
  have J := i_up I
  obtain ⟨m, al, se, va, wi, wo, ki, ta, so, st, sy, rfl, rfl, R⟩ := I
  unfold wpX_drop wpY_drop
  dsimp only
  obtain ⟨r1, h1, hX1, hY1⟩ := sm_lives (nI m) al se va wi wo ki ta so st sy v1
  obtain ⟨r2, h2, hX2, hY2⟩ := sm_isComp (nI m, al, se, va, wi, wo, ki, ta, so, sy) v2
  refine hX1 _ ?_
  rcases h1 with rfl | ⟨rfl, j, hj, rfl, hl⟩
  · exact br_t rfl (hY1 _ (br_t rfl ⟨rfl, J⟩))
  · have hi : vp_in (nI j) 24 := vp_in_nI hj (by decide)
    have hc : (nI j).toNatClampNeg = j := aw_cl (by omega)
    refine br_f aw_10 (hX2 _ ?_)
    rcases h2 with rfl | ⟨rfl, c, hc6, rfl⟩
    · exact br_t rfl (hY1 _ (br_f aw_10 (hY2 _ (br_t rfl ⟨rfl, J⟩))))
    · obtain ⟨n, hn, en⟩ := R.2.1 j
      have hR : i_Rel (k + 4) (nI m, al, upd se j (se j &&& (((1 : Int32) <<< (nI c &&& 31)) ^^^ (-1))), va, wi, wo, ki, ta, so, st) (nI m, al, upd se j (se j &&& (((1 : Int32) <<< (nI c &&& 31)) ^^^ (-1))), va, wi, wo, ki, ta, so, sy) :=
        sm_mk _ _ _ _ _ _ _ _ _ _ _ _ (wr_R R (aw_no n hn c hc6).2 j (by rw [en]; exact (aw_no n hn c hc6).1))
      refine br_f aw_10 ⟨hi, sm_cX (by omega) ?_⟩
      rw [hc]
      by_cases zb : sm_i (bt (se j) c) = 0
      · exact br_t zb (wr_dX (nI m) al se va wi wo ki ta so st hj 0 _ (hY1 _ (br_f aw_10 (hY2 _ (br_f aw_10 ⟨hi, nm_e ⟨hi, hi, nm_e ⟨by rw [sm_cV _ (by omega), zb], hR⟩⟩⟩)))))
      · exact br_f zb (wr_dX (nI m) al se va wi wo ki ta so st hj 1 _ (hY1 _ (br_f aw_10 (hY2 _ (br_f aw_10 ⟨hi, nm_e ⟨hi, hi, nm_e ⟨by rw [sm_cV _ (by omega), wr_i1 zb], hR⟩⟩⟩)))))
