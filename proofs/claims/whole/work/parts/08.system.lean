/-- what makes the work w good over the sets a -/
def sy_G (a w : Nat) : Bool := decide (w % 8 ≤ 4) && ((decide (w / 8 % 8 < 6) && bt (nI a) (w / 8 % 8)) && (decide (w / 64 < 6) && bt (nI a) (w / 64)))
theorem sy_bt {a c : Nat} (ha : a < 4096) (hc : c < 6) : bt (nI (a % 64)) c = bt (nI a) c := by
  have e : nI a &&& 63 = nI (a % 2 ^ 6) := pk_andN (by omega) 6 (by decide)
  rw [show (64 : Nat) = 2 ^ 6 from rfl, ← e, b_and, (by decide +kernel : ∀ c, c < 6 → bt 63 c = true) c hc, Bool.and_true]
theorem sy_co {x : Int32} {c : Nat} (hc : c < 2 ^ 31) (post : Int32 → Prop) (hp : post (sm_i (decide (c < 6) && bt x c))) : wpX_isComponentOf post (nI c) x := by
  unfold wpX_isComponentOf wpX_isComponent
  refine br_f (nI_pos hc) ?_
  by_cases z : c < 6
  · rw [decide_eq_true z, Bool.true_and] at hp
    refine br_f (nI_ge (b := 6) z (by decide)) (br_f aw_10 (sm_cX (by omega) ?_))
    by_cases zb : sm_i (bt x c) = 0
    · rw [zb] at hp
      exact br_t zb hp
    · rw [wr_i1 zb] at hp
      exact br_f zb hp
  · rw [decide_eq_false z, Bool.false_and] at hp
    exact br_t (nI_le (a := 6) (by omega) hc) (br_t rfl hp)
theorem sy_k {w : Nat} (hw : w < 2 ^ 31) : (nI w &&& 7) = nI (w % 8) := pk_andN (by omega) 3 (by decide)
theorem sy_t {w : Nat} (hw : w < 2 ^ 31) : ((nI w >>> ((3 : Int32) &&& 31)) &&& 7) = nI (w / 8 % 8) := by
  rw [pk_shrN hw _ 3 (by decide)]
  exact pk_andN (by omega) 3 (by decide)
theorem sy_s {w : Nat} (hw : w < 2 ^ 31) : (nI w >>> ((6 : Int32) &&& 31)) = nI (w / 64) := pk_shrN hw _ 6 (by decide)
theorem sy_w {a w : Nat} (ha : a < 4096) (hw : w < 2 ^ 31) (post : Int32 → Prop) (hp : post (sm_i (sy_G a w))) : wpX_isWorkOn post (nI w) (nI (a % 64)) := by
  unfold wpX_isWorkOn wpX_kindIn wpX_targetIn wpX_sourceIn
  rw [sy_k hw, sy_t hw, sy_s hw]
  refine br_f (nI_pos hw) ?_
  unfold sy_G at hp
  by_cases z : w % 8 ≤ 4
  · rw [decide_eq_true z, Bool.true_and] at hp
    refine br_t (nI_le (b := 4) z (by decide)) (sy_co (by omega) _ ?_)
    have e1 : (decide (w / 8 % 8 < 6) && bt (nI (a % 64)) (w / 8 % 8)) = (decide (w / 8 % 8 < 6) && bt (nI a) (w / 8 % 8)) := by
      by_cases z : w / 8 % 8 < 6
      · rw [sy_bt ha z]
      · rw [decide_eq_false z, Bool.false_and, Bool.false_and]
    have e2 : (decide (w / 64 < 6) && bt (nI (a % 64)) (w / 64)) = (decide (w / 64 < 6) && bt (nI a) (w / 64)) := by
      by_cases z : w / 64 < 6
      · rw [sy_bt ha z]
      · rw [decide_eq_false z, Bool.false_and, Bool.false_and]
    rw [e1]
    cases h1 : (decide (w / 8 % 8 < 6) && bt (nI a) (w / 8 % 8))
    · rw [h1, Bool.false_and] at hp
      exact br_t rfl hp
    · rw [h1, Bool.true_and] at hp
      refine br_f aw_10 (sy_co (by omega) _ ?_)
      rw [e2]
      cases h2 : (decide (w / 64 < 6) && bt (nI a) (w / 64))
      · rw [h2] at hp
        exact br_t rfl hp
      · rw [h2] at hp
        exact br_f aw_10 hp
  · rw [decide_eq_false z, Bool.false_and] at hp
    exact br_f (nI_ge (a := 4) (by omega) (by omega)) hp
theorem sy_X {m : Nat} (al se va wi wo ki ta so st : Nat → Int32) (hm : m < 8) {a w : Nat} (ha : a < 4096) (hw : w < 2 ^ 31) (G : sy_G a w = true) (post : Int32 → SX → Prop)
    (hp : post (nI m) (nI (m + 1), al, se, va, upd wi m (nI (a % 64)), upd wo m (nI (a / 64)), upd ki m (nI (w % 8)), upd ta m (nI (w / 8 % 8)), upd so m (nI (w / 64)), upd st m (sm_sg (upd ta m (nI (w / 8 % 8))) (upd so m (nI (w / 64))) st m m))) : wpX_system post (nI m, al, se, va, wi, wo, ki, ta, so, st) (nI a) (nI w) := by
  have cm : (nI m).toNatClampNeg = m := aw_cl (by omega)
  have im : vp_in (nI m) 8 := vp_in_nI hm (by decide)
  have e1 : nI a - nI a / 64 * 64 = nI (a % 64) := pk_rem (d := 64) (by omega) (by decide) (by decide)
  have e2 : nI a / 64 = nI (a / 64) := pk_div (d := 64) (by omega) (by decide) (by decide)
  unfold wpX_system
  dsimp only
  rw [cm]
  refine br_f (nI_pos (by omega)) (br_t (nI_lt (b := 4096) ha (by decide)) ⟨by decide, nm_r e1 (sy_w ha hw _ ?_)⟩)
  rw [G]
  refine br_f aw_10 (br_t (nI_lt (b := 8) hm (by decide)) ⟨im, nm_e ⟨by decide, im, nm_r (by rw [e2]) ?_⟩⟩)
  unfold wpX_kindIn wpX_targetIn wpX_sourceIn wpX_stageBehindEarlier
  dsimp only
  refine ⟨im, nm_r (by rw [sy_k hw]) ⟨im, nm_r (by rw [sy_t hw]) ⟨im, nm_r (by rw [sy_s hw]) ⟨m + 1, ?_⟩⟩⟩⟩
  exact sg_sb (nI m) al se va _ _ _ _ _ st hm _ ⟨im, nm_e (nm_r (nI_1 m) hp)⟩ m 0 (by omega)
theorem sy_Y {m : Nat} (al se va wi wo ki ta so sy : Nat → Int32) (hm : m ≤ 8) {a w : Nat} (ha : a < 4096) (hw : w < 2 ^ 31) (post : Int32 → SY → Prop)
    (h0 : sy_G a w = false → post (-1) (nI m, al, se, va, wi, wo, ki, ta, so, sy)) (h8 : sy_G a w = true → m = 8 → post (-2) (nI m, al, se, va, wi, wo, ki, ta, so, sy))
    (hp : sy_G a w = true → m < 8 → post (nI m) (nI (m + 1), al, se, va, upd wi m (nI (a % 64)), upd wo m (nI (a / 64)), upd ki m (nI (w % 8)), upd ta m (nI (w / 8 % 8)), upd so m (nI (w / 64)), sy)) : wpY_system post (nI m, al, se, va, wi, wo, ki, ta, so, sy) (nI a) (nI w) := by
  have cm : (nI m).toNatClampNeg = m := aw_cl (by omega)
  have e1 : nI a - nI a / 64 * 64 = nI (a % 64) := pk_rem (d := 64) (by omega) (by decide) (by decide)
  have e2 : nI a / 64 = nI (a / 64) := pk_div (d := 64) (by omega) (by decide) (by decide)
  have f1 : nI w - nI w / 8 * 8 = nI (w % 8) := pk_rem (d := 8) (by omega) (by decide) (by decide)
  have f0 : nI w / 8 = nI (w / 8) := pk_div (d := 8) (by omega) (by decide) (by decide)
  have f2 : (nI w / 8) - (nI w / 8) / 8 * 8 = nI (w / 8 % 8) := by
    rw [f0]; exact pk_rem (d := 8) (by omega) (by decide) (by decide)
  have f3 : nI w / 64 = nI (w / 64) := pk_div (d := 64) (by omega) (by decide) (by decide)
  unfold wpY_system
  dsimp only
  rw [cm]
  unfold sy_G at h0 h8 hp
  refine br_f (nI_pos (by omega)) (br_f (nI_nlt (a := 4095) (by omega) (by decide)) (br_t (nI_pos' hw) ⟨by decide, nm_r f1 ⟨by decide, by decide, nm_r f2 ⟨by decide, nm_r f3 ?_⟩⟩⟩))
  by_cases z1 : w % 8 ≤ 4
  · refine br_f (nI_nlt (a := 4) (by omega) (by decide)) ?_
    rw [decide_eq_true z1, Bool.true_and] at h0 h8 hp
    by_cases z2 : w / 8 % 8 < 6
    · refine br_f (nI_nlt (a := 5) (by omega) (by decide)) ?_
      rw [decide_eq_true z2, Bool.true_and] at h0 h8 hp
      by_cases z3 : w / 64 < 6
      · refine br_f (nI_nlt (a := 5) (by omega) (by decide)) (sm_cY _ (by omega) ?_)
        rw [decide_eq_true z3, Bool.true_and] at h0 h8 hp
        cases b1 : bt (nI a) (w / 8 % 8)
        · rw [b1] at h0
          exact br_t rfl (h0 rfl)
        · rw [b1] at h0 h8 hp
          refine br_f aw_10 (sm_cY _ (by omega) ?_)
          cases b2 : bt (nI a) (w / 64)
          · rw [b2] at h0
            exact br_t rfl (h0 rfl)
          · rw [b2] at h8 hp
            refine br_f aw_10 ?_
            by_cases z8 : m = 8
            · exact br_t (by rw [z8]; decide +kernel) (h8 rfl z8)
            · have im : vp_in (nI m) 8 := vp_in_nI (by omega) (by decide)
              have hp' := hp rfl (by omega)
              refine br_f (fun z => z8 ((nI_eq (a := m) (b := 8) (by omega) (by decide)).mp z)) ⟨by decide, im, nm_r (by rw [e1]) ⟨by decide, im, nm_r (by rw [e2]) ⟨im, nm_e ⟨im, nm_e ⟨im, nm_e (nm_r (nI_1 m) ?_)⟩⟩⟩⟩⟩
              rw [nI_pred m]
              exact hp'
      · rw [decide_eq_false z3, Bool.false_and, Bool.and_false] at h0
        exact br_t (nI_lt (a := 5) (by omega) (by omega)) (h0 rfl)
    · rw [decide_eq_false z2, Bool.false_and, Bool.false_and] at h0
      exact br_t (nI_lt (a := 5) (by omega) (by omega)) (h0 rfl)
  · rw [decide_eq_false z1, Bool.false_and] at h0
    exact br_t (nI_lt (a := 4) (by omega) (by omega)) (h0 rfl)
theorem sy_G6 {a w : Nat} (h : sy_G a w = true) : w / 8 % 8 < 6 ∧ w / 64 < 6 := by
  unfold sy_G at h
  simp only [Bool.and_eq_true, decide_eq_true_eq] at h
  exact ⟨h.2.1.1, h.2.2.1⟩
theorem sy_R {m : Nat} {se ta so st : Nat → Int32} (R : sm_R m se ta so st) (hm : m < 8) {x y : Nat} (hx : x < 6) (hy : y < 6) : sm_R (m + 1) se (upd ta m (nI x)) (upd so m (nI y)) (upd st m (sm_sg (upd ta m (nI x)) (upd so m (nI y)) st m m)) := by
  obtain ⟨_, h2, h3, h4, h5⟩ := R
  refine ⟨by omega, h2, fun s => ?_, fun s => ?_, fun s hs => ?_⟩
  · by_cases z : s = m
    · exact ⟨x, hx, by rw [z, pk_us]⟩
    · rw [pk_un z]; exact h3 s
  · by_cases z : s = m
    · exact ⟨y, hy, by rw [z, pk_us]⟩
    · rw [pk_un z]; exact h4 s
  · by_cases z : s = m
    · subst z
      rw [pk_us]
      exact sg_same (fun t ht => (pk_un (by omega)).symm)
    · rw [pk_un z, h5 s (by omega)]
      exact sg_congr (fun t ht => ⟨(pk_un (by omega)).symm, (pk_un (by omega)).symm⟩) s (by omega) (fun t ht => (pk_un (by omega)).symm)
theorem i_vc_system {k : Nat} {u : SX} {v : SY} (I : i_Rel k u v) (hk : k + 4 ≤ 2048) (v1 : Int32) (v2 : Int32) : wpX_system (fun r u' => wpY_system (fun r' v' => r' = r ∧ i_Rel (k + 4) u' v') v v1 v2) u v1 v2 := by
  have J := i_up I
  obtain ⟨m, al, se, va, wi, wo, ki, ta, so, st, sy, rfl, rfl, R⟩ := I
  have hm := R.1
  by_cases h0 : v1 < 0
  · unfold wpX_system wpY_system
    dsimp only
    exact br_t h0 (br_t h0 ⟨rfl, J⟩)
  · obtain ⟨a, ha, rfl⟩ := nI_of h0
    by_cases h1 : a < 4096
    · by_cases h2 : v2 < 0
      · have h3 : ¬ 0 ≤ v2 := Int32.not_le.mpr h2
        unfold wpX_system wpY_system wpX_isWorkOn
        dsimp only
        exact br_f h0 (br_t (nI_lt (b := 4096) h1 (by decide)) ⟨by decide, nm_e (br_t h2 (br_t rfl (br_f h0 (br_f (nI_nlt (a := 4095) (by omega) (by decide)) (br_f h3 ⟨rfl, J⟩)))))⟩)
      · obtain ⟨w, hw, rfl⟩ := nI_of h2
        cases G : sy_G a w
        · have e1 : nI a - nI a / 64 * 64 = nI (a % 64) := pk_rem (d := 64) (by omega) (by decide) (by decide)
          unfold wpX_system
          dsimp only
          refine br_f h0 (br_t (nI_lt (b := 4096) h1 (by decide)) ⟨by decide, nm_r e1 (sy_w h1 hw _ ?_)⟩)
          rw [G]
          refine br_t rfl (sy_Y al se va wi wo ki ta so sy hm h1 hw _ (fun _ => ⟨rfl, J⟩) (fun g => ?_) (fun g => ?_))
          · rw [G] at g; exact Bool.noConfusion g
          · rw [G] at g; exact Bool.noConfusion g
        · by_cases z8 : m = 8
          · have e1 : nI a - nI a / 64 * 64 = nI (a % 64) := pk_rem (d := 64) (by omega) (by decide) (by decide)
            unfold wpX_system
            dsimp only
            refine br_f h0 (br_t (nI_lt (b := 4096) h1 (by decide)) ⟨by decide, nm_r e1 (sy_w h1 hw _ ?_)⟩)
            rw [G]
            refine br_f aw_10 (br_f (nI_nlt (b := 8) (by omega) (by omega)) (sy_Y al se va wi wo ki ta so sy hm h1 hw _ (fun g => ?_) (fun _ _ => ⟨rfl, J⟩) (fun _ g => ?_)))
            · rw [G] at g; exact Bool.noConfusion g
            · omega
          · refine sy_X al se va wi wo ki ta so st (by omega) h1 hw G _ (sy_Y al se va wi wo ki ta so sy hm h1 hw _ (fun g => ?_) (fun _ g => absurd g z8) (fun _ g => ⟨rfl, ?_⟩))
            · rw [G] at g; exact Bool.noConfusion g
            · exact sm_mk _ _ _ _ _ _ _ _ _ _ _ _ (sy_R R g (sy_G6 G).1 (sy_G6 G).2)
    · unfold wpX_system wpY_system
      dsimp only
      exact br_f h0 (br_f (nI_nlt (b := 4096) (by omega) (by omega)) (br_f h0 (br_t (nI_lt (a := 4095) (by omega) (by omega)) ⟨rfl, J⟩)))
