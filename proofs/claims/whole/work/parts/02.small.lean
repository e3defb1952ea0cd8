theorem sm_isSet (v : SY) (p : Int32) : ∃ r : Int32, (r = 0 ∨ (r = 1 ∧ ∃ j : Nat, j < 64 ∧ p = nI j)) ∧ (∀ post : Int32 → Prop, post r → wpX_isSet post p) ∧ (∀ post : Int32 → Prop, post r → wpY_isSet post v p) := by
  obtain ⟨q, al, se, va, wi, wo, ki, ta, so, sy⟩ := v
  rcases pk_ix p (n := 64) (by decide) with h | h | ⟨j, hj, rfl⟩
  · exact ⟨0, Or.inl rfl, fun _ hp => br_t h hp, fun _ hp => br_t h hp⟩
  · have h0 : ¬ p < 0 := Int32.not_lt.mpr (Int32.le_trans (nI_pos' (by decide)) h)
    obtain ⟨j, hj, rfl⟩ := nI_of h0
    rw [nI_leI (by decide) hj] at h
    exact ⟨0, Or.inl rfl, fun _ hp => br_f h0 (br_t (nI_le (a := 64) h hj) hp), fun _ hp => br_f h0 (br_t (nI_lt (a := 63) h hj) hp)⟩
  · have h0 : ¬ nI j < 0 := nI_pos (by omega)
    exact ⟨1, Or.inr ⟨rfl, j, hj, rfl⟩, fun _ hp => br_f h0 (br_f (nI_ge (b := 64) hj (by decide)) hp), fun _ hp => br_f h0 (br_f (nI_nlt (a := 63) (by omega) (by decide)) hp)⟩
theorem sm_isComp (v : SY) (p : Int32) : ∃ r : Int32, (r = 0 ∨ (r = 1 ∧ ∃ j : Nat, j < 6 ∧ p = nI j)) ∧ (∀ post : Int32 → Prop, post r → wpX_isComponent post p) ∧ (∀ post : Int32 → Prop, post r → wpY_isComponent post v p) := by
  obtain ⟨q, al, se, va, wi, wo, ki, ta, so, sy⟩ := v
  rcases pk_ix p (n := 6) (by decide) with h | h | ⟨j, hj, rfl⟩
  · exact ⟨0, Or.inl rfl, fun _ hp => br_t h hp, fun _ hp => br_t h hp⟩
  · have h0 : ¬ p < 0 := Int32.not_lt.mpr (Int32.le_trans (nI_pos' (by decide)) h)
    obtain ⟨j, hj, rfl⟩ := nI_of h0
    rw [nI_leI (by decide) hj] at h
    exact ⟨0, Or.inl rfl, fun _ hp => br_f h0 (br_t (nI_le (a := 6) h hj) hp), fun _ hp => br_f h0 (br_t (nI_lt (a := 5) h hj) hp)⟩
  · have h0 : ¬ nI j < 0 := nI_pos (by omega)
    exact ⟨1, Or.inr ⟨rfl, j, hj, rfl⟩, fun _ hp => br_f h0 (br_f (nI_ge (b := 6) hj (by decide)) hp), fun _ hp => br_f h0 (br_f (nI_nlt (a := 5) (by omega) (by decide)) hp)⟩
theorem sm_lives (q : Int32) (al se va wi wo ki ta so st sy : Nat → Int32) (p : Int32) : ∃ r : Int32, (r = 0 ∨ (r = 1 ∧ ∃ j : Nat, j < 24 ∧ p = nI j ∧ ¬ al j = 0)) ∧ (∀ post : Int32 → Prop, post r → wpX_lives post (q, al, se, va, wi, wo, ki, ta, so, st) p) ∧ (∀ post : Int32 → Prop, post r → wpY_isAlive post (q, al, se, va, wi, wo, ki, ta, so, sy) p) := by
  rcases pk_ix p (n := 24) (by decide) with h | h | ⟨j, hj, rfl⟩
  · exact ⟨0, Or.inl rfl, fun _ hp => br_t h hp, fun _ hp => br_t h hp⟩
  · have h0 : ¬ p < 0 := Int32.not_lt.mpr (Int32.le_trans (nI_pos' (by decide)) h)
    obtain ⟨j, hj, rfl⟩ := nI_of h0
    rw [nI_leI (by decide) hj] at h
    exact ⟨0, Or.inl rfl, fun _ hp => br_f h0 (br_t (nI_le (a := 24) h hj) hp), fun _ hp => br_f h0 (br_t (nI_lt (a := 23) h hj) hp)⟩
  · have h0 : ¬ nI j < 0 := nI_pos (by omega)
    have hi : vp_in (nI j) 24 := vp_in_nI hj (by decide)
    have hc : (nI j).toNatClampNeg = j := aw_cl (by omega)
    have h1 : ¬ (24 : Int32) ≤ nI j := nI_ge (b := 24) hj (by decide)
    have h2 : ¬ (23 : Int32) < nI j := nI_nlt (a := 23) (by omega) (by decide)
    by_cases z : al (nI j).toNatClampNeg = 0
    · exact ⟨0, Or.inl rfl, fun _ hp => br_f h0 (br_f h1 ⟨hi, br_t z hp⟩), fun _ hp => br_f h0 (br_f h2 ⟨hi, br_t z hp⟩)⟩
    · exact ⟨1, Or.inr ⟨rfl, j, hj, rfl, by rw [hc] at z; exact z⟩, fun _ hp => br_f h0 (br_f h1 ⟨hi, br_f z hp⟩), fun _ hp => br_f h0 (br_f h2 ⟨hi, br_f z hp⟩)⟩
def sm_i (b : Bool) : Int32 := if b then 1 else 0
theorem sm_i0 (b : Bool) : sm_i b = 0 ↔ b = false := by cases b <;> decide
theorem sm_cX {x : Int32} {c : Nat} (hc : c < 32) {post : Int32 → Prop} (h : post (sm_i (bt x c))) : wpX_contains post x (nI c) := by
  have hX := aw_hX x hc
  unfold wpX_contains
  cases hb : bt x c
  · rw [hb] at h
    exact br_t (hX.mpr hb) h
  · rw [hb] at h
    exact br_f (fun z => by have e := hX.mp z; rw [hb] at e; exact Bool.noConfusion e) h
theorem sm_cY (v : SY) {x : Int32} {c : Nat} (hc : c < 32) {post : Int32 → Prop} (h : post (sm_i (bt x c))) : wpY_has post v x (nI c) := by
  obtain ⟨q, al, se, va, wi, wo, ki, ta, so, sy⟩ := v
  have hY := aw_hY x hc
  unfold wpY_has
  dsimp only
  cases hb : bt x c
  · rw [hb] at h hY
    exact br_f (by rw [hY]; decide) h
  · rw [hb] at h hY
    exact br_t (by rw [hY]; decide) h
theorem sm_cV (x : Int32) {c : Nat} (hc : c < 32) : ((x >>> (nI c &&& 31)) &&& 1) = sm_i (bt x c) := aw_hY x hc
theorem sm_fits (q : Int32) (al se va wi wo ki ta so st sy : Nat → Int32) (p w : Int32) {j : Nat} (hj : j < 24) : ∃ r : Int32, (r = 0 ↔ (al j = 0 ∨ ¬ (se j &&& p) = p ∨ ¬ (se j &&& w) = 0)) ∧ (∀ post : Int32 → Prop, post r → wpX_fits post (q, al, se, va, wi, wo, ki, ta, so, st) (nI j) p w) ∧ (∀ post : Int32 → Prop, post r → wpY_fits post (q, al, se, va, wi, wo, ki, ta, so, sy) (nI j) p w) := by
  have h0 : ¬ nI j < 0 := nI_pos (by omega)
  have hi : vp_in (nI j) 24 := vp_in_nI hj (by decide)
  have hc : (nI j).toNatClampNeg = j := aw_cl (by omega)
  have h1 : ¬ (24 : Int32) ≤ nI j := nI_ge (b := 24) hj (by decide)
  unfold wpX_fits wpY_fits wpX_lives
  dsimp only
  rw [hc]
  by_cases z : al j = 0
  · refine ⟨0, ⟨fun _ => Or.inl z, fun _ => rfl⟩, fun post hp => ?_, fun post hp => ?_⟩
    · exact br_f h0 (br_f h1 ⟨hi, br_t z (br_t rfl hp)⟩)
    · exact ⟨hi, br_t z hp⟩
  · by_cases z1 : (se j &&& p) = p
    · by_cases z2 : (se j &&& w) = 0
      · refine ⟨1, ⟨fun h => absurd h aw_10, fun h => ?_⟩, fun post hp => ?_, fun post hp => ?_⟩
        · rcases h with h | h | h
          · exact absurd h z
          · exact absurd z1 h
          · exact absurd z2 h
        · exact br_f h0 (br_f h1 ⟨hi, br_f z (br_f aw_10 ⟨hi, br_t z1 ⟨hi, br_t z2 hp⟩⟩)⟩)
        · exact ⟨hi, br_f z ⟨hi, br_t z1 ⟨hi, br_t z2 hp⟩⟩⟩
      · refine ⟨0, ⟨fun _ => Or.inr (Or.inr z2), fun _ => rfl⟩, fun post hp => ?_, fun post hp => ?_⟩
        · exact br_f h0 (br_f h1 ⟨hi, br_f z (br_f aw_10 ⟨hi, br_t z1 ⟨hi, br_f z2 hp⟩⟩)⟩)
        · exact ⟨hi, br_f z ⟨hi, br_t z1 ⟨hi, br_f z2 hp⟩⟩⟩
    · refine ⟨0, ⟨fun _ => Or.inr (Or.inl z1), fun _ => rfl⟩, fun post hp => ?_, fun post hp => ?_⟩
      · exact br_f h0 (br_f h1 ⟨hi, br_f z (br_f aw_10 ⟨hi, br_f z1 hp⟩)⟩)
      · exact ⟨hi, br_f z ⟨hi, br_f z1 hp⟩⟩
/-- the stage that system s gets from the first j systems -/
def sm_sg (ta so st : Nat → Int32) (s : Nat) : Nat → Int32
  | 0 => 0
  | j + 1 => if (ta s = ta j ∨ ta s = so j ∨ ta j = so s) ∧ ¬ st j < sm_sg ta so st s j then st j + 1 else sm_sg ta so st s j
def sm_R (m : Nat) (se ta so st : Nat → Int32) : Prop := m ≤ 8 ∧ (∀ e, ∃ n, n < 64 ∧ se e = nI n) ∧ (∀ s, ∃ n, n < 6 ∧ ta s = nI n) ∧ (∀ s, ∃ n, n < 6 ∧ so s = nI n) ∧ ∀ s, s < m → st s = sm_sg ta so st s s
def i_Rel (_ : Nat) (u : SX) (v : SY) : Prop := ∃ (m : Nat) (al se va wi wo ki ta so st sy : Nat → Int32), u = (nI m, al, se, va, wi, wo, ki, ta, so, st) ∧ v = (nI m, al, se, va, wi, wo, ki, ta, so, sy) ∧ sm_R m se ta so st
theorem i_up {k : Nat} {u : SX} {v : SY} (h : i_Rel k u v) : i_Rel (k + 4) u v := h
theorem sm_mk (k m : Nat) (al se va wi wo ki ta so st sy : Nat → Int32) (R : sm_R m se ta so st) : i_Rel k (nI m, al, se, va, wi, wo, ki, ta, so, st) (nI m, al, se, va, wi, wo, ki, ta, so, sy) := ⟨m, al, se, va, wi, wo, ki, ta, so, st, sy, rfl, rfl, R⟩
theorem i_vc0 : wpX_init (fun u => wpY_init (fun v => i_Rel 0 u v)) := by
  refine sm_mk 0 0 _ _ _ _ _ _ _ _ _ _ ⟨by omega, fun _ => ⟨0, by omega, rfl⟩, fun _ => ⟨0, by omega, rfl⟩, fun _ => ⟨0, by omega, rfl⟩, fun s hs => absurd hs (by omega)⟩
