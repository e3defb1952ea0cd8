theorem sg_congr {ta so st ta' so' st' : Nat → Int32} {s : Nat} (h : ∀ t, t ≤ s → ta t = ta' t ∧ so t = so' t) : ∀ j, j ≤ s → (∀ t, t < j → st t = st' t) → sm_sg ta so st s j = sm_sg ta' so' st' s j := by
  intro j
  induction j with
  | zero => intro _ _; rfl
  | succ j ih =>
    intro hj hs
    have e := ih (by omega) (fun t ht => hs t (by omega))
    show (if (ta s = ta j ∨ ta s = so j ∨ ta j = so s) ∧ ¬ st j < sm_sg ta so st s j then st j + 1 else sm_sg ta so st s j) = (if (ta' s = ta' j ∨ ta' s = so' j ∨ ta' j = so' s) ∧ ¬ st' j < sm_sg ta' so' st' s j then st' j + 1 else sm_sg ta' so' st' s j)
    rw [e, (h s (by omega)).1, (h s (by omega)).2, (h j (by omega)).1, (h j (by omega)).2, hs j (by omega)]
theorem sg_same {ta so st st' : Nat → Int32} {s : Nat} (h : ∀ t, t < s → st t = st' t) : sm_sg ta so st s s = sm_sg ta so st' s s :=
  sg_congr (fun _ _ => ⟨rfl, rfl⟩) s (by omega) h
theorem sg_eq {m : Nat} {ta so st st' : Nat → Int32} (h : ∀ s, s < m → st s = sm_sg ta so st s s) (h' : ∀ s, s < m → st' s = sm_sg ta so st' s s) : ∀ n s, s < n → s < m → st' s = st s := by
  intro n
  induction n with
  | zero => intro s hs; omega
  | succ n ih =>
    intro s hs hm
    rw [h s hm, h' s hm]
    exact sg_same (fun t ht => ih t (by omega) (by omega))
theorem sg_bnd {ta so st : Nat → Int32} (s : Nat) : ∀ j, j ≤ 8 → (∀ t, t < j → ∃ n, n ≤ t ∧ st t = nI n) → ∃ n, n ≤ j ∧ sm_sg ta so st s j = nI n := by
  intro j
  induction j with
  | zero => intro _ _; exact ⟨0, by omega, rfl⟩
  | succ j ih =>
    intro hj h
    obtain ⟨n, hn, e⟩ := ih (by omega) (fun t ht => h t (by omega))
    obtain ⟨k, hk, ek⟩ := h j (by omega)
    show ∃ n, n ≤ j + 1 ∧ (if (ta s = ta j ∨ ta s = so j ∨ ta j = so s) ∧ ¬ st j < sm_sg ta so st s j then st j + 1 else sm_sg ta so st s j) = nI n
    split
    · exact ⟨k + 1, by omega, by rw [ek, nI_1]⟩
    · exact ⟨n, by omega, e⟩
theorem sg_bd {m : Nat} {ta so st : Nat → Int32} (hm : m ≤ 8) (h : ∀ s, s < m → st s = sm_sg ta so st s s) : ∀ n s, s < n → s < m → ∃ k, k ≤ s ∧ st s = nI k := by
  intro n
  induction n with
  | zero => intro s hs; omega
  | succ n ih =>
    intro s hs hsm
    obtain ⟨k, hk, e⟩ := sg_bnd (ta := ta) (so := so) (st := st) s s (by omega) (fun t ht => ih t (by omega) (by omega))
    exact ⟨k, hk, by rw [h s hsm, e]⟩
/-- the class's conflict -/
theorem sg_cX (q : Int32) (al se va wi wo ki ta so st : Nat → Int32) {s t : Nat} (hs : s < 8) (ht : t < 8) (post : Int32 → Prop) (h1 : (ta s = ta t ∨ ta s = so t ∨ ta t = so s) → post 1) (h0 : ¬ (ta s = ta t ∨ ta s = so t ∨ ta t = so s) → post 0) : wpX_conflict post (q, al, se, va, wi, wo, ki, ta, so, st) (nI s) (nI t) := by
  have is : vp_in (nI s) 8 := vp_in_nI hs (by decide)
  have it : vp_in (nI t) 8 := vp_in_nI ht (by decide)
  have cs : (nI s).toNatClampNeg = s := aw_cl (by omega)
  have ct : (nI t).toNatClampNeg = t := aw_cl (by omega)
  unfold wpX_conflict
  dsimp only
  rw [cs, ct]
  refine ⟨is, it, br_c (fun z => h1 (Or.inl z)) (fun z1 => ⟨is, it, br_c (fun z => h1 (Or.inr (Or.inl z))) (fun z2 => ⟨it, is, br_c (fun z => h1 (Or.inr (Or.inr z))) (fun z3 => h0 ?_)⟩)⟩)⟩
  rintro (e | e | e)
  · exact z1 e
  · exact z2 e
  · exact z3 e
theorem sg_sb (q : Int32) (al se va wi wo ki ta so st : Nat → Int32) {s : Nat} (hs : s < 8) (post : Int32 → Prop) (hp : post (sm_sg ta so st s s)) : ∀ d t : Nat, t + d = s → wX_stageBehindEarlier_4 post (nI s) q al se va wi wo ki ta so st (d + 1) (sm_sg ta so st s t) (nI t) := by
  intro d
  induction d with
  | zero =>
    intro t ht
    have e : t = s := ht
    subst e
    exact br_t (nI_le (by omega) (by omega)) hp
  | succ d ih =>
    intro t ht
    have it : vp_in (nI t) 8 := vp_in_nI (by omega) (by decide)
    have ct : (nI t).toNatClampNeg = t := aw_cl (by omega)
    have ih' := ih (t + 1) (by omega)
    have es : sm_sg ta so st s (t + 1) = if (ta s = ta t ∨ ta s = so t ∨ ta t = so s) ∧ ¬ st t < sm_sg ta so st s t then st t + 1 else sm_sg ta so st s t := rfl
    rw [es] at ih'
    refine br_f (nI_ge (by omega) (by omega)) (sg_cX q al se va wi wo ki ta so st hs (by omega) _ (fun z => br_f aw_10 ⟨it, ?_⟩) (fun z => br_t rfl ?_))
    · rw [ct]
      by_cases z2 : st t < sm_sg ta so st s t
      · rw [if_neg (fun h => h.2 z2)] at ih'
        exact br_t z2 (nm_r (nI_1 t) ih')
      · rw [if_pos ⟨z, z2⟩] at ih'
        exact br_f z2 ⟨it, nm_e (nm_r (nI_1 t) ih')⟩
    · rw [if_neg (fun h => z h.1)] at ih'
      exact nm_r (nI_1 t) ih'
/-- the reference's disturbs -/
theorem sg_dY (q : Int32) (al se va wi wo ki ta so sy : Nat → Int32) {s t : Nat} (hs : s < 8) (ht : t < 8) (post : Int32 → Prop) (h1 : (ta s = ta t ∨ ta s = so t) → post 1) (h0 : ¬ (ta s = ta t ∨ ta s = so t) → post 0) : wpY_disturbs post (q, al, se, va, wi, wo, ki, ta, so, sy) (nI s) (nI t) := by
  have is : vp_in (nI s) 8 := vp_in_nI hs (by decide)
  have it : vp_in (nI t) 8 := vp_in_nI ht (by decide)
  have cs : (nI s).toNatClampNeg = s := aw_cl (by omega)
  have ct : (nI t).toNatClampNeg = t := aw_cl (by omega)
  unfold wpY_disturbs
  dsimp only
  rw [cs, ct]
  refine ⟨is, it, br_c (fun z => h1 (Or.inl z)) (fun z1 => ⟨is, it, br_c (fun z => h1 (Or.inr z)) (fun z2 => h0 ?_)⟩)⟩
  rintro (e | e)
  · exact z1 e
  · exact z2 e
theorem sg_in (q : Int32) (al se va wi wo ki ta so b : Nat → Int32) {s : Nat} (hs : s < 8) (post : SY → Prop) (Jn : Int32 → (Nat → Int32) → (Nat → Int32) → (Nat → Int32) → (Nat → Int32) → (Nat → Int32) → (Nat → Int32) → (Nat → Int32) → (Nat → Int32) → (Nat → Int32) → Prop) (hJ : Jn (nI (s + 1)) al se va wi wo ki ta so (upd b s (sm_sg ta so b s s))) : ∀ d t : Nat, t + d = s → wY_layStages_19 post Jn (nI s) q (d + 1) (nI t) al se va wi wo ki ta so (upd b s (sm_sg ta so b s t)) := by
  intro d
  induction d with
  | zero =>
    intro t ht
    have e : t = s := ht
    subst e
    exact br_t (nI_le (by omega) (by omega)) (nm_r (nI_1 t) hJ)
  | succ d ih =>
    intro t ht
    have is : vp_in (nI s) 8 := vp_in_nI hs (by decide)
    have it : vp_in (nI t) 8 := vp_in_nI (by omega) (by decide)
    have cs : (nI s).toNatClampNeg = s := aw_cl (by omega)
    have ct : (nI t).toNatClampNeg = t := aw_cl (by omega)
    have ih' := ih (t + 1) (by omega)
    have es : sm_sg ta so b s (t + 1) = if (ta s = ta t ∨ ta s = so t ∨ ta t = so s) ∧ ¬ b t < sm_sg ta so b s t then b t + 1 else sm_sg ta so b s t := rfl
    rw [es] at ih'
    have key : (ta s = ta t ∨ ta s = so t ∨ ta t = so s) → wY_layStages_42 post Jn (wY_layStages_19 post Jn (nI s) q (d + 1)) (nI s) (nI t) q al se va wi wo ki ta so (upd b s (sm_sg ta so b s t)) := by
      intro z
      unfold wY_layStages_42
      rw [cs, ct, pk_us, pk_un (by omega), aw_uu]
      refine ⟨it, is, ?_⟩
      by_cases z2 : b t < sm_sg ta so b s t
      · rw [if_neg (fun h => h.2 z2)] at ih'
        exact br_t z2 (nm_r (nI_1 t) ih')
      · rw [if_pos ⟨z, z2⟩] at ih'
        exact br_f z2 ⟨it, is, nm_e (nm_r (nI_1 t) ih')⟩
    refine br_f (nI_ge (by omega) (by omega)) (sg_dY q al se va wi wo ki ta so _ hs (by omega) _ (fun z => br_f aw_10 (key ?_)) (fun z => br_t rfl ?_))
    · rcases z with z | z
      · exact Or.inl z
      · exact Or.inr (Or.inl z)
    · refine sg_dY q al se va wi wo ki ta so _ (by omega) hs _ (fun z2 => br_f aw_10 (key ?_)) (fun z2 => br_t rfl ?_)
      · rcases z2 with z2 | z2
        · exact Or.inl z2.symm
        · exact Or.inr (Or.inr z2)
      · rw [if_neg (fun h => by
          rcases h.1 with e | e | e
          · exact z (Or.inl e)
          · exact z (Or.inr e)
          · exact z2 (Or.inr e))] at ih'
        exact nm_r (nI_1 t) ih'
theorem sg_lay {m : Nat} (hm : m ≤ 8) (al se va wi wo ki ta so : Nat → Int32) : ∀ d i : Nat, i + d = m → ∀ y : Nat → Int32, (∀ s, s < i → y s = sm_sg ta so y s s) → ∃ y' : Nat → Int32, (∀ s, s < m → y' s = sm_sg ta so y' s s) ∧ ∀ post : SY → Prop, post (nI m, al, se, va, wi, wo, ki, ta, so, y') → wY_layStages_2 post (nI m) (d + 1) (nI i) al se va wi wo ki ta so y := by
  intro d
  induction d with
  | zero =>
    intro i hi y hy
    have e : i = m := hi
    subst e
    exact ⟨y, hy, fun post hp => br_t (nI_le (by omega) (by omega)) hp⟩
  | succ d ih =>
    intro i hi y hy
    have ii : vp_in (nI i) 8 := vp_in_nI (by omega) (by decide)
    have ci : (nI i).toNatClampNeg = i := aw_cl (by omega)
    obtain ⟨y', h1, h2⟩ := ih (i + 1) (by omega) (upd y i (sm_sg ta so y i i)) (by
      intro s hs
      by_cases z : s = i
      · subst z
        rw [pk_us]
        exact sg_same (fun t ht => (pk_un (by omega)).symm)
      · rw [pk_un z, hy s (by omega)]
        exact sg_same (fun t ht => (pk_un (by omega)).symm))
    refine ⟨y', h1, fun post hp => br_f (nI_ge (by omega) (by omega)) ⟨ii, nm_r (by rw [ci]) ⟨i + 1, ?_⟩⟩⟩
    exact sg_in (nI m) al se va wi wo ki ta so y (by omega) post _ (h2 post hp) i 0 (by omega)
theorem sg_wlay {m : Nat} {al se va wi wo ki ta so st : Nat → Int32} (sy : Nat → Int32) (R : sm_R m se ta so st) : ∃ y' : Nat → Int32, (∀ s, s < m → y' s = st s) ∧ ∀ post : SY → Prop, post (nI m, al, se, va, wi, wo, ki, ta, so, y') → wpY_layStages post (nI m, al, se, va, wi, wo, ki, ta, so, sy) := by
  obtain ⟨y', h1, h2⟩ := sg_lay R.1 al se va wi wo ki ta so m 0 (by omega) sy (fun s hs => by omega)
  refine ⟨y', fun s hs => sg_eq R.2.2.2.2 h1 (s + 1) s (by omega) hs, fun post hp => ?_⟩
  unfold wpY_layStages
  exact ⟨m + 1, h2 post hp⟩
theorem i_vc_stage {k : Nat} {u : SX} {v : SY} (I : i_Rel k u v) (hk : k + 4 ≤ 2048) (v1 : Int32) : wpX_stage (fun r => wpY_stage (fun r' v' => r' = r ∧ i_Rel (k + 4) u v') v v1) u v1 := by
  obtain ⟨m, al, se, va, wi, wo, ki, ta, so, st, sy, rfl, rfl, R⟩ := I
  obtain ⟨y', hy, hL⟩ := sg_wlay (al := al) (va := va) (wi := wi) (wo := wo) (ki := ki) sy R
  have J : i_Rel (k + 4) (nI m, al, se, va, wi, wo, ki, ta, so, st) (nI m, al, se, va, wi, wo, ki, ta, so, y') := sm_mk _ _ _ _ _ _ _ _ _ _ _ _ R
  have hm := R.1
  unfold wpX_stage wpY_stage
  dsimp only
  by_cases h0 : v1 < 0
  · exact br_t h0 (hL _ (br_t h0 ⟨rfl, J⟩))
  · obtain ⟨s, hs, rfl⟩ := nI_of h0
    by_cases h1 : s < m
    · have is : vp_in (nI s) 8 := vp_in_nI (by omega) (by decide)
      have cs : (nI s).toNatClampNeg = s := aw_cl (by omega)
      refine br_f h0 (br_t (nI_lt h1 (by omega)) ⟨is, hL _ (br_f h0 (br_f (nI_ge h1 (by omega)) ⟨is, ?_, J⟩))⟩)
      rw [cs]; exact hy s h1
    · exact br_f h0 (br_f (nI_nlt (by omega) hs) (hL _ (br_f h0 (br_t (nI_le (by omega) hs) ⟨rfl, J⟩))))
theorem sg_stages {m : Nat} (hm : m ≤ 8) (al se va wi wo ki ta so st y : Nat → Int32) (hb : ∀ s, s < m → ∃ n, n ≤ s ∧ st s = nI n) (hy : ∀ s, s < m → y s = st s) : ∀ d i : Nat, i + d = m → ∀ b : Nat, b ≤ i → ∃ b' : Nat, b ≤ b' ∧ b' ≤ m ∧ (∀ s, i ≤ s → s < m → ∃ n, n < b' ∧ st s = nI n) ∧ (∀ post : Int32 → Prop, post (nI b') → wX_stages_4 post (nI m) al se va wi wo ki ta so st (d + 1) (nI b) (nI i)) ∧ (∀ post : Int32 → SY → Prop, post (nI b') (nI m, al, se, va, wi, wo, ki, ta, so, y) → wY_stages_8 post (nI m) al se va wi wo ki ta so y (d + 1) (nI b) (nI i)) := by
  intro d
  induction d with
  | zero =>
    intro i hi b hbi
    have h : nI m ≤ nI i := nI_le (by omega) (by omega)
    exact ⟨b, by omega, by omega, fun s h1 h2 => by omega, fun _ hp => br_t h hp, fun _ hp => br_t h hp⟩
  | succ d ih =>
    intro i hi b hbi
    have h : ¬ nI m ≤ nI i := nI_ge (by omega) (by omega)
    have ii : vp_in (nI i) 8 := vp_in_nI (by omega) (by decide)
    have ci : (nI i).toNatClampNeg = i := aw_cl (by omega)
    obtain ⟨n, hn, en⟩ := hb i (by omega)
    have ey : y (nI i).toNatClampNeg = nI n := by rw [ci, hy i (by omega), en]
    have ex : st (nI i).toNatClampNeg = nI n := by rw [ci, en]
    by_cases z : n < b
    · obtain ⟨b', g1, g2, g3, g4, g5⟩ := ih (i + 1) (by omega) b (by omega)
      refine ⟨b', g1, g2, fun s h1 h2 => ?_, fun post hp => br_f h ⟨ii, br_t (by rw [ex]; exact nI_lt z (by omega)) (nm_r (nI_1 i) (g4 post hp))⟩, fun post hp => br_f h ⟨ii, br_t (by rw [ey, nI_1]; exact nI_le (by omega) (by omega)) (nm_r (nI_1 i) (g5 post hp))⟩⟩
      by_cases zs : s = i
      · exact ⟨n, by omega, by rw [zs, en]⟩
      · exact g3 s (by omega) h2
    · obtain ⟨b', g1, g2, g3, g4, g5⟩ := ih (i + 1) (by omega) (n + 1) (by omega)
      refine ⟨b', by omega, g2, fun s h1 h2 => ?_, fun post hp => br_f h ⟨ii, br_f (by rw [ex]; exact nI_nlt (by omega) (by omega)) ⟨ii, nm_r (by rw [ex, nI_1]) (nm_r (nI_1 i) (g4 post hp))⟩⟩, fun post hp => br_f h ⟨ii, br_f (by rw [ey, nI_1]; exact nI_ge (by omega) (by omega)) ⟨ii, nm_r (by rw [ey, nI_1]) (nm_r (nI_1 i) (g5 post hp))⟩⟩⟩
      by_cases zs : s = i
      · exact ⟨n, by omega, by rw [zs, en]⟩
      · exact g3 s (by omega) h2
theorem i_vc_stages {k : Nat} {u : SX} {v : SY} (I : i_Rel k u v) (hk : k + 4 ≤ 2048) : wpX_stages (fun r => wpY_stages (fun r' v' => r' = r ∧ i_Rel (k + 4) u v') v) u := by
  obtain ⟨m, al, se, va, wi, wo, ki, ta, so, st, sy, rfl, rfl, R⟩ := I
  obtain ⟨y', hy, hL⟩ := sg_wlay (al := al) (va := va) (wi := wi) (wo := wo) (ki := ki) sy R
  have J : i_Rel (k + 4) (nI m, al, se, va, wi, wo, ki, ta, so, st) (nI m, al, se, va, wi, wo, ki, ta, so, y') := sm_mk _ _ _ _ _ _ _ _ _ _ _ _ R
  have hm := R.1
  obtain ⟨b', _, _, _, hX, hY⟩ := sg_stages hm al se va wi wo ki ta so st y' (fun s hs => sg_bd hm R.2.2.2.2 (s + 1) s (by omega) hs) hy m 0 (by omega) 0 (by omega)
  unfold wpX_stages wpY_stages
  dsimp only
  exact ⟨m + 1, hX _ (hL _ ⟨m + 1, hY _ ⟨rfl, J⟩⟩)⟩
theorem i_vc_unsystem {k : Nat} {u : SX} {v : SY} (I : i_Rel k u v) (hk : k + 4 ≤ 2048) : wpX_unsystem (fun r u' => wpY_unsystem (fun r' v' => r' = r ∧ i_Rel (k + 4) u' v') v) u := by
  have J := i_up I
  obtain ⟨m, al, se, va, wi, wo, ki, ta, so, st, sy, rfl, rfl, R⟩ := I
  unfold wpX_unsystem wpY_unsystem
  dsimp only
  have hm := R.1
  cases m with
  | zero => exact br_t rfl (br_t rfl ⟨rfl, J⟩)
  | succ m =>
    have h : ¬ nI (m + 1) = 0 := nI_ne0 (by omega) (by omega)
    refine br_f h (nm_r (nI_pred m) (br_f h (nm_r (nI_pred m) ⟨rfl, sm_mk _ _ _ _ _ _ _ _ _ _ _ _ ⟨by omega, R.2.1, R.2.2.1, R.2.2.2.1, fun s hs => R.2.2.2.2 s (by omega)⟩⟩)))
