def fr_v (k x y : Int32) : Int32 := if k = 0 then x + y else if k = 1 then x - y else if k = 2 then y else if k = 3 then x * y else if 0 ≤ y then x else 0
theorem fr_vX (k x y : Int32) (post : Int32 → Prop) (hp : post (fr_v k x y)) : wpX_workedValue post k x y := by
  unfold wpX_workedValue
  unfold fr_v at hp
  by_cases z0 : k = 0
  · subst z0
    rw [if_pos rfl] at hp
    exact br_f (by decide) (br_f (by decide) (br_t rfl hp))
  · rw [if_neg z0] at hp
    by_cases z1 : k = 1
    · subst z1
      rw [if_pos rfl] at hp
      exact br_f (by decide) (br_f (by decide) (br_f z0 (br_t rfl hp)))
    · rw [if_neg z1] at hp
      by_cases z2 : k = 2
      · subst z2
        rw [if_pos rfl] at hp
        exact br_f (by decide) (br_f (by decide) (br_f z0 (br_f z1 (br_t rfl hp))))
      · rw [if_neg z2] at hp
        by_cases z3 : k = 3
        · subst z3
          rw [if_pos rfl] at hp
          exact br_f (by decide) (br_f (by decide) (br_f z0 (br_f z1 (br_f z2 (br_t rfl hp)))))
        · rw [if_neg z3] at hp
          have hl : (0 ≤ y → post x) ∧ (¬ 0 ≤ y → post 0) := by
            by_cases zy : 0 ≤ y
            · rw [if_pos zy] at hp
              exact br_t zy hp
            · rw [if_neg zy] at hp
              exact br_f zy hp
          exact br_c (fun _ => hl) (fun _ => br_c (fun _ => hl) (fun _ => br_f z0 (br_f z1 (br_f z2 (br_f z3 trivial)))))
theorem fr_wY (q : Int32) (al se va wi wo ki ta so sy : Nat → Int32) {s j a b : Nat} (hs : s < 8) (hj : j < 24) (ha : a < 6) (hb : b < 6) (ea : ta s = nI a) (eb : so s = nI b) (post : SY → Prop) (hp : post (q, al, se, upd va (6 * j + a) (fr_v (ki s) (va (6 * j + a)) (va (6 * j + b))), wi, wo, ki, ta, so, sy)) : wpY_work post (q, al, se, va, wi, wo, ki, ta, so, sy) (nI s) (nI j) := by
  have is : vp_in (nI s) 8 := vp_in_nI hs (by decide)
  have cs : (nI s).toNatClampNeg = s := aw_cl (by omega)
  have i4 : vp_in (nI (6 * j + a)) 144 := vp_in_nI (by omega) (by decide)
  have c4 : (nI (6 * j + a)).toNatClampNeg = 6 * j + a := aw_cl (by omega)
  unfold wpY_work
  dsimp only
  rw [cs, ea, eb]
  refine ⟨is, nm_r (aw_iY j a) ⟨i4, nm_r (by rw [c4]) ⟨is, aw_nY hj hb, nm_r (by rw [aw_vY hj hb]) ⟨is, ?_⟩⟩⟩⟩
  rw [c4]
  unfold fr_v at hp
  by_cases z0 : ki s = 0
  · rw [if_pos z0] at hp
    exact br_t z0 ⟨i4, nm_e hp⟩
  · rw [if_neg z0] at hp
    refine br_f z0 ⟨is, ?_⟩
    by_cases z1 : ki s = 1
    · rw [if_pos z1] at hp
      exact br_t z1 ⟨i4, nm_e hp⟩
    · rw [if_neg z1] at hp
      refine br_f z1 ⟨is, ?_⟩
      by_cases z2 : ki s = 2
      · rw [if_pos z2] at hp
        exact br_t z2 ⟨i4, nm_e hp⟩
      · rw [if_neg z2] at hp
        refine br_f z2 ⟨is, ?_⟩
        by_cases z3 : ki s = 3
        · rw [if_pos z3] at hp
          exact br_t z3 ⟨i4, nm_e hp⟩
        · rw [if_neg z3] at hp
          refine br_f z3 ?_
          by_cases zy : 0 ≤ va (6 * j + b)
          · rw [if_pos zy, aw_us] at hp
            exact br_t zy hp
          · rw [if_neg zy] at hp
            exact br_f zy ⟨i4, nm_e hp⟩
theorem fr_rs (q : Int32) (al se wi wo ki ta so st sy : Nat → Int32) {s a b : Nat} (hs : s < 8) (ha : a < 6) (hb : b < 6) (ea : ta s = nI a) (eb : so s = nI b) : ∀ d j : Nat, j + d = 24 → ∀ (x : Int32) (va : Nat → Int32), ∃ (r : Int32) (va' : Nat → Int32), (∀ post : Int32 → SX → Prop, post r (q, al, se, va', wi, wo, ki, ta, so, st) → wX_runSystem_4 post (nI s) q (d + 1) x (nI j) al se va wi wo ki ta so st) ∧ (∀ post : Int32 → SY → Prop, post r (q, al, se, va', wi, wo, ki, ta, so, sy) → wY_runSystem_4 post (nI s) (d + 1) x (nI j) q al se va wi wo ki ta so sy) := by
  have is : vp_in (nI s) 8 := vp_in_nI hs (by decide)
  have cs : (nI s).toNatClampNeg = s := aw_cl (by omega)
  intro d
  induction d with
  | zero =>
    intro j hj x va
    have h : (24 : Int32) ≤ nI j := nI_le (a := 24) (by omega) (by omega)
    exact ⟨x, va, fun _ hp => br_t h hp, fun _ hp => br_t h hp⟩
  | succ d ih =>
    intro j hj x va
    have h : ¬ (24 : Int32) ≤ nI j := nI_ge (b := 24) (by omega) (by decide)
    obtain ⟨r, _, hX, hY⟩ := sm_fits q al se va wi wo ki ta so st sy (wi (nI s).toNatClampNeg) (wo (nI s).toNatClampNeg) (j := j) (by omega)
    by_cases z : r = 0
    · obtain ⟨r', va', hX', hY'⟩ := ih (j + 1) (by omega) x va
      exact ⟨r', va', fun post hp => br_f h ⟨is, is, hX _ (br_t z (nm_r (nI_1 j) (hX' post hp)))⟩, fun post hp => br_f h ⟨is, is, hY _ (br_t z (nm_r (nI_1 j) (hY' post hp)))⟩⟩
    · obtain ⟨r', va', hX', hY'⟩ := ih (j + 1) (by omega) (x + 1) (upd va (6 * j + a) (fr_v (ki s) (va (6 * j + a)) (va (6 * j + b))))
      have i4 : vp_in (nI (6 * j + a)) 144 := vp_in_nI (by omega) (by decide)
      have i5 : vp_in (nI (6 * j + b)) 144 := vp_in_nI (by omega) (by decide)
      have c4 : (nI (6 * j + a)).toNatClampNeg = 6 * j + a := aw_cl (by omega)
      have c5 : (nI (6 * j + b)).toNatClampNeg = 6 * j + b := aw_cl (by omega)
      have e4 : nI j * 6 + ta (nI s).toNatClampNeg = nI (6 * j + a) := by rw [cs, ea, aw_iX]
      have e5 : nI j * 6 + so (nI s).toNatClampNeg = nI (6 * j + b) := by rw [cs, eb, aw_iX]
      refine ⟨r', va', fun post hp => br_f h ⟨is, is, hX _ (br_f z ⟨is, nm_r e4 ⟨is, nm_r e5 ⟨is, i4, i5, fr_vX _ _ _ _ ⟨i4, nm_r (by rw [c4, c5, cs]) (nm_e (nm_r (nI_1 j) (hX' post hp)))⟩⟩⟩⟩)⟩, fun post hp => br_f h ⟨is, is, hY _ (br_f z (fr_wY q al se va wi wo ki ta so sy hs (by omega) ha hb ea eb _ (nm_e (nm_r (nI_1 j) (hY' post hp)))))⟩⟩
theorem fr_in {m : Nat} (hm : m ≤ 8) (al se wi wo ki ta so st sy : Nat → Int32) (hta : ∀ s, ∃ n, n < 6 ∧ ta s = nI n) (hso : ∀ s, ∃ n, n < 6 ∧ so s = nI n) (hy : ∀ s, s < m → sy s = st s) (E : Int32) (g : Nat) : ∀ d i : Nat, i + d = m → ∀ (x : Int32) (va : Nat → Int32), ∃ (r : Int32) (va' : Nat → Int32), (∀ (post : Int32 → SX → Prop) (Jn : Int32 → Int32 → Int32 → (Nat → Int32) → (Nat → Int32) → (Nat → Int32) → (Nat → Int32) → (Nat → Int32) → (Nat → Int32) → (Nat → Int32) → (Nat → Int32) → (Nat → Int32) → Prop), Jn r (nI (g + 1)) (nI m) al se va' wi wo ki ta so st → wX_runOneFrame_17 post Jn E (nI g) (d + 1) x (nI i) (nI m) al se va wi wo ki ta so st) ∧ (∀ (post : Int32 → SY → Prop) (Jn : Int32 → Int32 → Int32 → (Nat → Int32) → (Nat → Int32) → (Nat → Int32) → (Nat → Int32) → (Nat → Int32) → (Nat → Int32) → (Nat → Int32) → (Nat → Int32) → (Nat → Int32) → Prop), Jn r (nI (g + 1)) (nI m) al se va' wi wo ki ta so sy → wY_runFrame_12 post Jn (nI g) (d + 1) x (nI i) (nI m) al se va wi wo ki ta so sy) := by
  intro d
  induction d with
  | zero =>
    intro i hi x va
    have h : nI m ≤ nI i := nI_le (by omega) (by omega)
    exact ⟨x, va, fun _ _ hp => br_t h (nm_r (nI_1 g) hp), fun _ _ hp => br_t h (nm_r (nI_1 g) hp)⟩
  | succ d ih =>
    intro i hi x va
    have h : ¬ nI m ≤ nI i := nI_ge (by omega) (by omega)
    have ii : vp_in (nI i) 8 := vp_in_nI (by omega) (by decide)
    have ci : (nI i).toNatClampNeg = i := aw_cl (by omega)
    have ey : sy (nI i).toNatClampNeg = st (nI i).toNatClampNeg := by rw [ci]; exact hy i (by omega)
    by_cases z : st (nI i).toNatClampNeg = nI g
    · obtain ⟨a, ha, ea⟩ := hta i
      obtain ⟨b, hb, eb⟩ := hso i
      obtain ⟨r1, va1, hX1, hY1⟩ := fr_rs (nI m) al se wi wo ki ta so st sy (s := i) (by omega) ha hb ea eb 24 0 rfl 0 va
      obtain ⟨r', va', hX', hY'⟩ := ih (i + 1) (by omega) (x + r1) va1
      refine ⟨r', va', fun post Jn hp => br_f h ⟨ii, br_t z ?_⟩, fun post Jn hp => br_f h ⟨ii, br_t (ey.trans z) ?_⟩⟩
      · unfold wpX_runSystem
        exact ⟨25, hX1 _ (nm_e (nm_r (nI_1 i) (hX' post Jn hp)))⟩
      · unfold wpY_runSystem
        exact ⟨25, hY1 _ (nm_e (nm_r (nI_1 i) (hY' post Jn hp)))⟩
    · obtain ⟨r', va', hX', hY'⟩ := ih (i + 1) (by omega) x va
      exact ⟨r', va', fun post Jn hp => br_f h ⟨ii, br_f z (nm_r (nI_1 i) (hX' post Jn hp))⟩, fun post Jn hp => br_f h ⟨ii, br_f (by rw [ey]; exact z) (nm_r (nI_1 i) (hY' post Jn hp))⟩⟩
/-- a stage that no system has: the reference passes it by -/
theorem fr_pass {m : Nat} (hm : m ≤ 8) (al se va wi wo ki ta so sy : Nat → Int32) (g : Nat) (hg : ∀ s, s < m → ¬ sy s = nI g) (x : Int32) (post : Int32 → SY → Prop) (Jn : Int32 → Int32 → Int32 → (Nat → Int32) → (Nat → Int32) → (Nat → Int32) → (Nat → Int32) → (Nat → Int32) → (Nat → Int32) → (Nat → Int32) → (Nat → Int32) → (Nat → Int32) → Prop) (hp : Jn x (nI (g + 1)) (nI m) al se va wi wo ki ta so sy) : ∀ d i : Nat, i + d = m → wY_runFrame_12 post Jn (nI g) (d + 1) x (nI i) (nI m) al se va wi wo ki ta so sy := by
  intro d
  induction d with
  | zero =>
    intro i hi
    exact br_t (nI_le (by omega) (by omega)) (nm_r (nI_1 g) hp)
  | succ d ih =>
    intro i hi
    have ii : vp_in (nI i) 8 := vp_in_nI (by omega) (by decide)
    have ci : (nI i).toNatClampNeg = i := aw_cl (by omega)
    exact br_f (nI_ge (by omega) (by omega)) ⟨ii, br_f (by rw [ci]; exact hg i (by omega)) (nm_r (nI_1 i) (ih (i + 1) (by omega)))⟩
theorem fr_tail {m S : Nat} (hm : m ≤ 8) (al se va wi wo ki ta so sy : Nat → Int32) (hg : ∀ s, s < m → ∃ n, n < S ∧ sy s = nI n) (x : Int32) (post : Int32 → SY → Prop) (hp : post x (nI m, al, se, va, wi, wo, ki, ta, so, sy)) : ∀ d g : Nat, g + d = 8 → S ≤ g → wY_runFrame_4 post (d + 1) x (nI g) (nI m) al se va wi wo ki ta so sy := by
  intro d
  induction d with
  | zero =>
    intro g hgd _
    exact br_t (nI_le (a := 8) (by omega) (by omega)) hp
  | succ d ih =>
    intro g hgd hS
    refine br_f (nI_ge (b := 8) (by omega) (by decide)) ⟨m + 1, fr_pass hm al se va wi wo ki ta so sy g (fun s hs z => ?_) x post _ (ih (g + 1) (by omega) (by omega)) m 0 (by omega)⟩
    obtain ⟨n, hn, e⟩ := hg s hs
    rw [e] at z
    by_cases hn' : n < 8
    · have := (nI_eq (by omega) (by omega)).mp z
      omega
    · omega
theorem fr_out {m S : Nat} (hm : m ≤ 8) (hS : S ≤ 8) (al se wi wo ki ta so st sy : Nat → Int32) (hta : ∀ s, ∃ n, n < 6 ∧ ta s = nI n) (hso : ∀ s, ∃ n, n < 6 ∧ so s = nI n) (hy : ∀ s, s < m → sy s = st s) (hg : ∀ s, s < m → ∃ n, n < S ∧ st s = nI n) : ∀ d g : Nat, g + d = S → ∀ (x : Int32) (va : Nat → Int32), ∃ (r : Int32) (va' : Nat → Int32), (∀ post : Int32 → SX → Prop, post r (nI m, al, se, va', wi, wo, ki, ta, so, st) → wX_runOneFrame_9 post (nI S) (d + 1) x (nI g) (nI m) al se va wi wo ki ta so st) ∧ (∀ post : Int32 → SY → Prop, post r (nI m, al, se, va', wi, wo, ki, ta, so, sy) → wY_runFrame_4 post (d + (8 - S) + 1) x (nI g) (nI m) al se va wi wo ki ta so sy) := by
  intro d
  induction d with
  | zero =>
    intro g hgd x va
    have e : g = S := hgd
    subst e
    refine ⟨x, va, fun _ hp => br_t (nI_le (by omega) (by omega)) hp, fun post hp => ?_⟩
    rw [Nat.zero_add]
    exact fr_tail hm al se va wi wo ki ta so sy (fun s hs => by rw [hy s hs]; exact hg s hs) x post hp (8 - g) g (by omega) (by omega)
  | succ d ih =>
    intro g hgd x va
    obtain ⟨r1, va1, hX1, hY1⟩ := fr_in hm al se wi wo ki ta so st sy hta hso hy (nI S) g m 0 (by omega) x va
    obtain ⟨r', va', hX', hY'⟩ := ih (g + 1) (by omega) r1 va1
    refine ⟨r', va', fun post hp => br_f (nI_ge (by omega) (by omega)) ⟨m + 1, hX1 post _ (hX' post hp)⟩, fun post hp => ?_⟩
    rw [show d + 1 + (8 - S) + 1 = (d + (8 - S) + 1) + 1 by omega]
    exact br_f (nI_ge (b := 8) (by omega) (by decide)) ⟨m + 1, hY1 post _ (hY' post hp)⟩
theorem fr_one {m : Nat} (al se va wi wo ki ta so st sy : Nat → Int32) (R : sm_R m se ta so st) (hy : ∀ s, s < m → sy s = st s) : ∃ (r : Int32) (va' : Nat → Int32), (∀ post : Int32 → SX → Prop, post r (nI m, al, se, va', wi, wo, ki, ta, so, st) → wpX_runOneFrame post (nI m, al, se, va, wi, wo, ki, ta, so, st)) ∧ (∀ post : Int32 → SY → Prop, post r (nI m, al, se, va', wi, wo, ki, ta, so, sy) → wpY_runFrame post (nI m, al, se, va, wi, wo, ki, ta, so, sy)) := by
  have hm := R.1
  obtain ⟨S, _, hS, hg, hX, _⟩ := sg_stages hm al se va wi wo ki ta so st sy (fun s hs => sg_bd hm R.2.2.2.2 (s + 1) s (by omega) hs) hy m 0 (by omega) 0 (by omega)
  obtain ⟨r, va', hX', hY'⟩ := fr_out hm (S := S) (by omega) al se wi wo ki ta so st sy R.2.2.1 R.2.2.2.1 hy (fun s hs => hg s (by omega) hs) S 0 (by omega) 0 va
  refine ⟨r, va', fun post hp => ?_, fun post hp => ?_⟩
  · unfold wpX_runOneFrame wpX_stages
    exact ⟨m + 1, hX _ ⟨S + 1, hX' post hp⟩⟩
  · unfold wpY_runFrame
    exact ⟨S + (8 - S) + 1, hY' post hp⟩
theorem fr_fr {m f F : Nat} (hf : f < 2 ^ 31) (h10 : F ≤ 10) (hF : F ≤ f) (hc : F = 10 ∨ F = f) (al se wi wo ki ta so st sy : Nat → Int32) (R : sm_R m se ta so st) (hy : ∀ s, s < m → sy s = st s) : ∀ d i : Nat, i + d = F → ∀ (x : Int32) (va : Nat → Int32), ∃ (r : Int32) (va' : Nat → Int32), (∀ post : Int32 → SX → Prop, post r (nI m, al, se, va', wi, wo, ki, ta, so, st) → wX_frame_18 post (nI F) (d + 1) x (nI i) (nI m) al se va wi wo ki ta so st) ∧ (∀ post : Int32 → SY → Prop, post r (nI m, al, se, va', wi, wo, ki, ta, so, sy) → wY_frame_8 post (nI f) (d + 1) x (nI i) (nI m) al se va wi wo ki ta so sy) := by
  intro d
  induction d with
  | zero =>
    intro i hi x va
    have e : i = F := hi
    subst e
    refine ⟨x, va, fun _ hp => br_t (nI_le (by omega) (by omega)) hp, fun post hp => ?_⟩
    by_cases z : i = 10
    · exact br_t (nI_le (a := 10) (by omega) (by omega)) hp
    · exact br_f (nI_ge (b := 10) (by omega) (by decide)) (br_t (nI_le (by omega) (by omega)) hp)
  | succ d ih =>
    intro i hi x va
    obtain ⟨r1, va1, hX1, hY1⟩ := fr_one al se va wi wo ki ta so st sy R hy
    obtain ⟨r', va', hX', hY'⟩ := ih (i + 1) (by omega) (x + r1) va1
    exact ⟨r', va', fun post hp => br_f (nI_ge (by omega) (by omega)) (hX1 _ (nm_e (nm_r (nI_1 i) (hX' post hp)))), fun post hp => br_f (nI_ge (b := 10) (by omega) (by decide)) (br_f (nI_ge (by omega) (by omega)) (hY1 _ (nm_e (nm_r (nI_1 i) (hY' post hp)))))⟩
