/-- some living entity below k has the set x -/
def kd_seen (al se : Nat → Int32) : Nat → Int32 → Bool
  | 0, _ => false
  | k + 1, x => kd_seen al se k x || (decide (¬ al k = 0) && decide (se k = x))
def kd_cn (P : Nat → Bool) : Nat → Nat
  | 0 => 0
  | n + 1 => kd_cn P n + (if P n then 1 else 0)
theorem kd_le (P : Nat → Bool) : ∀ n, kd_cn P n ≤ n := by
  intro n
  induction n with
  | zero => exact Nat.le_refl 0
  | succ n ih =>
    show kd_cn P n + (if P n then 1 else 0) ≤ n + 1
    split <;> omega
theorem kd_ext {P Q : Nat → Bool} : ∀ n, (∀ i, i < n → P i = Q i) → kd_cn P n = kd_cn Q n := by
  intro n
  induction n with
  | zero => intro _; rfl
  | succ n ih =>
    intro h
    show kd_cn P n + (if P n then 1 else 0) = kd_cn Q n + (if Q n then 1 else 0)
    rw [ih (fun i hi => h i (by omega)), h n (by omega)]
theorem kd_ins {P Q : Nat → Bool} {a : Nat} (hP : P a = false) (hQ : Q a = true) (h : ∀ i, i ≠ a → P i = Q i) : ∀ n, a < n → kd_cn Q n = kd_cn P n + 1 := by
  intro n
  induction n with
  | zero => intro h; omega
  | succ n ih =>
    intro ha
    show kd_cn Q n + (if Q n then 1 else 0) = kd_cn P n + (if P n then 1 else 0) + 1
    by_cases z : a = n
    · subst z
      rw [hP, hQ, kd_ext (P := P) (Q := Q) a (fun i hi => h i (by omega))]
      simp
    · rw [ih (by omega), h n (by omega)]
      omega
/-- the number of sets that some living entity below k has -/
def kd_K (al se : Nat → Int32) (k : Nat) : Nat := kd_cn (fun n => kd_seen al se k (nI n)) 64
theorem kd_dead {al se : Nat → Int32} {k : Nat} (h : al k = 0) : kd_K al se (k + 1) = kd_K al se k := by
  apply kd_ext
  intro i _
  show (kd_seen al se k (nI i) || (decide (¬ al k = 0) && decide (se k = nI i))) = _
  rw [decide_eq_false (fun z => z h), Bool.false_and, Bool.or_false]
theorem kd_old {al se : Nat → Int32} {k : Nat} (h : kd_seen al se k (se k) = true) : kd_K al se (k + 1) = kd_K al se k := by
  apply kd_ext
  intro i _
  show (kd_seen al se k (nI i) || (decide (¬ al k = 0) && decide (se k = nI i))) = _
  by_cases z : se k = nI i
  · rw [← z, h, Bool.true_or]
  · rw [decide_eq_false z, Bool.and_false, Bool.or_false]
theorem kd_new {al se : Nat → Int32} {k a : Nat} (ha : a < 64) (e : se k = nI a) (hl : ¬ al k = 0) (h : kd_seen al se k (se k) = false) : kd_K al se (k + 1) = kd_K al se k + 1 := by
  have hx : ∀ P Q : Nat → Bool, P a = false → Q a = true → (∀ i, i < 64 → i ≠ a → P i = Q i) → kd_cn Q 64 = kd_cn P 64 + 1 := by
    intro P Q h1 h2 h3
    have e1 : kd_cn P 64 = kd_cn (fun i => P i && decide (i < 64)) 64 := kd_ext 64 (fun i hi => by show P i = (P i && decide (i < 64)); rw [decide_eq_true hi, Bool.and_true])
    have e2 : kd_cn Q 64 = kd_cn (fun i => Q i && decide (i < 64)) 64 := kd_ext 64 (fun i hi => by show Q i = (Q i && decide (i < 64)); rw [decide_eq_true hi, Bool.and_true])
    rw [e1, e2]
    refine kd_ins (a := a) ?_ ?_ (fun i hi => ?_) 64 ha
    · show (P a && decide (a < 64)) = false
      rw [h1, Bool.false_and]
    · show (Q a && decide (a < 64)) = true
      rw [h2, decide_eq_true ha]; rfl
    · show (P i && decide (i < 64)) = (Q i && decide (i < 64))
      by_cases z : i < 64
      · rw [h3 i z hi]
      · rw [decide_eq_false z, Bool.and_false, Bool.and_false]
  refine hx _ _ ?_ ?_ (fun i hi hn => ?_)
  · show kd_seen al se k (nI a) = false
    rw [← e]; exact h
  · show (kd_seen al se k (nI a) || (decide (¬ al k = 0) && decide (se k = nI a))) = true
    rw [decide_eq_true hl, decide_eq_true e]; simp
  · show kd_seen al se k (nI i) = (kd_seen al se k (nI i) || (decide (¬ al k = 0) && decide (se k = nI i)))
    have hne : ¬ se k = nI i := fun z => hn ((nI_eq (by omega) (by omega)).mp (z.symm.trans e))
    rw [decide_eq_false hne, Bool.and_false, Bool.or_false]
theorem kd_first (q : Int32) (al se va wi wo ki ta so st : Nat → Int32) {k : Nat} (hk : k < 24) (post : Int32 → Prop) (hp : post (sm_i (! kd_seen al se k (se k)))) : ∀ d j : Nat, j + d = k → kd_seen al se j (se k) = false → wX_isFirstWithItsSet_2 post (nI k) q al se va wi wo ki ta so st (d + 1) (nI j) := by
  intro d
  induction d with
  | zero =>
    intro j hj hs
    have e' : j = k := hj
    subst e'
    rw [hs] at hp
    exact br_t (nI_le (by omega) (by omega)) hp
  | succ d ih =>
    intro j hj hs
    have hi : vp_in (nI j) 24 := vp_in_nI (by omega) (by decide)
    have hik : vp_in (nI k) 24 := vp_in_nI (by omega) (by decide)
    have hcl : (nI j).toNatClampNeg = j := aw_cl (by omega)
    have hck : (nI k).toNatClampNeg = k := aw_cl (by omega)
    have es : kd_seen al se (j + 1) (se k) = (kd_seen al se j (se k) || (decide (¬ al j = 0) && decide (se j = se k))) := rfl
    refine br_f (nI_ge (by omega) (by omega)) ⟨hi, ?_⟩
    rw [hcl, hck]
    by_cases z : al j = 0
    · exact br_t z (nm_r (nI_1 j) (ih (j + 1) (by omega) (by rw [es, hs, decide_eq_false (fun h => h z)]; rfl)))
    · refine br_f z ⟨hi, hik, ?_⟩
      by_cases z2 : se j = se k
      · refine br_t z2 ?_
        have mono : ∀ d' : Nat, kd_seen al se (j + 1 + d') (se k) = true := by
          intro d'
          induction d' with
          | zero =>
            show kd_seen al se (j + 1) (se k) = true
            rw [es, decide_eq_true z, decide_eq_true z2]; simp
          | succ d' ihd =>
            show (kd_seen al se (j + 1 + d') (se k) || _) = true
            rw [ihd, Bool.true_or]
        have e3 := mono d
        rw [show j + 1 + d = k by omega] at e3
        rw [e3] at hp
        exact hp
      · exact br_f z2 (nm_r (nI_1 j) (ih (j + 1) (by omega) (by rw [es, hs, decide_eq_false z2, Bool.and_false]; rfl)))
theorem kd_X (q : Int32) (al se va wi wo ki ta so st : Nat → Int32) (hse : ∀ e, ∃ n, n < 64 ∧ se e = nI n) (post : Int32 → Prop) (hp : post (nI (kd_K al se 24))) : ∀ d e : Nat, e + d = 24 → wX_kinds_4 post q al se va wi wo ki ta so st (d + 1) (nI (kd_K al se e)) (nI e) := by
  intro d
  induction d with
  | zero =>
    intro e he
    have e' : e = 24 := he
    subst e'
    exact br_t (nI_le (a := 24) (b := 24) (by omega) (by decide)) hp
  | succ d ih =>
    intro e he
    have hi : vp_in (nI e) 24 := vp_in_nI (by omega) (by decide)
    have hcl : (nI e).toNatClampNeg = e := aw_cl (by omega)
    have ih' := ih (e + 1) (by omega)
    refine br_f (nI_ge (b := 24) (by omega) (by decide)) ⟨hi, ?_⟩
    rw [hcl]
    by_cases z : al e = 0
    · rw [kd_dead z] at ih'
      exact br_t z (nm_r (nI_1 e) ih')
    · refine br_f z ?_
      unfold wpX_isFirstWithItsSet
      refine ⟨e + 1, kd_first q al se va wi wo ki ta so st (by omega) _ ?_ e 0 (by omega) rfl⟩
      cases hs : kd_seen al se e (se e)
      · obtain ⟨a, ha, ea⟩ := hse e
        rw [kd_new ha ea z hs] at ih'
        exact br_f aw_10 (nm_r (nI_1 _) (nm_r (nI_1 e) ih'))
      · rw [kd_old hs] at ih'
        exact br_t rfl (nm_r (nI_1 e) ih')
theorem kd_in (q : Int32) (al se va wi wo ki ta so sy : Nat → Int32) (post : Int32 → Prop) (Jn : Int32 → Int32 → Prop) (x : Int32) {n : Nat} (h : Jn (x + sm_i (kd_seen al se 24 (nI n))) (nI (n + 1))) : ∀ d e : Nat, e + d = 24 → wY_kinds_15 post Jn x (nI n) q al se va wi wo ki ta so sy (d + 1) (sm_i (kd_seen al se e (nI n))) (nI e) := by
  intro d
  induction d with
  | zero =>
    intro e he
    have e' : e = 24 := he
    subst e'
    refine br_t (nI_le (a := 24) (b := 24) (by omega) (by decide)) ?_
    cases hs : kd_seen al se 24 (nI n)
    · rw [hs] at h
      exact br_t rfl (nm_r (nI_1 n) (by rw [show x + sm_i false = x from Int32.add_zero x] at h; exact h))
    · rw [hs] at h
      exact br_f aw_10 (nm_e (nm_r (nI_1 n) h))
  | succ d ih =>
    intro e he
    have hi : vp_in (nI e) 24 := vp_in_nI (by omega) (by decide)
    have hcl : (nI e).toNatClampNeg = e := aw_cl (by omega)
    have ih' := ih (e + 1) (by omega)
    have es : kd_seen al se (e + 1) (nI n) = (kd_seen al se e (nI n) || (decide (¬ al e = 0) && decide (se e = nI n))) := rfl
    rw [es] at ih'
    refine br_f (nI_ge (b := 24) (by omega) (by decide)) ?_
    rw [hcl]
    cases hs : kd_seen al se e (nI n)
    · rw [hs] at ih'
      refine br_t rfl ⟨hi, ?_⟩
      by_cases z : al e = 0
      · rw [decide_eq_false (fun h => h z)] at ih'
        exact br_t z (nm_r (nI_1 e) ih')
      · rw [decide_eq_true z] at ih'
        refine br_f z ⟨hi, ?_⟩
        by_cases z2 : se e = nI n
        · rw [decide_eq_true z2] at ih'
          exact br_t z2 (nm_r (nI_1 e) ih')
        · rw [decide_eq_false z2] at ih'
          exact br_f z2 (nm_r (nI_1 e) ih')
    · rw [hs, Bool.true_or] at ih'
      exact br_f aw_10 (nm_r (nI_1 e) ih')
theorem kd_Y (q : Int32) (al se va wi wo ki ta so sy : Nat → Int32) (post : Int32 → Prop) (hp : post (nI (kd_K al se 24))) : ∀ d n : Nat, n + d = 64 → wY_kinds_4 post q al se va wi wo ki ta so sy (d + 1) (nI (kd_cn (fun i => kd_seen al se 24 (nI i)) n)) (nI n) := by
  intro d
  induction d with
  | zero =>
    intro n hn
    have e' : n = 64 := hn
    subst e'
    exact br_t (nI_le (a := 64) (b := 64) (by omega) (by decide)) hp
  | succ d ih =>
    intro n hn
    have ih' := ih (n + 1) (by omega)
    have es : kd_cn (fun i => kd_seen al se 24 (nI i)) (n + 1) = kd_cn (fun i => kd_seen al se 24 (nI i)) n + (if kd_seen al se 24 (nI n) then 1 else 0) := rfl
    have e2 : nI (kd_cn (fun i => kd_seen al se 24 (nI i)) n) + sm_i (kd_seen al se 24 (nI n)) = nI (kd_cn (fun i => kd_seen al se 24 (nI i)) (n + 1)) := by
      rw [es]
      cases kd_seen al se 24 (nI n)
      · exact Int32.add_zero _
      · exact nI_1 _
    rw [← e2] at ih'
    exact br_f (nI_ge (b := 64) (by omega) (by decide)) ⟨25, kd_in q al se va wi wo ki ta so sy post _ _ ih' 24 0 rfl⟩
theorem i_vc_kinds {k : Nat} {u : SX} {v : SY} (I : i_Rel k u v) (hk : k + 4 ≤ 2048) : wpX_kinds (fun r => wpY_kinds (fun r' => r' = r ∧ i_Rel (k + 4) u v) v) u := by
  have J := i_up I
  obtain ⟨m, al, se, va, wi, wo, ki, ta, so, st, sy, rfl, rfl, R⟩ := I
  unfold wpX_kinds wpY_kinds
  dsimp only
  have e0 : kd_K al se 0 = 0 := by
    have : ∀ n, kd_cn (fun i => kd_seen al se 0 (nI i)) n = 0 := by
      intro n
      induction n with
      | zero => rfl
      | succ n ih => show kd_cn _ n + 0 = 0; rw [ih]
    exact this 64
  have hX := kd_X (nI m) al se va wi wo ki ta so st R.2.1 (fun r => ∃ n4 : Nat, wY_kinds_4 (fun r' => r' = r ∧ i_Rel (k + 4) (nI m, al, se, va, wi, wo, ki, ta, so, st) (nI m, al, se, va, wi, wo, ki, ta, so, sy)) (nI m) al se va wi wo ki ta so sy n4 0 0) ⟨65, kd_Y (nI m) al se va wi wo ki ta so sy _ ⟨rfl, J⟩ 64 0 rfl⟩ 24 0 rfl
  rw [e0] at hX
  exact ⟨25, hX⟩
