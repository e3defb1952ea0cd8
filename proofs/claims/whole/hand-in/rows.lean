section
def bt (x : Int32) (i : Nat) : Bool := x.toBitVec.getLsbD i
theorem b_ext {x y : Int32} (h : ∀ i, i < 32 → bt x i = bt y i) : x = y := Int32.toBitVec_inj.mp (BitVec.eq_of_getLsbD_eq (fun i hi => h i hi))
theorem b_or (x y : Int32) (i : Nat) : bt (x ||| y) i = (bt x i || bt y i) := by unfold bt; rw [Int32.toBitVec_or, BitVec.getLsbD_or]
theorem b_and (x y : Int32) (i : Nat) : bt (x &&& y) i = (bt x i && bt y i) := by unfold bt; rw [Int32.toBitVec_and, BitVec.getLsbD_and]
theorem b_xor (x y : Int32) (i : Nat) : bt (x ^^^ y) i = (bt x i ^^ bt y i) := by unfold bt; rw [Int32.toBitVec_xor, BitVec.getLsbD_xor]
theorem b_big {x : Int32} {i : Nat} (h : 32 ≤ i) : bt x i = false := BitVec.getLsbD_of_ge _ _ h
theorem b_m1 : ∀ i, i < 32 → bt (-1) i = true := by decide +kernel
theorem b_0 (i : Nat) : bt 0 i = false := BitVec.getLsbD_zero
theorem s_l : ∀ n, n < 32 → ((nI n &&& 31).toBitVec.smod 32).toNat = n := by decide +kernel
theorem b_shl (n : Nat) (hn : n < 32) (x : Int32) {i : Nat} (hi : i < 32) : bt (x <<< (nI n &&& 31)) i = (decide (n ≤ i) && bt x (i - n)) := by
  unfold bt
  rw [Int32.toBitVec_shiftLeft]
  show (x.toBitVec <<< ((nI n &&& 31).toBitVec.smod 32).toNat).getLsbD i = _
  rw [s_l n hn, BitVec.getLsbD_shiftLeft]
  rcases Nat.lt_or_ge i n with h | h
  · simp [h, Nat.not_le.mpr h]
  · simp [hi, h, Nat.not_lt.mpr h]
theorem b_sshr (n : Nat) (hn : n < 32) (x : Int32) {i : Nat} (hi : i < 32) : bt (x >>> (nI n &&& 31)) i = if n + i < 32 then bt x (n + i) else bt x 31 := by
  unfold bt
  rw [Int32.toBitVec_shiftRight]
  show (x.toBitVec.sshiftRight ((nI n &&& 31).toBitVec.smod 32).toNat).getLsbD i = _
  rw [s_l n hn, BitVec.getLsbD_sshiftRight, BitVec.msb_eq_getLsbD_last]
  simp [hi]
theorem pk_us {f : Nat → Int32} {k : Nat} {x : Int32} : upd f k x k = x := if_pos rfl
theorem pk_un {f : Nat → Int32} {k j : Nat} {x : Int32} (h : j ≠ k) : upd f k x j = f j := if_neg h
theorem pk_sub {a b : Nat} (h : b ≤ a) : nI a - nI b = nI (a - b) := by
  obtain ⟨c, rfl⟩ : ∃ c, a = c + b := ⟨a - b, by omega⟩
  rw [← nI_add, Int32.add_sub_cancel, Nat.add_sub_cancel]
theorem pk_m1 (n : Nat) : nI (n + 1) + (-1) = nI n := by
  rw [← nI_1, Int32.add_assoc, show (1 : Int32) + (-1) = 0 from rfl, Int32.add_zero]
theorem pk_mul (a b : Nat) : nI a * nI b = nI (a * b) := (Int32.ofNat_mul a b).symm
theorem pk_div {a d : Nat} (ha : a < 2 ^ 31) (h0 : 0 < d) (hd : d < 2 ^ 31) : nI a / nI d = nI (a / d) := by
  apply Int32.toInt_inj.mp
  rw [lg_idiv_nonneg (by rw [nI_toInt ha]; omega) (by rw [nI_toInt hd]; omega), nI_toInt ha, nI_toInt hd, nI_toInt (Nat.lt_of_le_of_lt (Nat.div_le_self a d) ha)]
  first | rfl | exact (Int.natCast_ediv _ _).symm
theorem pk_rem {a d : Nat} (ha : a < 2 ^ 31) (h0 : 0 < d) (hd : d < 2 ^ 31) : nI a - nI a / nI d * nI d = nI (a % d) := by
  rw [pk_div ha h0 hd, pk_mul, pk_sub (Nat.div_mul_le_self a d)]
  exact congrArg nI (by have := Nat.div_add_mod' a d; omega)
theorem pk_ix (x : Int32) {n : Nat} (hn : n < 2 ^ 31) : x < 0 ∨ nI n ≤ x ∨ ∃ j : Nat, j < n ∧ x = nI j := by
  by_cases h : x < 0
  · exact Or.inl h
  · obtain ⟨j, hj, rfl⟩ := nI_of h
    by_cases h2 : j < n
    · exact Or.inr (Or.inr ⟨j, h2, rfl⟩)
    · exact Or.inr (Or.inl (nI_le (by omega) hj))
theorem pk_le {x y : Int32} {A B : Prop} (a b : Nat) (f : a ≤ b → A) (g : b < a → B) (hx : x = nI a := by rfl) (hy : y = nI b := by rfl) (ha : a < 2 ^ 31 := by omega) (hb : b < 2 ^ 31 := by omega) : (x ≤ y → A) ∧ (¬ x ≤ y → B) := by
  subst hx hy
  rw [nI_leI ha hb]
  exact ⟨f, fun z => g (by omega)⟩
theorem pk_lt {x y : Int32} {A B : Prop} (a b : Nat) (f : a < b → A) (g : b ≤ a → B) (hx : x = nI a := by rfl) (hy : y = nI b := by rfl) (ha : a < 2 ^ 31 := by omega) (hb : b < 2 ^ 31 := by omega) : (x < y → A) ∧ (¬ x < y → B) := by
  subst hx hy
  rw [nI_ltI ha hb]
  exact ⟨f, fun z => g (by omega)⟩
theorem pk_eq {x y : Int32} {A B : Prop} (a b : Nat) (f : a = b → A) (g : a ≠ b → B) (hx : x = nI a := by rfl) (hy : y = nI b := by rfl) (ha : a < 2 ^ 31 := by omega) (hb : b < 2 ^ 31 := by omega) : (x = y → A) ∧ (¬ x = y → B) := by
  subst hx hy
  rw [nI_eq ha hb]
  exact ⟨f, g⟩
theorem pk_tn {n : Nat} (h : n < 2 ^ 32) : (nI n).toBitVec.toNat = n := Nat.mod_eq_of_lt h
theorem pk_and (x : Int32) {m : Int32} (k : Nat) (hm : m.toBitVec.toNat = 2 ^ k - 1) : x &&& m = nI (x.toBitVec.toNat % 2 ^ k) := by
  apply Int32.toBitVec_inj.mp
  apply BitVec.eq_of_toNat_eq
  rw [Int32.toBitVec_and, BitVec.toNat_and, hm, Nat.and_two_pow_sub_one_eq_mod]
  show _ = (BitVec.ofNat 32 _).toNat
  rw [BitVec.toNat_ofNat]
  exact (Nat.mod_eq_of_lt (Nat.lt_of_le_of_lt (Nat.mod_le _ _) x.toBitVec.isLt)).symm
theorem pk_andN {n : Nat} (h : n < 2 ^ 32) {m : Int32} (k : Nat) (hm : m.toBitVec.toNat = 2 ^ k - 1) : nI n &&& m = nI (n % 2 ^ k) := by
  rw [pk_and _ k hm, pk_tn h]
theorem pk_shr (a s : Int32) (k : Nat) (hs : (s.toBitVec.smod 32).toNat = k) : (a >>> s).toInt = a.toInt >>> k := by
  show (a.toBitVec.sshiftRight (s.toBitVec.smod 32).toNat).toInt = _
  rw [hs, BitVec.toInt_sshiftRight]
  rfl
theorem pk_shrN {n : Nat} (h : n < 2 ^ 31) (s : Int32) (k : Nat) (hs : (s.toBitVec.smod 32).toNat = k) : nI n >>> s = nI (n / 2 ^ k) := by
  apply Int32.toInt_inj.mp
  have h2 : n / 2 ^ k ≤ n := Nat.div_le_self _ _
  rw [pk_shr _ _ k hs, nI_toInt h, nI_toInt (by omega), Int.shiftRight_eq_div_pow]
  rfl
theorem aw_10 : ¬ (1 : Int32) = 0 := by decide
theorem aw_6 : nI 6 = 6 := by decide +kernel
theorem aw_b1 : ∀ i, i < 32 → bt 1 i = decide (i = 0) := by decide +kernel
theorem aw_hX (x : Int32) {c : Nat} (hc : c < 32) : (x &&& ((1 : Int32) <<< (nI c &&& 31))) = 0 ↔ bt x c = false := by
  constructor
  · intro h
    have e : bt (x &&& ((1 : Int32) <<< (nI c &&& 31))) c = bt 0 c := by rw [h]
    rw [b_and, b_shl c hc 1 hc, b_0, Nat.sub_self, aw_b1 0 (by omega)] at e
    simpa using e
  · intro h
    apply b_ext
    intro i hi
    rw [b_and, b_shl c hc 1 hi, b_0]
    by_cases e : i = c
    · rw [e, h, Bool.false_and]
    · by_cases l : c ≤ i
      · rw [aw_b1 (i - c) (by omega), decide_eq_false (by omega : ¬ i - c = 0), Bool.and_false, Bool.and_false]
      · rw [decide_eq_false l, Bool.false_and, Bool.and_false]
theorem aw_hY (x : Int32) {c : Nat} (hc : c < 32) : ((x >>> (nI c &&& 31)) &&& 1) = if bt x c then 1 else 0 := by
  apply b_ext
  intro i hi
  rw [b_and, b_sshr c hc x hi, aw_b1 i hi]
  by_cases e : i = 0
  · subst e
    rw [Nat.add_zero, if_pos hc]
    cases bt x c <;> decide
  · rw [decide_eq_false e, Bool.and_false]
    cases bt x c
    · exact (b_0 i).symm
    · show false = bt 1 i
      rw [aw_b1 i hi, decide_eq_false e]
theorem aw_or : ∀ n, n < 64 → ∀ c, c < 6 → (nI n ||| ((1 : Int32) <<< (nI c &&& 31))) = nI (n ||| 2 ^ c) ∧ (n ||| 2 ^ c) < 64 := by decide +kernel
theorem aw_no : ∀ n, n < 64 → ∀ c, c < 6 → (nI n &&& (((1 : Int32) <<< (nI c &&& 31)) ^^^ (-1))) = nI (n &&& (63 - 2 ^ c)) ∧ (n &&& (63 - 2 ^ c)) < 64 := by decide +kernel
theorem aw_iX (j c : Nat) : (nI j * 6) + nI c = nI (6 * j + c) := by
  rw [← aw_6, pk_mul, nI_add, Nat.mul_comm]
theorem aw_iY (j c : Nat) : (6 * nI j) + nI c = nI (6 * j + c) := by
  rw [← aw_6, pk_mul, nI_add]
theorem aw_vX {j c : Nat} (hj : j < 24) (hc : c < 6) : ((nI j * 6) + nI c).toNatClampNeg = 6 * j + c := by
  rw [aw_iX, nI_clamp (by omega)]
theorem aw_vY {j c : Nat} (hj : j < 24) (hc : c < 6) : ((6 * nI j) + nI c).toNatClampNeg = 6 * j + c := by
  rw [aw_iY, nI_clamp (by omega)]
theorem aw_nX {j c : Nat} (hj : j < 24) (hc : c < 6) : vp_in ((nI j * 6) + nI c) 144 := by
  rw [aw_iX]; exact vp_in_nI (by omega) (by decide)
theorem aw_nY {j c : Nat} (hj : j < 24) (hc : c < 6) : vp_in ((6 * nI j) + nI c) 144 := by
  rw [aw_iY]; exact vp_in_nI (by omega) (by decide)
theorem aw_cl {j : Nat} (hj : j < 144) : (nI j).toNatClampNeg = j := nI_clamp (by omega)
theorem aw_uu (f : Nat → Int32) (k : Nat) (x y : Int32) : upd (upd f k x) k y = upd f k y := by
  funext i
  unfold upd
  by_cases h : i = k
  · rw [if_pos h, if_pos h]
  · rw [if_neg h, if_neg h, if_neg h]
theorem aw_us (f : Nat → Int32) (k : Nat) : upd f k (f k) = f := by
  funext i
  unfold upd
  by_cases h : i = k
  · rw [if_pos h, h]
  · rw [if_neg h]
end
section
theorem sm_isSet (v : SY) (p : Int32) : ∃ r : Int32, (r = 0 ∨ (r = 1 ∧ ∃ j : Nat, j < 64 ∧ p = nI j)) ∧ (∀ post : Int32 → Prop, post r → wpX_isSet post p) ∧ (∀ post : Int32 → Prop, post r → wpY_isSet post v p) := by
  obtain ⟨q, al, se, va, wi, wo, ki, ta, so, sy⟩ := v
  rcases pk_ix p (n := 64) (by decide) with h | h | ⟨j, hj, rfl⟩
  · exact ⟨0, Or.inl rfl, fun _ hp => br_t h hp, fun _ hp => br_t h hp⟩
  · have h0 : ¬ p < 0 := Int32.not_lt.mpr (Int32.le_trans (nI_pos' (by decide)) h)
    obtain ⟨j, hj, rfl⟩ := nI_of h0
    rw [nI_leI (by decide) hj] at h
    exact ⟨0, Or.inl rfl, fun _ hp => br_f h0 (br_t (nI_le (a := 64) h hj) hp), fun _ hp => br_f h0 (br_t (nI_lt (a := 63) h hj) hp)⟩
  · have h0 : ¬ nI j < 0 := nI_pos (by omega)
    exact ⟨1, Or.inr ⟨rfl, j, hj, rfl⟩, fun _ hp => br_f h0 (br_f (nI_ge (b := 64) hj (by decide)) hp), fun _ hp => br_f h0 (br_f (nI_nlt (a := 63) (by omega) (by decide)) hp)⟩
theorem sm_isComp (v : SY) (p : Int32) : ∃ r : Int32, (r = 0 ∨ (r = 1 ∧ ∃ j : Nat, j < 6 ∧ p = nI j)) ∧ (∀ post : Int32 → Prop, post r → wpX_isComponent post p) ∧ (∀ post : Int32 → Prop, post r → wpY_isComponent post v p) := by
  obtain ⟨q, al, se, va, wi, wo, ki, ta, so, sy⟩ := v
  rcases pk_ix p (n := 6) (by decide) with h | h | ⟨j, hj, rfl⟩
  · exact ⟨0, Or.inl rfl, fun _ hp => br_t h hp, fun _ hp => br_t h hp⟩
  · have h0 : ¬ p < 0 := Int32.not_lt.mpr (Int32.le_trans (nI_pos' (by decide)) h)
    obtain ⟨j, hj, rfl⟩ := nI_of h0
    rw [nI_leI (by decide) hj] at h
    exact ⟨0, Or.inl rfl, fun _ hp => br_f h0 (br_t (nI_le (a := 6) h hj) hp), fun _ hp => br_f h0 (br_t (nI_lt (a := 5) h hj) hp)⟩
  · have h0 : ¬ nI j < 0 := nI_pos (by omega)
    exact ⟨1, Or.inr ⟨rfl, j, hj, rfl⟩, fun _ hp => br_f h0 (br_f (nI_ge (b := 6) hj (by decide)) hp), fun _ hp => br_f h0 (br_f (nI_nlt (a := 5) (by omega) (by decide)) hp)⟩
theorem sm_lives (q : Int32) (al se va wi wo ki ta so st sy : Nat → Int32) (p : Int32) : ∃ r : Int32, (r = 0 ∨ (r = 1 ∧ ∃ j : Nat, j < 24 ∧ p = nI j ∧ ¬ al j = 0)) ∧ (∀ post : Int32 → Prop, post r → wpX_lives post (q, al, se, va, wi, wo, ki, ta, so, st) p) ∧ (∀ post : Int32 → Prop, post r → wpY_isAlive post (q, al, se, va, wi, wo, ki, ta, so, sy) p) := by
  rcases pk_ix p (n := 24) (by decide) with h | h | ⟨j, hj, rfl⟩
  · exact ⟨0, Or.inl rfl, fun _ hp => br_t h hp, fun _ hp => br_t h hp⟩
  · have h0 : ¬ p < 0 := Int32.not_lt.mpr (Int32.le_trans (nI_pos' (by decide)) h)
    obtain ⟨j, hj, rfl⟩ := nI_of h0
    rw [nI_leI (by decide) hj] at h
    exact ⟨0, Or.inl rfl, fun _ hp => br_f h0 (br_t (nI_le (a := 24) h hj) hp), fun _ hp => br_f h0 (br_t (nI_lt (a := 23) h hj) hp)⟩
  · have h0 : ¬ nI j < 0 := nI_pos (by omega)
    have hi : vp_in (nI j) 24 := vp_in_nI hj (by decide)
    have hc : (nI j).toNatClampNeg = j := aw_cl (by omega)
    have h1 : ¬ (24 : Int32) ≤ nI j := nI_ge (b := 24) hj (by decide)
    have h2 : ¬ (23 : Int32) < nI j := nI_nlt (a := 23) (by omega) (by decide)
    by_cases z : al (nI j).toNatClampNeg = 0
    · exact ⟨0, Or.inl rfl, fun _ hp => br_f h0 (br_f h1 ⟨hi, br_t z hp⟩), fun _ hp => br_f h0 (br_f h2 ⟨hi, br_t z hp⟩)⟩
    · exact ⟨1, Or.inr ⟨rfl, j, hj, rfl, by rw [hc] at z; exact z⟩, fun _ hp => br_f h0 (br_f h1 ⟨hi, br_f z hp⟩), fun _ hp => br_f h0 (br_f h2 ⟨hi, br_f z hp⟩)⟩
def sm_i (b : Bool) : Int32 := if b then 1 else 0
theorem sm_i0 (b : Bool) : sm_i b = 0 ↔ b = false := by cases b <;> decide
theorem sm_cX {x : Int32} {c : Nat} (hc : c < 32) {post : Int32 → Prop} (h : post (sm_i (bt x c))) : wpX_contains post x (nI c) := by
  have hX := aw_hX x hc
  unfold wpX_contains
  cases hb : bt x c
  · rw [hb] at h
    exact br_t (hX.mpr hb) h
  · rw [hb] at h
    exact br_f (fun z => by have e := hX.mp z; rw [hb] at e; exact Bool.noConfusion e) h
theorem sm_cY (v : SY) {x : Int32} {c : Nat} (hc : c < 32) {post : Int32 → Prop} (h : post (sm_i (bt x c))) : wpY_has post v x (nI c) := by
  obtain ⟨q, al, se, va, wi, wo, ki, ta, so, sy⟩ := v
  have hY := aw_hY x hc
  unfold wpY_has
  dsimp only
  cases hb : bt x c
  · rw [hb] at h hY
    exact br_f (by rw [hY]; decide) h
  · rw [hb] at h hY
    exact br_t (by rw [hY]; decide) h
theorem sm_cV (x : Int32) {c : Nat} (hc : c < 32) : ((x >>> (nI c &&& 31)) &&& 1) = sm_i (bt x c) := aw_hY x hc
theorem sm_fits (q : Int32) (al se va wi wo ki ta so st sy : Nat → Int32) (p w : Int32) {j : Nat} (hj : j < 24) : ∃ r : Int32, (r = 0 ↔ (al j = 0 ∨ ¬ (se j &&& p) = p ∨ ¬ (se j &&& w) = 0)) ∧ (∀ post : Int32 → Prop, post r → wpX_fits post (q, al, se, va, wi, wo, ki, ta, so, st) (nI j) p w) ∧ (∀ post : Int32 → Prop, post r → wpY_fits post (q, al, se, va, wi, wo, ki, ta, so, sy) (nI j) p w) := by
  have h0 : ¬ nI j < 0 := nI_pos (by omega)
  have hi : vp_in (nI j) 24 := vp_in_nI hj (by decide)
  have hc : (nI j).toNatClampNeg = j := aw_cl (by omega)
  have h1 : ¬ (24 : Int32) ≤ nI j := nI_ge (b := 24) hj (by decide)
  unfold wpX_fits wpY_fits wpX_lives
  dsimp only
  rw [hc]
  by_cases z : al j = 0
  · refine ⟨0, ⟨fun _ => Or.inl z, fun _ => rfl⟩, fun post hp => ?_, fun post hp => ?_⟩
    · exact br_f h0 (br_f h1 ⟨hi, br_t z (br_t rfl hp)⟩)
    · exact ⟨hi, br_t z hp⟩
  · by_cases z1 : (se j &&& p) = p
    · by_cases z2 : (se j &&& w) = 0
      · refine ⟨1, ⟨fun h => absurd h aw_10, fun h => ?_⟩, fun post hp => ?_, fun post hp => ?_⟩
        · rcases h with h | h | h
          · exact absurd h z
          · exact absurd z1 h
          · exact absurd z2 h
        · exact br_f h0 (br_f h1 ⟨hi, br_f z (br_f aw_10 ⟨hi, br_t z1 ⟨hi, br_t z2 hp⟩⟩)⟩)
        · exact ⟨hi, br_f z ⟨hi, br_t z1 ⟨hi, br_t z2 hp⟩⟩⟩
      · refine ⟨0, ⟨fun _ => Or.inr (Or.inr z2), fun _ => rfl⟩, fun post hp => ?_, fun post hp => ?_⟩
        · exact br_f h0 (br_f h1 ⟨hi, br_f z (br_f aw_10 ⟨hi, br_t z1 ⟨hi, br_f z2 hp⟩⟩)⟩)
        · exact ⟨hi, br_f z ⟨hi, br_t z1 ⟨hi, br_f z2 hp⟩⟩⟩
    · refine ⟨0, ⟨fun _ => Or.inr (Or.inl z1), fun _ => rfl⟩, fun post hp => ?_, fun post hp => ?_⟩
      · exact br_f h0 (br_f h1 ⟨hi, br_f z (br_f aw_10 ⟨hi, br_f z1 hp⟩)⟩)
      · exact ⟨hi, br_f z ⟨hi, br_f z1 hp⟩⟩
/-- the stage that system s gets from the first j systems -/
def sm_sg (ta so st : Nat → Int32) (s : Nat) : Nat → Int32
  | 0 => 0
  | j + 1 => if (ta s = ta j ∨ ta s = so j ∨ ta j = so s) ∧ ¬ st j < sm_sg ta so st s j then st j + 1 else sm_sg ta so st s j
def sm_R (m : Nat) (se ta so st : Nat → Int32) : Prop := m ≤ 8 ∧ (∀ e, ∃ n, n < 64 ∧ se e = nI n) ∧ (∀ s, ∃ n, n < 6 ∧ ta s = nI n) ∧ (∀ s, ∃ n, n < 6 ∧ so s = nI n) ∧ ∀ s, s < m → st s = sm_sg ta so st s s
def i_Rel (_ : Nat) (u : SX) (v : SY) : Prop := ∃ (m : Nat) (al se va wi wo ki ta so st sy : Nat → Int32), u = (nI m, al, se, va, wi, wo, ki, ta, so, st) ∧ v = (nI m, al, se, va, wi, wo, ki, ta, so, sy) ∧ sm_R m se ta so st
theorem i_up {k : Nat} {u : SX} {v : SY} (h : i_Rel k u v) : i_Rel (k + 4) u v := h
theorem sm_mk (k m : Nat) (al se va wi wo ki ta so st sy : Nat → Int32) (R : sm_R m se ta so st) : i_Rel k (nI m, al, se, va, wi, wo, ki, ta, so, st) (nI m, al, se, va, wi, wo, ki, ta, so, sy) := ⟨m, al, se, va, wi, wo, ki, ta, so, st, sy, rfl, rfl, R⟩
theorem i_vc0 : wpX_init (fun u => wpY_init (fun v => i_Rel 0 u v)) := by
  refine sm_mk 0 0 _ _ _ _ _ _ _ _ _ _ ⟨by omega, fun _ => ⟨0, by omega, rfl⟩, fun _ => ⟨0, by omega, rfl⟩, fun _ => ⟨0, by omega, rfl⟩, fun s hs => absurd hs (by omega)⟩
end
section
theorem rd_count (q : Int32) (al se va wi wo ki ta so st sy : Nat → Int32) (p w : Int32) : ∀ d j : Nat, j + d = 24 → ∀ x : Int32, ∃ r : Int32, (∀ post : Int32 → Prop, post r → wX_count_21 post p w q al se va wi wo ki ta so st (d + 1) x (nI j)) ∧ (∀ post : Int32 → Prop, post r → wY_count_23 post p w q al se va wi wo ki ta so sy (d + 1) x (nI j)) := by
  intro d
  induction d with
  | zero =>
    intro j hj x
    have h : (24 : Int32) ≤ nI j := nI_le (a := 24) (by omega) (by omega)
    exact ⟨x, fun _ hp => br_t h hp, fun _ hp => br_t h hp⟩
  | succ d ih =>
    intro j hj x
    have h : ¬ (24 : Int32) ≤ nI j := nI_ge (b := 24) (by omega) (by decide)
    obtain ⟨r, _, hX, hY⟩ := sm_fits q al se va wi wo ki ta so st sy p w (j := j) (by omega)
    by_cases z : r = 0
    · obtain ⟨r', hX', hY'⟩ := ih (j + 1) (by omega) x
      exact ⟨r', fun post hp => br_f h (hX _ (br_t z (nm_r (nI_1 j) (hX' post hp)))), fun post hp => br_f h (hY _ (br_t z (nm_r (nI_1 j) (hY' post hp))))⟩
    · obtain ⟨r', hX', hY'⟩ := ih (j + 1) (by omega) (x + 1)
      exact ⟨r', fun post hp => br_f h (hX _ (br_f z (nm_e (nm_r (nI_1 j) (hX' post hp))))), fun post hp => br_f h (hY _ (br_f z (nm_e (nm_r (nI_1 j) (hY' post hp)))))⟩
theorem i_vc_count {k : Nat} {u : SX} {v : SY} (I : i_Rel k u v) (hk : k + 4 ≤ 2048) (v1 : Int32) (v2 : Int32) : wpX_count (fun r => wpY_count (fun r' => r' = r ∧ i_Rel (k + 4) u v) v v1 v2) u v1 v2 := by
  have J := i_up I
  obtain ⟨m, al, se, va, wi, wo, ki, ta, so, st, sy, rfl, rfl, R⟩ := I
  unfold wpX_count wpY_count
  dsimp only
  obtain ⟨r1, h1, hX1, hY1⟩ := sm_isSet (nI m, al, se, va, wi, wo, ki, ta, so, sy) v1
  obtain ⟨r2, h2, hX2, hY2⟩ := sm_isSet (nI m, al, se, va, wi, wo, ki, ta, so, sy) v2
  refine hX1 _ ?_
  rcases h1 with rfl | ⟨rfl, a, ha, rfl⟩
  · exact br_t rfl (hY1 _ (br_t rfl ⟨rfl, J⟩))
  · refine br_f aw_10 (hX2 _ ?_)
    rcases h2 with rfl | ⟨rfl, b, hb, rfl⟩
    · exact br_t rfl (hY1 _ (br_f aw_10 (hY2 _ (br_t rfl ⟨rfl, J⟩))))
    · obtain ⟨r, hX, hY⟩ := rd_count (nI m) al se va wi wo ki ta so st sy (nI a) (nI b) 24 0 rfl 0
      exact br_f aw_10 ⟨_, hX _ (hY1 _ (br_f aw_10 (hY2 _ (br_f aw_10 ⟨_, hY _ ⟨rfl, J⟩⟩))))⟩
theorem rd_a0 (x : Int32) : (x &&& 0) = 0 := by
  apply b_ext
  intro i _
  rw [b_and, b_0, Bool.and_false]
theorem rd_living (q : Int32) (al se va wi wo ki ta so st sy : Nat → Int32) : ∀ d j : Nat, j + d = 24 → ∀ x : Int32, ∃ r : Int32, (∀ post : Int32 → Prop, post r → wX_living_4 post q al se va wi wo ki ta so st (d + 1) x (nI j)) ∧ (∀ post : Int32 → Prop, post r → wY_count_23 post 0 0 q al se va wi wo ki ta so sy (d + 1) x (nI j)) := by
  intro d
  induction d with
  | zero =>
    intro j hj x
    have h : (24 : Int32) ≤ nI j := nI_le (a := 24) (by omega) (by omega)
    exact ⟨x, fun _ hp => br_t h hp, fun _ hp => br_t h hp⟩
  | succ d ih =>
    intro j hj x
    have h : ¬ (24 : Int32) ≤ nI j := nI_ge (b := 24) (by omega) (by decide)
    have hi : vp_in (nI j) 24 := vp_in_nI (by omega) (by decide)
    have hc : (nI j).toNatClampNeg = j := aw_cl (by omega)
    obtain ⟨r, hr, hX, hY⟩ := sm_fits q al se va wi wo ki ta so st sy 0 0 (j := j) (by omega)
    have hz : r = 0 ↔ al j = 0 := by
      rw [hr]
      constructor
      · rintro (e | e | e)
        · exact e
        · exact absurd (rd_a0 _) e
        · exact absurd (rd_a0 _) e
      · exact Or.inl
    by_cases z : r = 0
    · obtain ⟨r', hX', hY'⟩ := ih (j + 1) (by omega) x
      exact ⟨r', fun post hp => br_f h ⟨hi, br_t (by rw [hc]; exact hz.mp z) (nm_r (nI_1 j) (hX' post hp))⟩, fun post hp => br_f h (hY _ (br_t z (nm_r (nI_1 j) (hY' post hp))))⟩
    · obtain ⟨r', hX', hY'⟩ := ih (j + 1) (by omega) (x + 1)
      exact ⟨r', fun post hp => br_f h ⟨hi, br_f (by rw [hc]; exact fun e => z (hz.mpr e)) (nm_e (nm_r (nI_1 j) (hX' post hp)))⟩, fun post hp => br_f h (hY _ (br_f z (nm_e (nm_r (nI_1 j) (hY' post hp)))))⟩
theorem i_vc_living {k : Nat} {u : SX} {v : SY} (I : i_Rel k u v) (hk : k + 4 ≤ 2048) : wpX_living (fun r => wpY_living (fun r' => r' = r ∧ i_Rel (k + 4) u v) v) u := by
  have J := i_up I
  obtain ⟨m, al, se, va, wi, wo, ki, ta, so, st, sy, rfl, rfl, R⟩ := I
  unfold wpX_living wpY_living wpY_count
  dsimp only
  have hs : ∀ post : Int32 → Prop, post 1 → wpY_isSet post (nI m, al, se, va, wi, wo, ki, ta, so, sy) 0 := fun post hp => br_f (by decide) (br_f (by decide) hp)
  obtain ⟨r, hX, hY⟩ := rd_living (nI m) al se va wi wo ki ta so st sy 24 0 rfl 0
  exact ⟨_, hX _ (hs _ (br_f aw_10 (hs _ (br_f aw_10 ⟨_, hY _ ⟨rfl, J⟩⟩))))⟩
/-- next: both from the same j on -/
theorem rd_next (q : Int32) (al se va wi wo ki ta so st sy : Nat → Int32) (p w f : Int32) : ∀ d j : Nat, j + d = 24 → (∀ i : Nat, j ≤ i → i < 24 → ¬ nI i < f) → ∃ r : Int32, (∀ post : Int32 → Prop, post r → wX_next_31 post p w q al se va wi wo ki ta so st (d + 1) (nI j)) ∧ (∀ post : Int32 → Prop, post r → wY_next_21 post p w f q al se va wi wo ki ta so sy (d + 1) (nI j)) := by
  intro d
  induction d with
  | zero =>
    intro j hj _
    have h : (24 : Int32) ≤ nI j := nI_le (a := 24) (by omega) (by omega)
    exact ⟨-4, fun _ hp => br_t h hp, fun _ hp => br_t h hp⟩
  | succ d ih =>
    intro j hj hf
    have h : ¬ (24 : Int32) ≤ nI j := nI_ge (b := 24) (by omega) (by decide)
    have hg : ¬ nI j < f := hf j (by omega) (by omega)
    obtain ⟨r, _, hX, hY⟩ := sm_fits q al se va wi wo ki ta so st sy p w (j := j) (by omega)
    by_cases z : r = 0
    · obtain ⟨r', hX', hY'⟩ := ih (j + 1) (by omega) (fun i h1 h2 => hf i (by omega) h2)
      exact ⟨r', fun post hp => br_f h (hX _ (br_t z (nm_r (nI_1 j) (hX' post hp)))), fun post hp => br_f h (br_f hg (hY _ (br_t z (nm_r (nI_1 j) (hY' post hp)))))⟩
    · exact ⟨nI j, fun post hp => br_f h (hX _ (br_f z hp)), fun post hp => br_f h (br_f hg (hY _ (br_f z hp)))⟩
theorem rd_skip (q : Int32) (al se va wi wo ki ta so sy : Nat → Int32) (p w : Int32) (f n : Nat) (hf : f < 2 ^ 31) (post : Int32 → Prop) : ∀ d j : Nat, j + d ≤ 24 → j + d ≤ f → wY_next_21 post p w (nI f) q al se va wi wo ki ta so sy n (nI (j + d)) → wY_next_21 post p w (nI f) q al se va wi wo ki ta so sy (n + d) (nI j) := by
  intro d
  induction d with
  | zero => intro j _ _ h; exact h
  | succ d ih =>
    intro j h1 h2 h
    have e : j + (d + 1) = (j + 1) + d := by omega
    rw [e] at h
    exact br_f (nI_ge (b := 24) (by omega) (by decide)) (br_t (nI_lt (by omega) hf) (nm_r (nI_1 j) (ih (j + 1) (by omega) (by omega) h)))
theorem i_vc_next {k : Nat} {u : SX} {v : SY} (I : i_Rel k u v) (hk : k + 4 ≤ 2048) (v1 : Int32) (v2 : Int32) (v3 : Int32) : wpX_next (fun r => wpY_next (fun r' => r' = r ∧ i_Rel (k + 4) u v) v v1 v2 v3) u v1 v2 v3 := by
  have J := i_up I
  obtain ⟨m, al, se, va, wi, wo, ki, ta, so, st, sy, rfl, rfl, R⟩ := I
  unfold wpX_next wpY_next
  dsimp only
  obtain ⟨r1, h1, hX1, hY1⟩ := sm_isSet (nI m, al, se, va, wi, wo, ki, ta, so, sy) v1
  obtain ⟨r2, h2, hX2, hY2⟩ := sm_isSet (nI m, al, se, va, wi, wo, ki, ta, so, sy) v2
  refine hX1 _ ?_
  rcases h1 with rfl | ⟨rfl, a, ha, rfl⟩
  · exact br_t rfl (hY1 _ (br_t rfl ⟨rfl, J⟩))
  · refine br_f aw_10 (hX2 _ ?_)
    rcases h2 with rfl | ⟨rfl, b, hb, rfl⟩
    · exact br_t rfl (hY1 _ (br_f aw_10 (hY2 _ (br_t rfl ⟨rfl, J⟩))))
    · refine br_f aw_10 ?_
      by_cases h3 : v3 < 0
      · obtain ⟨r, hX, hY⟩ := rd_next (nI m) al se va wi wo ki ta so st sy (nI a) (nI b) v3 24 0 rfl (fun i _ hi z => by
          have := Int32.lt_trans z h3
          exact nI_pos (by omega) this)
        exact br_f (Int32.not_le.mpr h3) ⟨_, hX _ (hY1 _ (br_f aw_10 (hY2 _ (br_f aw_10 ⟨_, hY _ ⟨rfl, J⟩⟩))))⟩
      · refine br_t (Int32.not_lt.mp h3) ?_
        obtain ⟨f, hf, rfl⟩ := nI_of h3
        by_cases h4 : f < 24
        · obtain ⟨r, hX, hY⟩ := rd_next (nI m) al se va wi wo ki ta so st sy (nI a) (nI b) (nI f) (24 - f) f (by omega) (fun i h1 h2 => nI_nlt h1 (by omega))
          refine ⟨_, hX _ (hY1 _ (br_f aw_10 (hY2 _ (br_f aw_10 ⟨_, rd_skip (nI m) al se va wi wo ki ta so sy (nI a) (nI b) f (24 - f + 1) hf _ f 0 (by omega) (by omega) ?_⟩))))⟩
          rw [Nat.zero_add]
          exact hY _ ⟨rfl, J⟩
        · refine ⟨1, br_t (nI_le (a := 24) (by omega) hf) (hY1 _ (br_f aw_10 (hY2 _ (br_f aw_10 ⟨_, rd_skip (nI m) al se va wi wo ki ta so sy (nI a) (nI b) f 1 hf _ 24 0 (by omega) (by omega) ?_⟩))))⟩
          exact br_t (nI_le (a := 24) (b := 24) (by omega) (by decide)) ⟨rfl, J⟩
theorem rd_sum (q : Int32) (al se va wi wo ki ta so st sy : Nat → Int32) (p w : Int32) {c : Nat} (hc6 : c < 6) : ∀ d j : Nat, j + d = 24 → ∀ x : Int32, ∃ r : Int32, (∀ post : Int32 → Prop, post r → wX_sum_29 post p w (nI c) q al se va wi wo ki ta so st (d + 1) x (nI j)) ∧ (∀ post : Int32 → Prop, post r → wY_sum_32 post p w (nI c) q al se va wi wo ki ta so sy (d + 1) x (nI j)) := by
  intro d
  induction d with
  | zero =>
    intro j hj x
    have h : (24 : Int32) ≤ nI j := nI_le (a := 24) (by omega) (by omega)
    exact ⟨x, fun _ hp => br_t h hp, fun _ hp => br_t h hp⟩
  | succ d ih =>
    intro j hj x
    have h : ¬ (24 : Int32) ≤ nI j := nI_ge (b := 24) (by omega) (by decide)
    have hi : vp_in (nI j) 24 := vp_in_nI (by omega) (by decide)
    obtain ⟨r, _, hX, hY⟩ := sm_fits q al se va wi wo ki ta so st sy p w (j := j) (by omega)
    by_cases z : r = 0
    · obtain ⟨r', hX', hY'⟩ := ih (j + 1) (by omega) x
      exact ⟨r', fun post hp => br_f h (hX _ (br_t z (nm_r (nI_1 j) (hX' post hp)))), fun post hp => br_f h (hY _ (br_t z (nm_r (nI_1 j) (hY' post hp))))⟩
    · by_cases zb : sm_i (bt (se (nI j).toNatClampNeg) c) = 0
      · obtain ⟨r', hX', hY'⟩ := ih (j + 1) (by omega) x
        exact ⟨r', fun post hp => br_f h (hX _ (br_f z ⟨hi, sm_cX (by omega) (br_t zb (nm_r (nI_1 j) (hX' post hp)))⟩)), fun post hp => br_f h (hY _ (br_f z ⟨hi, sm_cY _ (by omega) (br_t zb (nm_r (nI_1 j) (hY' post hp)))⟩))⟩
      · obtain ⟨r', hX', hY'⟩ := ih (j + 1) (by omega) (x + va (6 * j + c))
        exact ⟨r', fun post hp => br_f h (hX _ (br_f z ⟨hi, sm_cX (by omega) (br_f zb ⟨aw_nX (by omega) hc6, nm_r (by rw [aw_vX (by omega) hc6]) (nm_r (nI_1 j) (hX' post hp))⟩)⟩)), fun post hp => br_f h (hY _ (br_f z ⟨hi, sm_cY _ (by omega) (br_f zb ⟨aw_nY (by omega) hc6, nm_r (by rw [aw_vY (by omega) hc6]) (nm_r (nI_1 j) (hY' post hp))⟩)⟩))⟩
theorem i_vc_sum {k : Nat} {u : SX} {v : SY} (I : i_Rel k u v) (hk : k + 4 ≤ 2048) (v1 : Int32) (v2 : Int32) (v3 : Int32) : wpX_sum (fun r => wpY_sum (fun r' => r' = r ∧ i_Rel (k + 4) u v) v v1 v2 v3) u v1 v2 v3 := by
  have J := i_up I
  obtain ⟨m, al, se, va, wi, wo, ki, ta, so, st, sy, rfl, rfl, R⟩ := I
  unfold wpX_sum wpY_sum
  dsimp only
  obtain ⟨r1, h1, hX1, hY1⟩ := sm_isSet (nI m, al, se, va, wi, wo, ki, ta, so, sy) v1
  obtain ⟨r2, h2, hX2, hY2⟩ := sm_isSet (nI m, al, se, va, wi, wo, ki, ta, so, sy) v2
  obtain ⟨r3, h3, hX3, hY3⟩ := sm_isComp (nI m, al, se, va, wi, wo, ki, ta, so, sy) v3
  refine hX1 _ ?_
  rcases h1 with rfl | ⟨rfl, a, ha, rfl⟩
  · exact br_t rfl (hY1 _ (br_t rfl ⟨rfl, J⟩))
  · refine br_f aw_10 (hX2 _ ?_)
    rcases h2 with rfl | ⟨rfl, b, hb, rfl⟩
    · exact br_t rfl (hY1 _ (br_f aw_10 (hY2 _ (br_t rfl ⟨rfl, J⟩))))
    · refine br_f aw_10 (hX3 _ ?_)
      rcases h3 with rfl | ⟨rfl, c, hc, rfl⟩
      · exact br_t rfl (hY1 _ (br_f aw_10 (hY2 _ (br_f aw_10 (hY3 _ (br_t rfl ⟨rfl, J⟩))))))
      · obtain ⟨r, hX, hY⟩ := rd_sum (nI m) al se va wi wo ki ta so st sy (nI a) (nI b) hc 24 0 rfl 0
        exact br_f aw_10 ⟨_, hX _ (hY1 _ (br_f aw_10 (hY2 _ (br_f aw_10 (hY3 _ (br_f aw_10 ⟨_, hY _ ⟨rfl, J⟩⟩))))))⟩
theorem i_vc_parts {k : Nat} {u : SX} {v : SY} (I : i_Rel k u v) (hk : k + 4 ≤ 2048) (v1 : Int32) : wpX_parts (fun r => wpY_parts (fun r' => r' = r ∧ i_Rel (k + 4) u v) v v1) u v1 := by
  have J := i_up I
  obtain ⟨m, al, se, va, wi, wo, ki, ta, so, st, sy, rfl, rfl, R⟩ := I
  unfold wpX_parts wpY_parts
  dsimp only
  obtain ⟨r1, h1, hX1, hY1⟩ := sm_lives (nI m) al se va wi wo ki ta so st sy v1
  refine hX1 _ ?_
  rcases h1 with rfl | ⟨rfl, j, hj, rfl, hl⟩
  · exact br_t rfl (hY1 _ (br_t rfl ⟨rfl, J⟩))
  · have hi : vp_in (nI j) 24 := vp_in_nI hj (by decide)
    exact br_f aw_10 ⟨hi, hY1 _ (br_f aw_10 ⟨hi, rfl, J⟩)⟩
theorem i_vc_get {k : Nat} {u : SX} {v : SY} (I : i_Rel k u v) (hk : k + 4 ≤ 2048) (v1 : Int32) (v2 : Int32) : wpX_get (fun r => wpY_get (fun r' => r' = r ∧ i_Rel (k + 4) u v) v v1 v2) u v1 v2 := by
  have J := i_up I
  obtain ⟨m, al, se, va, wi, wo, ki, ta, so, st, sy, rfl, rfl, R⟩ := I
  unfold wpX_get wpY_get
  dsimp only
  obtain ⟨r1, h1, hX1, hY1⟩ := sm_lives (nI m) al se va wi wo ki ta so st sy v1
  obtain ⟨r2, h2, hX2, hY2⟩ := sm_isComp (nI m, al, se, va, wi, wo, ki, ta, so, sy) v2
  refine hX1 _ ?_
  rcases h1 with rfl | ⟨rfl, j, hj, rfl, hl⟩
  · exact br_t rfl (hY1 _ (br_t rfl ⟨rfl, J⟩))
  · have hi : vp_in (nI j) 24 := vp_in_nI hj (by decide)
    refine br_f aw_10 (hX2 _ ?_)
    rcases h2 with rfl | ⟨rfl, c, hc, rfl⟩
    · exact br_t rfl (hY1 _ (br_f aw_10 (hY2 _ (br_t rfl ⟨rfl, J⟩))))
    · refine br_f aw_10 ⟨hi, sm_cX (by omega) ?_⟩
      by_cases zb : sm_i (bt (se (nI j).toNatClampNeg) c) = 0
      · exact br_t zb (hY1 _ (br_f aw_10 (hY2 _ (br_f aw_10 ⟨hi, sm_cY _ (by omega) (br_t zb ⟨rfl, J⟩)⟩))))
      · exact br_f zb ⟨aw_nX hj hc, hY1 _ (br_f aw_10 (hY2 _ (br_f aw_10 ⟨hi, sm_cY _ (by omega) (br_f zb ⟨aw_nY hj hc, by rw [aw_vX hj hc, aw_vY hj hc], J⟩)⟩)))⟩
end
section
/-- the first c values of the entity whose values begin at b, filled with w -/
def wr_fl (va : Nat → Int32) (b : Nat) (w : Int32) : Nat → (Nat → Int32)
  | 0 => va
  | c + 1 => upd (wr_fl va b w c) (b + c) w
theorem wr_fX (q : Int32) (al se va wi wo ki ta so st : Nat → Int32) {j : Nat} (hj : j < 24) (w : Int32) (post : SX → Prop) (hp : post (q, al, se, wr_fl va (6 * j) w 6, wi, wo, ki, ta, so, st)) : ∀ d c : Nat, c + d = 6 → wX_bringToLife_17 post (nI j) w q (d + 1) (nI c) al se (wr_fl va (6 * j) w c) wi wo ki ta so st := by
  intro d
  induction d with
  | zero =>
    intro c hc
    have e : c = 6 := hc
    subst e
    exact br_t (nI_le (a := 6) (b := 6) (by omega) (by decide)) hp
  | succ d ih =>
    intro c hc
    exact br_f (nI_ge (b := 6) (by omega) (by decide)) ⟨aw_nX hj (by omega), nm_r (by rw [aw_vX hj (by omega)]; rfl) (nm_r (nI_1 c) (ih (c + 1) (by omega)))⟩
theorem wr_fY (q : Int32) (al se va wi wo ki ta so st : Nat → Int32) {j : Nat} (hj : j < 24) (w : Int32) (post : Int32 → SY → Prop) (hp : post (nI j) (q, al, se, wr_fl va (6 * j) w 6, wi, wo, ki, ta, so, st)) : ∀ d c : Nat, c + d = 6 → wY_spawn_44 post w (nI j) q (d + 1) (nI c) al se (wr_fl va (6 * j) w c) wi wo ki ta so st := by
  intro d
  induction d with
  | zero =>
    intro c hc
    have e : c = 6 := hc
    subst e
    exact br_t (nI_le (a := 6) (b := 6) (by omega) (by decide)) hp
  | succ d ih =>
    intro c hc
    exact br_f (nI_ge (b := 6) (by omega) (by decide)) ⟨aw_nY hj (by omega), nm_r (by rw [aw_vY hj (by omega)]; rfl) (nm_r (nI_1 c) (ih (c + 1) (by omega)))⟩
/-- spawn's loop: full on both sides, or the same entity on both sides -/
theorem wr_spawn (q : Int32) (al se va wi wo ki ta so st sy : Nat → Int32) (p w : Int32) : ∀ d j : Nat, j + d = 24 →
    ((∀ post : Int32 → SX → Prop, post (-2) (q, al, se, va, wi, wo, ki, ta, so, st) → wX_spawn_11 post p w q al se va wi wo ki ta so st (d + 1) (nI j)) ∧ (∀ post : Int32 → SY → Prop, post (-2) (q, al, se, va, wi, wo, ki, ta, so, sy) → wY_spawn_12 post p w q al se va wi wo ki ta so sy (d + 1) (nI j))) ∨
    ∃ i : Nat, i < 24 ∧ (∀ post : Int32 → SX → Prop, post (nI i) (q, upd al i (vp_nar .boolean 1), upd se i p, wr_fl va (6 * i) w 6, wi, wo, ki, ta, so, st) → wX_spawn_11 post p w q al se va wi wo ki ta so st (d + 1) (nI j)) ∧ (∀ post : Int32 → SY → Prop, post (nI i) (q, upd al i (vp_nar .boolean 1), upd se i p, wr_fl va (6 * i) w 6, wi, wo, ki, ta, so, sy) → wY_spawn_12 post p w q al se va wi wo ki ta so sy (d + 1) (nI j)) := by
  intro d
  induction d with
  | zero =>
    intro j hj
    have h : (24 : Int32) ≤ nI j := nI_le (a := 24) (by omega) (by omega)
    exact Or.inl ⟨fun _ hp => br_t h hp, fun _ hp => br_t h hp⟩
  | succ d ih =>
    intro j hj
    have h : ¬ (24 : Int32) ≤ nI j := nI_ge (b := 24) (by omega) (by decide)
    have hi : vp_in (nI j) 24 := vp_in_nI (by omega) (by decide)
    have hc : (nI j).toNatClampNeg = j := aw_cl (by omega)
    by_cases z : al (nI j).toNatClampNeg = 0
    · refine Or.inr ⟨j, by omega, fun post hp => br_f h ⟨hi, br_t z ?_⟩, fun post hp => br_f h ⟨hi, br_t z ⟨hi, ?_⟩⟩⟩
      · unfold wpX_bringToLife
        dsimp only
        refine ⟨hi, nm_r (by rw [hc]) ⟨hi, nm_r (by rw [hc]) ⟨7, ?_⟩⟩⟩
        exact wr_fX q _ _ va wi wo ki ta so st (by omega) w _ hp 6 0 rfl
      · refine nm_r (by rw [hc]) ⟨hi, nm_r (by rw [hc]) ⟨7, ?_⟩⟩
        exact wr_fY q _ _ va wi wo ki ta so sy (by omega) w _ hp 6 0 rfl
    · rcases ih (j + 1) (by omega) with ⟨hX, hY⟩ | ⟨i, hi', hX, hY⟩
      · exact Or.inl ⟨fun post hp => br_f h ⟨hi, br_f z (nm_r (nI_1 j) (hX post hp))⟩, fun post hp => br_f h ⟨hi, br_f z (nm_r (nI_1 j) (hY post hp))⟩⟩
      · exact Or.inr ⟨i, hi', fun post hp => br_f h ⟨hi, br_f z (nm_r (nI_1 j) (hX post hp))⟩, fun post hp => br_f h ⟨hi, br_f z (nm_r (nI_1 j) (hY post hp))⟩⟩
theorem wr_R {m : Nat} {se ta so st : Nat → Int32} (R : sm_R m se ta so st) {n : Nat} (hn : n < 64) (i : Nat) {x : Int32} (hx : x = nI n) : sm_R m (upd se i x) ta so st := by
  obtain ⟨h1, h2, h3⟩ := R
  refine ⟨h1, fun e => ?_, h3⟩
  by_cases z : e = i
  · exact ⟨n, hn, by rw [z, pk_us, hx]⟩
  · obtain ⟨k, hk, e2⟩ := h2 e
    exact ⟨k, hk, by rw [pk_un z, e2]⟩
theorem i_vc_spawn {k : Nat} {u : SX} {v : SY} (I : i_Rel k u v) (hk : k + 4 ≤ 2048) (v1 : Int32) (v2 : Int32) : wpX_spawn (fun r u' => wpY_spawn (fun r' v' => r' = r ∧ i_Rel (k + 4) u' v') v v1 v2) u v1 v2 := by
  have J := i_up I
  obtain ⟨m, al, se, va, wi, wo, ki, ta, so, st, sy, rfl, rfl, R⟩ := I
  unfold wpX_spawn wpY_spawn
  dsimp only
  obtain ⟨r1, h1, hX1, hY1⟩ := sm_isSet (nI m, al, se, va, wi, wo, ki, ta, so, sy) v1
  refine hX1 _ ?_
  rcases h1 with rfl | ⟨rfl, a, ha, rfl⟩
  · exact br_t rfl (hY1 _ (br_t rfl ⟨rfl, J⟩))
  · refine br_f aw_10 ?_
    rcases wr_spawn (nI m) al se va wi wo ki ta so st sy (nI a) v2 24 0 rfl with ⟨hX, hY⟩ | ⟨i, hi, hX, hY⟩
    · exact ⟨25, hX _ (hY1 _ (br_f aw_10 ⟨25, hY _ ⟨rfl, J⟩⟩))⟩
    · exact ⟨25, hX _ (hY1 _ (br_f aw_10 ⟨25, hY _ ⟨rfl, sm_mk _ _ _ _ _ _ _ _ _ _ _ _ (wr_R R ha i rfl)⟩⟩))⟩
theorem i_vc_kill {k : Nat} {u : SX} {v : SY} (I : i_Rel k u v) (hk : k + 4 ≤ 2048) (v1 : Int32) : wpX_kill (fun r u' => wpY_kill (fun r' v' => r' = r ∧ i_Rel (k + 4) u' v') v v1) u v1 := by
  have J := i_up I
  obtain ⟨m, al, se, va, wi, wo, ki, ta, so, st, sy, rfl, rfl, R⟩ := I
  unfold wpX_kill wpY_kill
  dsimp only
  obtain ⟨r1, h1, hX1, hY1⟩ := sm_lives (nI m) al se va wi wo ki ta so st sy v1
  refine hX1 _ ?_
  rcases h1 with rfl | ⟨rfl, j, hj, rfl, hl⟩
  · exact br_t rfl (hY1 _ (br_t rfl ⟨rfl, J⟩))
  · have hi : vp_in (nI j) 24 := vp_in_nI hj (by decide)
    exact br_f aw_10 ⟨hi, nm_e ⟨hi, hY1 _ (br_f aw_10 ⟨hi, nm_e ⟨hi, rfl, sm_mk _ _ _ _ _ _ _ _ _ _ _ _ R⟩⟩)⟩⟩
theorem i_vc_put {k : Nat} {u : SX} {v : SY} (I : i_Rel k u v) (hk : k + 4 ≤ 2048) (v1 : Int32) (v2 : Int32) (v3 : Int32) : wpX_put (fun r u' => wpY_put (fun r' v' => r' = r ∧ i_Rel (k + 4) u' v') v v1 v2 v3) u v1 v2 v3 := by
  have J := i_up I
  obtain ⟨m, al, se, va, wi, wo, ki, ta, so, st, sy, rfl, rfl, R⟩ := I
  unfold wpX_put wpY_put
  dsimp only
  obtain ⟨r1, h1, hX1, hY1⟩ := sm_lives (nI m) al se va wi wo ki ta so st sy v1
  obtain ⟨r2, h2, hX2, hY2⟩ := sm_isComp (nI m, al, se, va, wi, wo, ki, ta, so, sy) v2
  refine hX1 _ ?_
  rcases h1 with rfl | ⟨rfl, j, hj, rfl, hl⟩
  · exact br_t rfl (hY1 _ (br_t rfl ⟨rfl, J⟩))
  · have hi : vp_in (nI j) 24 := vp_in_nI hj (by decide)
    have hc : (nI j).toNatClampNeg = j := aw_cl (by omega)
    refine br_f aw_10 (hX2 _ ?_)
    rcases h2 with rfl | ⟨rfl, c, hc6, rfl⟩
    · exact br_t rfl (hY1 _ (br_f aw_10 (hY2 _ (br_t rfl ⟨rfl, J⟩))))
    · obtain ⟨n, hn, en⟩ := R.2.1 j
      have hR : i_Rel (k + 4) (nI m, al, upd se j (se j ||| ((1 : Int32) <<< (nI c &&& 31))), upd va (6 * j + c) v3, wi, wo, ki, ta, so, st) (nI m, al, upd se j (se j ||| ((1 : Int32) <<< (nI c &&& 31))), upd va (6 * j + c) v3, wi, wo, ki, ta, so, sy) :=
        sm_mk _ _ _ _ _ _ _ _ _ _ _ _ (wr_R R (aw_or n hn c hc6).2 j (by rw [en]; exact (aw_or n hn c hc6).1))
      have key : ∀ z0 : Int32, z0 = sm_i (bt (se j) c) → wX_put_38 (fun r u' => wpY_isAlive (fun r_1 => (r_1 = 0 → -4 = r ∧ i_Rel (k + 4) u' (nI m, al, se, va, wi, wo, ki, ta, so, sy)) ∧ (¬ r_1 = 0 → wpY_isComponent (fun r_13 => (r_13 = 0 → -1 = r ∧ i_Rel (k + 4) u' (nI m, al, se, va, wi, wo, ki, ta, so, sy)) ∧ (¬ r_13 = 0 → vp_in (nI j) 24 ∧ ∀ x4_26 : Int32, x4_26 = (se (nI j).toNatClampNeg >>> (nI c &&& 31)) &&& 1 → vp_in (nI j) 24 ∧ vp_in (nI j) 24 ∧ ∀ a_sets_29 : Nat → Int32, a_sets_29 = upd se (nI j).toNatClampNeg (se (nI j).toNatClampNeg ||| (1 : Int32) <<< (nI c &&& 31)) → vp_in (6 * nI j + nI c) 144 ∧ ∀ a_values_31 : Nat → Int32, a_values_31 = upd va (6 * nI j + nI c).toNatClampNeg v3 → x4_26 = r ∧ i_Rel (k + 4) u' (nI m, al, a_sets_29, a_values_31, wi, wo, ki, ta, so, sy))) (nI m, al, se, va, wi, wo, ki, ta, so, sy) (nI c))) (nI m, al, se, va, wi, wo, ki, ta, so, sy) (nI j)) (nI j) (nI c) v3 z0 (nI m) al se va wi wo ki ta so st := by
        intro z0 hz
        unfold wX_put_38
        refine ⟨hi, hi, nm_r (by rw [hc]) ⟨aw_nX hj hc6, nm_r (by rw [aw_vX hj hc6]) ?_⟩⟩
        refine hY1 _ (br_f aw_10 (hY2 _ (br_f aw_10 ⟨hi, nm_e ⟨hi, hi, nm_r (by rw [hc]) ⟨aw_nY hj hc6, nm_r (by rw [aw_vY hj hc6]) ⟨?_, hR⟩⟩⟩⟩)))
        rw [hz, hc, sm_cV _ (by omega)]
      refine br_f aw_10 ⟨hi, sm_cX (by omega) ?_⟩
      rw [hc]
      rw [hc] at key
      by_cases zb : sm_i (bt (se j) c) = 0
      · exact br_t zb (key 0 zb.symm)
      · have z1 : sm_i (bt (se j) c) = 1 := by
          cases hb : bt (se j) c
          · rw [hb] at zb; exact absurd rfl zb
          · rfl
        exact br_f zb (key 1 z1.symm)
theorem wr_i1 {b : Bool} (h : ¬ sm_i b = 0) : sm_i b = 1 := by
  cases b
  · exact absurd rfl h
  · rfl
theorem wr_dX (q : Int32) (al se va wi wo ki ta so st : Nat → Int32) {j c : Nat} (hj : j < 24) (z0 : Int32) (post : Int32 → SX → Prop) (hp : post z0 (q, al, upd se j (se j &&& (((1 : Int32) <<< (nI c &&& 31)) ^^^ (-1))), va, wi, wo, ki, ta, so, st)) : wX_drop_38 post (nI j) (nI c) z0 q al se va wi wo ki ta so st := by
  have hi : vp_in (nI j) 24 := vp_in_nI hj (by decide)
  have hc : (nI j).toNatClampNeg = j := aw_cl (by omega)
  unfold wX_drop_38
  exact ⟨hi, hi, nm_r (by rw [hc]) hp⟩
theorem i_vc_drop {k : Nat} {u : SX} {v : SY} (I : i_Rel k u v) (hk : k + 4 ≤ 2048) (v1 : Int32) (v2 : Int32) : wpX_drop (fun r u' => wpY_drop (fun r' v' => r' = r ∧ i_Rel (k + 4) u' v') v v1 v2) u v1 v2 := by
  have J := i_up I
  obtain ⟨m, al, se, va, wi, wo, ki, ta, so, st, sy, rfl, rfl, R⟩ := I
  unfold wpX_drop wpY_drop
  dsimp only
  obtain ⟨r1, h1, hX1, hY1⟩ := sm_lives (nI m) al se va wi wo ki ta so st sy v1
  obtain ⟨r2, h2, hX2, hY2⟩ := sm_isComp (nI m, al, se, va, wi, wo, ki, ta, so, sy) v2
  refine hX1 _ ?_
  rcases h1 with rfl | ⟨rfl, j, hj, rfl, hl⟩
  · exact br_t rfl (hY1 _ (br_t rfl ⟨rfl, J⟩))
  · have hi : vp_in (nI j) 24 := vp_in_nI hj (by decide)
    have hc : (nI j).toNatClampNeg = j := aw_cl (by omega)
    refine br_f aw_10 (hX2 _ ?_)
    rcases h2 with rfl | ⟨rfl, c, hc6, rfl⟩
    · exact br_t rfl (hY1 _ (br_f aw_10 (hY2 _ (br_t rfl ⟨rfl, J⟩))))
    · obtain ⟨n, hn, en⟩ := R.2.1 j
      have hR : i_Rel (k + 4) (nI m, al, upd se j (se j &&& (((1 : Int32) <<< (nI c &&& 31)) ^^^ (-1))), va, wi, wo, ki, ta, so, st) (nI m, al, upd se j (se j &&& (((1 : Int32) <<< (nI c &&& 31)) ^^^ (-1))), va, wi, wo, ki, ta, so, sy) :=
        sm_mk _ _ _ _ _ _ _ _ _ _ _ _ (wr_R R (aw_no n hn c hc6).2 j (by rw [en]; exact (aw_no n hn c hc6).1))
      refine br_f aw_10 ⟨hi, sm_cX (by omega) ?_⟩
      rw [hc]
      by_cases zb : sm_i (bt (se j) c) = 0
      · exact br_t zb (wr_dX (nI m) al se va wi wo ki ta so st hj 0 _ (hY1 _ (br_f aw_10 (hY2 _ (br_f aw_10 ⟨hi, nm_e ⟨hi, hi, nm_e ⟨by rw [sm_cV _ (by omega), zb], hR⟩⟩⟩)))))
      · exact br_f zb (wr_dX (nI m) al se va wi wo ki ta so st hj 1 _ (hY1 _ (br_f aw_10 (hY2 _ (br_f aw_10 ⟨hi, nm_e ⟨hi, hi, nm_e ⟨by rw [sm_cV _ (by omega), wr_i1 zb], hR⟩⟩⟩)))))
end
section
/-- what cell i adds to the digest -/
def dg_t (al se va : Nat → Int32) (i : Nat) : Int32 := if al (i / 6) = 0 then 0 else if bt (se (i / 6)) (i % 6) = false then 0 else (nI i + 1) * va i
def dg_s (f : Nat → Int32) : Nat → Int32
  | 0 => 0
  | n + 1 => dg_s f n + f n
theorem dg_add (f : Nat → Int32) (b : Nat) : ∀ c : Nat, dg_s f (b + c) = dg_s f b + dg_s (fun i => f (b + i)) c := by
  intro c
  induction c with
  | zero => show dg_s f b = dg_s f b + 0; rw [Int32.add_zero]
  | succ c ih => show dg_s f (b + c) + f (b + c) = dg_s f b + (dg_s (fun i => f (b + i)) c + f (b + c)); rw [ih, Int32.add_assoc]
theorem dg_zero (f : Nat → Int32) (b : Nat) : ∀ c : Nat, (∀ i, i < c → f (b + i) = 0) → dg_s f (b + c) = dg_s f b := by
  intro c
  induction c with
  | zero => intro _; rfl
  | succ c ih =>
    intro h
    show dg_s f (b + c) + f (b + c) = dg_s f b
    rw [ih (fun i hi => h i (by omega)), h c (by omega), Int32.add_zero]
theorem dg_d {e c : Nat} (hc : c < 6) : (6 * e + c) / 6 = e ∧ (6 * e + c) % 6 = c := by omega
theorem dg_dead {al se va : Nat → Int32} {e c : Nat} (hc : c < 6) (h : al e = 0) : dg_t al se va (6 * e + c) = 0 := by
  unfold dg_t
  rw [(dg_d hc).1, if_pos h]
theorem dg_out {al se va : Nat → Int32} {e c : Nat} (hc : c < 6) (h : bt (se e) c = false) : dg_t al se va (6 * e + c) = 0 := by
  unfold dg_t
  rw [(dg_d hc).1, (dg_d hc).2]
  by_cases z : al e = 0
  · rw [if_pos z]
  · rw [if_neg z, if_pos h]
theorem dg_in {al se va : Nat → Int32} {e c : Nat} (hc : c < 6) (h : ¬ al e = 0) (hb : ¬ bt (se e) c = false) : dg_t al se va (6 * e + c) = (nI (6 * e + c) + 1) * va (6 * e + c) := by
  unfold dg_t
  rw [(dg_d hc).1, (dg_d hc).2, if_neg h, if_neg hb]
theorem dg_of (q : Int32) (al se va wi wo ki ta so st : Nat → Int32) {e : Nat} (he : e < 24) (hl : ¬ al e = 0) (post : Int32 → Prop) (hp : post (dg_s (fun i => dg_t al se va (6 * e + i)) 6)) : ∀ d c : Nat, c + d = 6 → wX_digestOf_4 post (nI e) q al se va wi wo ki ta so st (d + 1) (dg_s (fun i => dg_t al se va (6 * e + i)) c) (nI c) := by
  intro d
  induction d with
  | zero =>
    intro c hc
    have e' : c = 6 := hc
    subst e'
    exact br_t (nI_le (a := 6) (b := 6) (by omega) (by decide)) hp
  | succ d ih =>
    intro c hc
    have hi : vp_in (nI e) 24 := vp_in_nI he (by decide)
    have hcl : (nI e).toNatClampNeg = e := aw_cl (by omega)
    refine br_f (nI_ge (b := 6) (by omega) (by decide)) ⟨hi, sm_cX (by omega) ?_⟩
    rw [hcl]
    have ih' := ih (c + 1) (by omega)
    have es : dg_s (fun i => dg_t al se va (6 * e + i)) (c + 1) = dg_s (fun i => dg_t al se va (6 * e + i)) c + dg_t al se va (6 * e + c) := rfl
    by_cases zb : bt (se e) c = false
    · rw [es, dg_out (by omega) zb, Int32.add_zero] at ih'
      exact br_t ((sm_i0 _).mpr zb) (nm_r (nI_1 c) ih')
    · rw [es, dg_in (by omega) hl zb] at ih'
      exact br_f (fun z => zb ((sm_i0 _).mp z)) ⟨aw_nX he (by omega), nm_r (by rw [aw_vX he (by omega), aw_iY]) (nm_r (nI_1 c) ih')⟩
theorem dg_X (q : Int32) (al se va wi wo ki ta so st : Nat → Int32) (post : Int32 → Prop) (hp : post (dg_s (dg_t al se va) 144)) : ∀ d e : Nat, e + d = 24 → wX_digest_4 post q al se va wi wo ki ta so st (d + 1) (dg_s (dg_t al se va) (6 * e)) (nI e) := by
  intro d
  induction d with
  | zero =>
    intro e he
    have e' : e = 24 := he
    subst e'
    exact br_t (nI_le (a := 24) (b := 24) (by omega) (by decide)) hp
  | succ d ih =>
    intro e he
    have hi : vp_in (nI e) 24 := vp_in_nI (by omega) (by decide)
    have hcl : (nI e).toNatClampNeg = e := aw_cl (by omega)
    have ih' := ih (e + 1) (by omega)
    have e6 : 6 * (e + 1) = 6 * e + 6 := by omega
    rw [e6] at ih'
    refine br_f (nI_ge (b := 24) (by omega) (by decide)) ⟨hi, ?_⟩
    rw [hcl]
    by_cases z : al e = 0
    · rw [dg_zero _ _ 6 (fun i hi' => dg_dead hi' z)] at ih'
      exact br_t z (nm_r (nI_1 e) ih')
    · rw [dg_add] at ih'
      refine br_f z ?_
      unfold wpX_digestOf
      exact ⟨7, dg_of q al se va wi wo ki ta so st (by omega) z _ (nm_e (nm_r (nI_1 e) ih')) 6 0 rfl⟩
theorem dg_get (q : Int32) (al se va wi wo ki ta so sy : Nat → Int32) {i : Nat} (hi : i < 144) (post : Int32 → Prop) (hp : ∀ r : Int32, (nI i + 1) * r = dg_t al se va i → post r) : wpY_get post (q, al, se, va, wi, wo, ki, ta, so, sy) (nI (i / 6)) (nI (i % 6)) := by
  have hj : i / 6 < 24 := by omega
  have hc6 : i % 6 < 6 := by omega
  have ei : 6 * (i / 6) + i % 6 = i := by omega
  have h0 : ¬ nI (i / 6) < 0 := nI_pos (by omega)
  have hin : vp_in (nI (i / 6)) 24 := vp_in_nI hj (by decide)
  have hcl : (nI (i / 6)).toNatClampNeg = i / 6 := aw_cl (by omega)
  have h2 : ¬ (23 : Int32) < nI (i / 6) := nI_nlt (a := 23) (by omega) (by decide)
  have g0 : ¬ nI (i % 6) < 0 := nI_pos (by omega)
  have g2 : ¬ (5 : Int32) < nI (i % 6) := nI_nlt (a := 5) (by omega) (by decide)
  have m0 : ∀ x : Int32, x * 0 = 0 := fun x => Int32.mul_zero
  unfold wpY_get wpY_isAlive wpY_isComponent
  dsimp only
  rw [hcl]
  refine br_f h0 (br_f h2 ⟨hin, ?_⟩)
  by_cases z : al (i / 6) = 0
  · refine br_t z (br_t rfl (hp _ ?_))
    rw [m0, ← ei, dg_dead hc6 z]
  · refine br_f z (br_f aw_10 (br_f g0 (br_f g2 (br_f aw_10 ⟨hin, sm_cY _ (by omega) ?_⟩))))
    by_cases zb : bt (se (i / 6)) (i % 6) = false
    · refine br_t ((sm_i0 _).mpr zb) (hp _ ?_)
      rw [m0, ← ei, dg_out hc6 zb]
    · refine br_f (fun z => zb ((sm_i0 _).mp z)) ⟨aw_nY hj hc6, hp _ ?_⟩
      have := dg_in (va := va) hc6 z zb
      rw [ei] at this
      rw [aw_vY hj hc6, ei, this]
theorem dg_Y (q : Int32) (al se va wi wo ki ta so sy : Nat → Int32) (post : Int32 → Prop) (hp : post (dg_s (dg_t al se va) 144)) : ∀ d i : Nat, i + d = 144 → wY_digest_4 post q al se va wi wo ki ta so sy (d + 1) (dg_s (dg_t al se va) i) (nI i) := by
  intro d
  induction d with
  | zero =>
    intro i hi
    have e' : i = 144 := hi
    subst e'
    exact br_t (nI_le (a := 144) (b := 144) (by omega) (by decide)) hp
  | succ d ih =>
    intro i hi
    have ih' := ih (i + 1) (by omega)
    have es : dg_s (dg_t al se va) (i + 1) = dg_s (dg_t al se va) i + dg_t al se va i := rfl
    have e1 : nI i / 6 = nI (i / 6) := pk_div (d := 6) (by omega) (by decide) (by decide)
    have e2 : nI i - nI i / 6 * 6 = nI (i % 6) := pk_rem (d := 6) (by omega) (by decide) (by decide)
    refine br_f (nI_ge (b := 144) (by omega) (by decide)) ⟨by decide, by decide, ?_⟩
    rw [e2, e1]
    refine dg_get q al se va wi wo ki ta so sy (by omega) _ (fun r hr => ?_)
    rw [es, ← hr] at ih'
    exact nm_e (nm_r (nI_1 i) ih')
theorem i_vc_digest {k : Nat} {u : SX} {v : SY} (I : i_Rel k u v) (hk : k + 4 ≤ 2048) : wpX_digest (fun r => wpY_digest (fun r' => r' = r ∧ i_Rel (k + 4) u v) v) u := by
  have J := i_up I
  obtain ⟨m, al, se, va, wi, wo, ki, ta, so, st, sy, rfl, rfl, R⟩ := I
  unfold wpX_digest wpY_digest
  dsimp only
  exact ⟨25, dg_X (nI m) al se va wi wo ki ta so st _ ⟨145, dg_Y (nI m) al se va wi wo ki ta so sy _ ⟨rfl, J⟩ 144 0 rfl⟩ 24 0 rfl⟩
end
section
/-- some living entity below k has the set x -/
def kd_seen (al se : Nat → Int32) : Nat → Int32 → Bool
  | 0, _ => false
  | k + 1, x => kd_seen al se k x || (decide (¬ al k = 0) && decide (se k = x))
def kd_cn (P : Nat → Bool) : Nat → Nat
  | 0 => 0
  | n + 1 => kd_cn P n + (if P n then 1 else 0)
theorem kd_le (P : Nat → Bool) : ∀ n, kd_cn P n ≤ n := by
  intro n
  induction n with
  | zero => exact Nat.le_refl 0
  | succ n ih =>
    show kd_cn P n + (if P n then 1 else 0) ≤ n + 1
    split <;> omega
theorem kd_ext {P Q : Nat → Bool} : ∀ n, (∀ i, i < n → P i = Q i) → kd_cn P n = kd_cn Q n := by
  intro n
  induction n with
  | zero => intro _; rfl
  | succ n ih =>
    intro h
    show kd_cn P n + (if P n then 1 else 0) = kd_cn Q n + (if Q n then 1 else 0)
    rw [ih (fun i hi => h i (by omega)), h n (by omega)]
theorem kd_ins {P Q : Nat → Bool} {a : Nat} (hP : P a = false) (hQ : Q a = true) (h : ∀ i, i ≠ a → P i = Q i) : ∀ n, a < n → kd_cn Q n = kd_cn P n + 1 := by
  intro n
  induction n with
  | zero => intro h; omega
  | succ n ih =>
    intro ha
    show kd_cn Q n + (if Q n then 1 else 0) = kd_cn P n + (if P n then 1 else 0) + 1
    by_cases z : a = n
    · subst z
      rw [hP, hQ, kd_ext (P := P) (Q := Q) a (fun i hi => h i (by omega))]
      simp
    · rw [ih (by omega), h n (by omega)]
      omega
/-- the number of sets that some living entity below k has -/
def kd_K (al se : Nat → Int32) (k : Nat) : Nat := kd_cn (fun n => kd_seen al se k (nI n)) 64
theorem kd_dead {al se : Nat → Int32} {k : Nat} (h : al k = 0) : kd_K al se (k + 1) = kd_K al se k := by
  apply kd_ext
  intro i _
  show (kd_seen al se k (nI i) || (decide (¬ al k = 0) && decide (se k = nI i))) = _
  rw [decide_eq_false (fun z => z h), Bool.false_and, Bool.or_false]
theorem kd_old {al se : Nat → Int32} {k : Nat} (h : kd_seen al se k (se k) = true) : kd_K al se (k + 1) = kd_K al se k := by
  apply kd_ext
  intro i _
  show (kd_seen al se k (nI i) || (decide (¬ al k = 0) && decide (se k = nI i))) = _
  by_cases z : se k = nI i
  · rw [← z, h, Bool.true_or]
  · rw [decide_eq_false z, Bool.and_false, Bool.or_false]
theorem kd_new {al se : Nat → Int32} {k a : Nat} (ha : a < 64) (e : se k = nI a) (hl : ¬ al k = 0) (h : kd_seen al se k (se k) = false) : kd_K al se (k + 1) = kd_K al se k + 1 := by
  have hx : ∀ P Q : Nat → Bool, P a = false → Q a = true → (∀ i, i < 64 → i ≠ a → P i = Q i) → kd_cn Q 64 = kd_cn P 64 + 1 := by
    intro P Q h1 h2 h3
    have e1 : kd_cn P 64 = kd_cn (fun i => P i && decide (i < 64)) 64 := kd_ext 64 (fun i hi => by show P i = (P i && decide (i < 64)); rw [decide_eq_true hi, Bool.and_true])
    have e2 : kd_cn Q 64 = kd_cn (fun i => Q i && decide (i < 64)) 64 := kd_ext 64 (fun i hi => by show Q i = (Q i && decide (i < 64)); rw [decide_eq_true hi, Bool.and_true])
    rw [e1, e2]
    refine kd_ins (a := a) ?_ ?_ (fun i hi => ?_) 64 ha
    · show (P a && decide (a < 64)) = false
      rw [h1, Bool.false_and]
    · show (Q a && decide (a < 64)) = true
      rw [h2, decide_eq_true ha]; rfl
    · show (P i && decide (i < 64)) = (Q i && decide (i < 64))
      by_cases z : i < 64
      · rw [h3 i z hi]
      · rw [decide_eq_false z, Bool.and_false, Bool.and_false]
  refine hx _ _ ?_ ?_ (fun i hi hn => ?_)
  · show kd_seen al se k (nI a) = false
    rw [← e]; exact h
  · show (kd_seen al se k (nI a) || (decide (¬ al k = 0) && decide (se k = nI a))) = true
    rw [decide_eq_true hl, decide_eq_true e]; simp
  · show kd_seen al se k (nI i) = (kd_seen al se k (nI i) || (decide (¬ al k = 0) && decide (se k = nI i)))
    have hne : ¬ se k = nI i := fun z => hn ((nI_eq (by omega) (by omega)).mp (z.symm.trans e))
    rw [decide_eq_false hne, Bool.and_false, Bool.or_false]
theorem kd_first (q : Int32) (al se va wi wo ki ta so st : Nat → Int32) {k : Nat} (hk : k < 24) (post : Int32 → Prop) (hp : post (sm_i (! kd_seen al se k (se k)))) : ∀ d j : Nat, j + d = k → kd_seen al se j (se k) = false → wX_isFirstWithItsSet_2 post (nI k) q al se va wi wo ki ta so st (d + 1) (nI j) := by
  intro d
  induction d with
  | zero =>
    intro j hj hs
    have e' : j = k := hj
    subst e'
    rw [hs] at hp
    exact br_t (nI_le (by omega) (by omega)) hp
  | succ d ih =>
    intro j hj hs
    have hi : vp_in (nI j) 24 := vp_in_nI (by omega) (by decide)
    have hik : vp_in (nI k) 24 := vp_in_nI (by omega) (by decide)
    have hcl : (nI j).toNatClampNeg = j := aw_cl (by omega)
    have hck : (nI k).toNatClampNeg = k := aw_cl (by omega)
    have es : kd_seen al se (j + 1) (se k) = (kd_seen al se j (se k) || (decide (¬ al j = 0) && decide (se j = se k))) := rfl
    refine br_f (nI_ge (by omega) (by omega)) ⟨hi, ?_⟩
    rw [hcl, hck]
    by_cases z : al j = 0
    · exact br_t z (nm_r (nI_1 j) (ih (j + 1) (by omega) (by rw [es, hs, decide_eq_false (fun h => h z)]; rfl)))
    · refine br_f z ⟨hi, hik, ?_⟩
      by_cases z2 : se j = se k
      · refine br_t z2 ?_
        have mono : ∀ d' : Nat, kd_seen al se (j + 1 + d') (se k) = true := by
          intro d'
          induction d' with
          | zero =>
            show kd_seen al se (j + 1) (se k) = true
            rw [es, decide_eq_true z, decide_eq_true z2]; simp
          | succ d' ihd =>
            show (kd_seen al se (j + 1 + d') (se k) || _) = true
            rw [ihd, Bool.true_or]
        have e3 := mono d
        rw [show j + 1 + d = k by omega] at e3
        rw [e3] at hp
        exact hp
      · exact br_f z2 (nm_r (nI_1 j) (ih (j + 1) (by omega) (by rw [es, hs, decide_eq_false z2, Bool.and_false]; rfl)))
theorem kd_X (q : Int32) (al se va wi wo ki ta so st : Nat → Int32) (hse : ∀ e, ∃ n, n < 64 ∧ se e = nI n) (post : Int32 → Prop) (hp : post (nI (kd_K al se 24))) : ∀ d e : Nat, e + d = 24 → wX_kinds_4 post q al se va wi wo ki ta so st (d + 1) (nI (kd_K al se e)) (nI e) := by
  intro d
  induction d with
  | zero =>
    intro e he
    have e' : e = 24 := he
    subst e'
    exact br_t (nI_le (a := 24) (b := 24) (by omega) (by decide)) hp
  | succ d ih =>
    intro e he
    have hi : vp_in (nI e) 24 := vp_in_nI (by omega) (by decide)
    have hcl : (nI e).toNatClampNeg = e := aw_cl (by omega)
    have ih' := ih (e + 1) (by omega)
    refine br_f (nI_ge (b := 24) (by omega) (by decide)) ⟨hi, ?_⟩
    rw [hcl]
    by_cases z : al e = 0
    · rw [kd_dead z] at ih'
      exact br_t z (nm_r (nI_1 e) ih')
    · refine br_f z ?_
      unfold wpX_isFirstWithItsSet
      refine ⟨e + 1, kd_first q al se va wi wo ki ta so st (by omega) _ ?_ e 0 (by omega) rfl⟩
      cases hs : kd_seen al se e (se e)
      · obtain ⟨a, ha, ea⟩ := hse e
        rw [kd_new ha ea z hs] at ih'
        exact br_f aw_10 (nm_r (nI_1 _) (nm_r (nI_1 e) ih'))
      · rw [kd_old hs] at ih'
        exact br_t rfl (nm_r (nI_1 e) ih')
theorem kd_in (q : Int32) (al se va wi wo ki ta so sy : Nat → Int32) (post : Int32 → Prop) (Jn : Int32 → Int32 → Prop) (x : Int32) {n : Nat} (h : Jn (x + sm_i (kd_seen al se 24 (nI n))) (nI (n + 1))) : ∀ d e : Nat, e + d = 24 → wY_kinds_15 post Jn x (nI n) q al se va wi wo ki ta so sy (d + 1) (sm_i (kd_seen al se e (nI n))) (nI e) := by
  intro d
  induction d with
  | zero =>
    intro e he
    have e' : e = 24 := he
    subst e'
    refine br_t (nI_le (a := 24) (b := 24) (by omega) (by decide)) ?_
    cases hs : kd_seen al se 24 (nI n)
    · rw [hs] at h
      exact br_t rfl (nm_r (nI_1 n) (by rw [show x + sm_i false = x from Int32.add_zero x] at h; exact h))
    · rw [hs] at h
      exact br_f aw_10 (nm_e (nm_r (nI_1 n) h))
  | succ d ih =>
    intro e he
    have hi : vp_in (nI e) 24 := vp_in_nI (by omega) (by decide)
    have hcl : (nI e).toNatClampNeg = e := aw_cl (by omega)
    have ih' := ih (e + 1) (by omega)
    have es : kd_seen al se (e + 1) (nI n) = (kd_seen al se e (nI n) || (decide (¬ al e = 0) && decide (se e = nI n))) := rfl
    rw [es] at ih'
    refine br_f (nI_ge (b := 24) (by omega) (by decide)) ?_
    rw [hcl]
    cases hs : kd_seen al se e (nI n)
    · rw [hs] at ih'
      refine br_t rfl ⟨hi, ?_⟩
      by_cases z : al e = 0
      · rw [decide_eq_false (fun h => h z)] at ih'
        exact br_t z (nm_r (nI_1 e) ih')
      · rw [decide_eq_true z] at ih'
        refine br_f z ⟨hi, ?_⟩
        by_cases z2 : se e = nI n
        · rw [decide_eq_true z2] at ih'
          exact br_t z2 (nm_r (nI_1 e) ih')
        · rw [decide_eq_false z2] at ih'
          exact br_f z2 (nm_r (nI_1 e) ih')
    · rw [hs, Bool.true_or] at ih'
      exact br_f aw_10 (nm_r (nI_1 e) ih')
theorem kd_Y (q : Int32) (al se va wi wo ki ta so sy : Nat → Int32) (post : Int32 → Prop) (hp : post (nI (kd_K al se 24))) : ∀ d n : Nat, n + d = 64 → wY_kinds_4 post q al se va wi wo ki ta so sy (d + 1) (nI (kd_cn (fun i => kd_seen al se 24 (nI i)) n)) (nI n) := by
  intro d
  induction d with
  | zero =>
    intro n hn
    have e' : n = 64 := hn
    subst e'
    exact br_t (nI_le (a := 64) (b := 64) (by omega) (by decide)) hp
  | succ d ih =>
    intro n hn
    have ih' := ih (n + 1) (by omega)
    have es : kd_cn (fun i => kd_seen al se 24 (nI i)) (n + 1) = kd_cn (fun i => kd_seen al se 24 (nI i)) n + (if kd_seen al se 24 (nI n) then 1 else 0) := rfl
    have e2 : nI (kd_cn (fun i => kd_seen al se 24 (nI i)) n) + sm_i (kd_seen al se 24 (nI n)) = nI (kd_cn (fun i => kd_seen al se 24 (nI i)) (n + 1)) := by
      rw [es]
      cases kd_seen al se 24 (nI n)
      · exact Int32.add_zero _
      · exact nI_1 _
    rw [← e2] at ih'
    exact br_f (nI_ge (b := 64) (by omega) (by decide)) ⟨25, kd_in q al se va wi wo ki ta so sy post _ _ ih' 24 0 rfl⟩
theorem i_vc_kinds {k : Nat} {u : SX} {v : SY} (I : i_Rel k u v) (hk : k + 4 ≤ 2048) : wpX_kinds (fun r => wpY_kinds (fun r' => r' = r ∧ i_Rel (k + 4) u v) v) u := by
  have J := i_up I
  obtain ⟨m, al, se, va, wi, wo, ki, ta, so, st, sy, rfl, rfl, R⟩ := I
  unfold wpX_kinds wpY_kinds
  dsimp only
  have e0 : kd_K al se 0 = 0 := by
    have : ∀ n, kd_cn (fun i => kd_seen al se 0 (nI i)) n = 0 := by
      intro n
      induction n with
      | zero => rfl
      | succ n ih => show kd_cn _ n + 0 = 0; rw [ih]
    exact this 64
  have hX := kd_X (nI m) al se va wi wo ki ta so st R.2.1 (fun r => ∃ n4 : Nat, wY_kinds_4 (fun r' => r' = r ∧ i_Rel (k + 4) (nI m, al, se, va, wi, wo, ki, ta, so, st) (nI m, al, se, va, wi, wo, ki, ta, so, sy)) (nI m) al se va wi wo ki ta so sy n4 0 0) ⟨65, kd_Y (nI m) al se va wi wo ki ta so sy _ ⟨rfl, J⟩ 64 0 rfl⟩ 24 0 rfl
  rw [e0] at hX
  exact ⟨25, hX⟩
end
section
theorem sg_congr {ta so st ta' so' st' : Nat → Int32} {s : Nat} (h : ∀ t, t ≤ s → ta t = ta' t ∧ so t = so' t) : ∀ j, j ≤ s → (∀ t, t < j → st t = st' t) → sm_sg ta so st s j = sm_sg ta' so' st' s j := by
  intro j
  induction j with
  | zero => intro _ _; rfl
  | succ j ih =>
    intro hj hs
    have e := ih (by omega) (fun t ht => hs t (by omega))
    show (if (ta s = ta j ∨ ta s = so j ∨ ta j = so s) ∧ ¬ st j < sm_sg ta so st s j then st j + 1 else sm_sg ta so st s j) = (if (ta' s = ta' j ∨ ta' s = so' j ∨ ta' j = so' s) ∧ ¬ st' j < sm_sg ta' so' st' s j then st' j + 1 else sm_sg ta' so' st' s j)
    rw [e, (h s (by omega)).1, (h s (by omega)).2, (h j (by omega)).1, (h j (by omega)).2, hs j (by omega)]
theorem sg_same {ta so st st' : Nat → Int32} {s : Nat} (h : ∀ t, t < s → st t = st' t) : sm_sg ta so st s s = sm_sg ta so st' s s :=
  sg_congr (fun _ _ => ⟨rfl, rfl⟩) s (by omega) h
theorem sg_eq {m : Nat} {ta so st st' : Nat → Int32} (h : ∀ s, s < m → st s = sm_sg ta so st s s) (h' : ∀ s, s < m → st' s = sm_sg ta so st' s s) : ∀ n s, s < n → s < m → st' s = st s := by
  intro n
  induction n with
  | zero => intro s hs; omega
  | succ n ih =>
    intro s hs hm
    rw [h s hm, h' s hm]
    exact sg_same (fun t ht => ih t (by omega) (by omega))
theorem sg_bnd {ta so st : Nat → Int32} (s : Nat) : ∀ j, j ≤ 8 → (∀ t, t < j → ∃ n, n ≤ t ∧ st t = nI n) → ∃ n, n ≤ j ∧ sm_sg ta so st s j = nI n := by
  intro j
  induction j with
  | zero => intro _ _; exact ⟨0, by omega, rfl⟩
  | succ j ih =>
    intro hj h
    obtain ⟨n, hn, e⟩ := ih (by omega) (fun t ht => h t (by omega))
    obtain ⟨k, hk, ek⟩ := h j (by omega)
    show ∃ n, n ≤ j + 1 ∧ (if (ta s = ta j ∨ ta s = so j ∨ ta j = so s) ∧ ¬ st j < sm_sg ta so st s j then st j + 1 else sm_sg ta so st s j) = nI n
    split
    · exact ⟨k + 1, by omega, by rw [ek, nI_1]⟩
    · exact ⟨n, by omega, e⟩
theorem sg_bd {m : Nat} {ta so st : Nat → Int32} (hm : m ≤ 8) (h : ∀ s, s < m → st s = sm_sg ta so st s s) : ∀ n s, s < n → s < m → ∃ k, k ≤ s ∧ st s = nI k := by
  intro n
  induction n with
  | zero => intro s hs; omega
  | succ n ih =>
    intro s hs hsm
    obtain ⟨k, hk, e⟩ := sg_bnd (ta := ta) (so := so) (st := st) s s (by omega) (fun t ht => ih t (by omega) (by omega))
    exact ⟨k, hk, by rw [h s hsm, e]⟩
/-- the class's conflict -/
theorem sg_cX (q : Int32) (al se va wi wo ki ta so st : Nat → Int32) {s t : Nat} (hs : s < 8) (ht : t < 8) (post : Int32 → Prop) (h1 : (ta s = ta t ∨ ta s = so t ∨ ta t = so s) → post 1) (h0 : ¬ (ta s = ta t ∨ ta s = so t ∨ ta t = so s) → post 0) : wpX_conflict post (q, al, se, va, wi, wo, ki, ta, so, st) (nI s) (nI t) := by
  have is : vp_in (nI s) 8 := vp_in_nI hs (by decide)
  have it : vp_in (nI t) 8 := vp_in_nI ht (by decide)
  have cs : (nI s).toNatClampNeg = s := aw_cl (by omega)
  have ct : (nI t).toNatClampNeg = t := aw_cl (by omega)
  unfold wpX_conflict
  dsimp only
  rw [cs, ct]
  refine ⟨is, it, br_c (fun z => h1 (Or.inl z)) (fun z1 => ⟨is, it, br_c (fun z => h1 (Or.inr (Or.inl z))) (fun z2 => ⟨it, is, br_c (fun z => h1 (Or.inr (Or.inr z))) (fun z3 => h0 ?_)⟩)⟩)⟩
  rintro (e | e | e)
  · exact z1 e
  · exact z2 e
  · exact z3 e
theorem sg_sb (q : Int32) (al se va wi wo ki ta so st : Nat → Int32) {s : Nat} (hs : s < 8) (post : Int32 → Prop) (hp : post (sm_sg ta so st s s)) : ∀ d t : Nat, t + d = s → wX_stageBehindEarlier_4 post (nI s) q al se va wi wo ki ta so st (d + 1) (sm_sg ta so st s t) (nI t) := by
  intro d
  induction d with
  | zero =>
    intro t ht
    have e : t = s := ht
    subst e
    exact br_t (nI_le (by omega) (by omega)) hp
  | succ d ih =>
    intro t ht
    have it : vp_in (nI t) 8 := vp_in_nI (by omega) (by decide)
    have ct : (nI t).toNatClampNeg = t := aw_cl (by omega)
    have ih' := ih (t + 1) (by omega)
    have es : sm_sg ta so st s (t + 1) = if (ta s = ta t ∨ ta s = so t ∨ ta t = so s) ∧ ¬ st t < sm_sg ta so st s t then st t + 1 else sm_sg ta so st s t := rfl
    rw [es] at ih'
    refine br_f (nI_ge (by omega) (by omega)) (sg_cX q al se va wi wo ki ta so st hs (by omega) _ (fun z => br_f aw_10 ⟨it, ?_⟩) (fun z => br_t rfl ?_))
    · rw [ct]
      by_cases z2 : st t < sm_sg ta so st s t
      · rw [if_neg (fun h => h.2 z2)] at ih'
        exact br_t z2 (nm_r (nI_1 t) ih')
      · rw [if_pos ⟨z, z2⟩] at ih'
        exact br_f z2 ⟨it, nm_e (nm_r (nI_1 t) ih')⟩
    · rw [if_neg (fun h => z h.1)] at ih'
      exact nm_r (nI_1 t) ih'
/-- the reference's disturbs -/
theorem sg_dY (q : Int32) (al se va wi wo ki ta so sy : Nat → Int32) {s t : Nat} (hs : s < 8) (ht : t < 8) (post : Int32 → Prop) (h1 : (ta s = ta t ∨ ta s = so t) → post 1) (h0 : ¬ (ta s = ta t ∨ ta s = so t) → post 0) : wpY_disturbs post (q, al, se, va, wi, wo, ki, ta, so, sy) (nI s) (nI t) := by
  have is : vp_in (nI s) 8 := vp_in_nI hs (by decide)
  have it : vp_in (nI t) 8 := vp_in_nI ht (by decide)
  have cs : (nI s).toNatClampNeg = s := aw_cl (by omega)
  have ct : (nI t).toNatClampNeg = t := aw_cl (by omega)
  unfold wpY_disturbs
  dsimp only
  rw [cs, ct]
  refine ⟨is, it, br_c (fun z => h1 (Or.inl z)) (fun z1 => ⟨is, it, br_c (fun z => h1 (Or.inr z)) (fun z2 => h0 ?_)⟩)⟩
  rintro (e | e)
  · exact z1 e
  · exact z2 e
theorem sg_in (q : Int32) (al se va wi wo ki ta so b : Nat → Int32) {s : Nat} (hs : s < 8) (post : SY → Prop) (Jn : Int32 → (Nat → Int32) → (Nat → Int32) → (Nat → Int32) → (Nat → Int32) → (Nat → Int32) → (Nat → Int32) → (Nat → Int32) → (Nat → Int32) → (Nat → Int32) → Prop) (hJ : Jn (nI (s + 1)) al se va wi wo ki ta so (upd b s (sm_sg ta so b s s))) : ∀ d t : Nat, t + d = s → wY_layStages_19 post Jn (nI s) q (d + 1) (nI t) al se va wi wo ki ta so (upd b s (sm_sg ta so b s t)) := by
  intro d
  induction d with
  | zero =>
    intro t ht
    have e : t = s := ht
    subst e
    exact br_t (nI_le (by omega) (by omega)) (nm_r (nI_1 t) hJ)
  | succ d ih =>
    intro t ht
    have is : vp_in (nI s) 8 := vp_in_nI hs (by decide)
    have it : vp_in (nI t) 8 := vp_in_nI (by omega) (by decide)
    have cs : (nI s).toNatClampNeg = s := aw_cl (by omega)
    have ct : (nI t).toNatClampNeg = t := aw_cl (by omega)
    have ih' := ih (t + 1) (by omega)
    have es : sm_sg ta so b s (t + 1) = if (ta s = ta t ∨ ta s = so t ∨ ta t = so s) ∧ ¬ b t < sm_sg ta so b s t then b t + 1 else sm_sg ta so b s t := rfl
    rw [es] at ih'
    have key : (ta s = ta t ∨ ta s = so t ∨ ta t = so s) → wY_layStages_42 post Jn (wY_layStages_19 post Jn (nI s) q (d + 1)) (nI s) (nI t) q al se va wi wo ki ta so (upd b s (sm_sg ta so b s t)) := by
      intro z
      unfold wY_layStages_42
      rw [cs, ct, pk_us, pk_un (by omega), aw_uu]
      refine ⟨it, is, ?_⟩
      by_cases z2 : b t < sm_sg ta so b s t
      · rw [if_neg (fun h => h.2 z2)] at ih'
        exact br_t z2 (nm_r (nI_1 t) ih')
      · rw [if_pos ⟨z, z2⟩] at ih'
        exact br_f z2 ⟨it, is, nm_e (nm_r (nI_1 t) ih')⟩
    refine br_f (nI_ge (by omega) (by omega)) (sg_dY q al se va wi wo ki ta so _ hs (by omega) _ (fun z => br_f aw_10 (key ?_)) (fun z => br_t rfl ?_))
    · rcases z with z | z
      · exact Or.inl z
      · exact Or.inr (Or.inl z)
    · refine sg_dY q al se va wi wo ki ta so _ (by omega) hs _ (fun z2 => br_f aw_10 (key ?_)) (fun z2 => br_t rfl ?_)
      · rcases z2 with z2 | z2
        · exact Or.inl z2.symm
        · exact Or.inr (Or.inr z2)
      · rw [if_neg (fun h => by
          rcases h.1 with e | e | e
          · exact z (Or.inl e)
          · exact z (Or.inr e)
          · exact z2 (Or.inr e))] at ih'
        exact nm_r (nI_1 t) ih'
theorem sg_lay {m : Nat} (hm : m ≤ 8) (al se va wi wo ki ta so : Nat → Int32) : ∀ d i : Nat, i + d = m → ∀ y : Nat → Int32, (∀ s, s < i → y s = sm_sg ta so y s s) → ∃ y' : Nat → Int32, (∀ s, s < m → y' s = sm_sg ta so y' s s) ∧ ∀ post : SY → Prop, post (nI m, al, se, va, wi, wo, ki, ta, so, y') → wY_layStages_2 post (nI m) (d + 1) (nI i) al se va wi wo ki ta so y := by
  intro d
  induction d with
  | zero =>
    intro i hi y hy
    have e : i = m := hi
    subst e
    exact ⟨y, hy, fun post hp => br_t (nI_le (by omega) (by omega)) hp⟩
  | succ d ih =>
    intro i hi y hy
    have ii : vp_in (nI i) 8 := vp_in_nI (by omega) (by decide)
    have ci : (nI i).toNatClampNeg = i := aw_cl (by omega)
    obtain ⟨y', h1, h2⟩ := ih (i + 1) (by omega) (upd y i (sm_sg ta so y i i)) (by
      intro s hs
      by_cases z : s = i
      · subst z
        rw [pk_us]
        exact sg_same (fun t ht => (pk_un (by omega)).symm)
      · rw [pk_un z, hy s (by omega)]
        exact sg_same (fun t ht => (pk_un (by omega)).symm))
    refine ⟨y', h1, fun post hp => br_f (nI_ge (by omega) (by omega)) ⟨ii, nm_r (by rw [ci]) ⟨i + 1, ?_⟩⟩⟩
    exact sg_in (nI m) al se va wi wo ki ta so y (by omega) post _ (h2 post hp) i 0 (by omega)
theorem sg_wlay {m : Nat} {al se va wi wo ki ta so st : Nat → Int32} (sy : Nat → Int32) (R : sm_R m se ta so st) : ∃ y' : Nat → Int32, (∀ s, s < m → y' s = st s) ∧ ∀ post : SY → Prop, post (nI m, al, se, va, wi, wo, ki, ta, so, y') → wpY_layStages post (nI m, al, se, va, wi, wo, ki, ta, so, sy) := by
  obtain ⟨y', h1, h2⟩ := sg_lay R.1 al se va wi wo ki ta so m 0 (by omega) sy (fun s hs => by omega)
  refine ⟨y', fun s hs => sg_eq R.2.2.2.2 h1 (s + 1) s (by omega) hs, fun post hp => ?_⟩
  unfold wpY_layStages
  exact ⟨m + 1, h2 post hp⟩
theorem i_vc_stage {k : Nat} {u : SX} {v : SY} (I : i_Rel k u v) (hk : k + 4 ≤ 2048) (v1 : Int32) : wpX_stage (fun r => wpY_stage (fun r' v' => r' = r ∧ i_Rel (k + 4) u v') v v1) u v1 := by
  obtain ⟨m, al, se, va, wi, wo, ki, ta, so, st, sy, rfl, rfl, R⟩ := I
  obtain ⟨y', hy, hL⟩ := sg_wlay (al := al) (va := va) (wi := wi) (wo := wo) (ki := ki) sy R
  have J : i_Rel (k + 4) (nI m, al, se, va, wi, wo, ki, ta, so, st) (nI m, al, se, va, wi, wo, ki, ta, so, y') := sm_mk _ _ _ _ _ _ _ _ _ _ _ _ R
  have hm := R.1
  unfold wpX_stage wpY_stage
  dsimp only
  by_cases h0 : v1 < 0
  · exact br_t h0 (hL _ (br_t h0 ⟨rfl, J⟩))
  · obtain ⟨s, hs, rfl⟩ := nI_of h0
    by_cases h1 : s < m
    · have is : vp_in (nI s) 8 := vp_in_nI (by omega) (by decide)
      have cs : (nI s).toNatClampNeg = s := aw_cl (by omega)
      refine br_f h0 (br_t (nI_lt h1 (by omega)) ⟨is, hL _ (br_f h0 (br_f (nI_ge h1 (by omega)) ⟨is, ?_, J⟩))⟩)
      rw [cs]; exact hy s h1
    · exact br_f h0 (br_f (nI_nlt (by omega) hs) (hL _ (br_f h0 (br_t (nI_le (by omega) hs) ⟨rfl, J⟩))))
theorem sg_stages {m : Nat} (hm : m ≤ 8) (al se va wi wo ki ta so st y : Nat → Int32) (hb : ∀ s, s < m → ∃ n, n ≤ s ∧ st s = nI n) (hy : ∀ s, s < m → y s = st s) : ∀ d i : Nat, i + d = m → ∀ b : Nat, b ≤ i → ∃ b' : Nat, b ≤ b' ∧ b' ≤ m ∧ (∀ s, i ≤ s → s < m → ∃ n, n < b' ∧ st s = nI n) ∧ (∀ post : Int32 → Prop, post (nI b') → wX_stages_4 post (nI m) al se va wi wo ki ta so st (d + 1) (nI b) (nI i)) ∧ (∀ post : Int32 → SY → Prop, post (nI b') (nI m, al, se, va, wi, wo, ki, ta, so, y) → wY_stages_8 post (nI m) al se va wi wo ki ta so y (d + 1) (nI b) (nI i)) := by
  intro d
  induction d with
  | zero =>
    intro i hi b hbi
    have h : nI m ≤ nI i := nI_le (by omega) (by omega)
    exact ⟨b, by omega, by omega, fun s h1 h2 => by omega, fun _ hp => br_t h hp, fun _ hp => br_t h hp⟩
  | succ d ih =>
    intro i hi b hbi
    have h : ¬ nI m ≤ nI i := nI_ge (by omega) (by omega)
    have ii : vp_in (nI i) 8 := vp_in_nI (by omega) (by decide)
    have ci : (nI i).toNatClampNeg = i := aw_cl (by omega)
    obtain ⟨n, hn, en⟩ := hb i (by omega)
    have ey : y (nI i).toNatClampNeg = nI n := by rw [ci, hy i (by omega), en]
    have ex : st (nI i).toNatClampNeg = nI n := by rw [ci, en]
    by_cases z : n < b
    · obtain ⟨b', g1, g2, g3, g4, g5⟩ := ih (i + 1) (by omega) b (by omega)
      refine ⟨b', g1, g2, fun s h1 h2 => ?_, fun post hp => br_f h ⟨ii, br_t (by rw [ex]; exact nI_lt z (by omega)) (nm_r (nI_1 i) (g4 post hp))⟩, fun post hp => br_f h ⟨ii, br_t (by rw [ey, nI_1]; exact nI_le (by omega) (by omega)) (nm_r (nI_1 i) (g5 post hp))⟩⟩
      by_cases zs : s = i
      · exact ⟨n, by omega, by rw [zs, en]⟩
      · exact g3 s (by omega) h2
    · obtain ⟨b', g1, g2, g3, g4, g5⟩ := ih (i + 1) (by omega) (n + 1) (by omega)
      refine ⟨b', by omega, g2, fun s h1 h2 => ?_, fun post hp => br_f h ⟨ii, br_f (by rw [ex]; exact nI_nlt (by omega) (by omega)) ⟨ii, nm_r (by rw [ex, nI_1]) (nm_r (nI_1 i) (g4 post hp))⟩⟩, fun post hp => br_f h ⟨ii, br_f (by rw [ey, nI_1]; exact nI_ge (by omega) (by omega)) ⟨ii, nm_r (by rw [ey, nI_1]) (nm_r (nI_1 i) (g5 post hp))⟩⟩⟩
      by_cases zs : s = i
      · exact ⟨n, by omega, by rw [zs, en]⟩
      · exact g3 s (by omega) h2
theorem i_vc_stages {k : Nat} {u : SX} {v : SY} (I : i_Rel k u v) (hk : k + 4 ≤ 2048) : wpX_stages (fun r => wpY_stages (fun r' v' => r' = r ∧ i_Rel (k + 4) u v') v) u := by
  obtain ⟨m, al, se, va, wi, wo, ki, ta, so, st, sy, rfl, rfl, R⟩ := I
  obtain ⟨y', hy, hL⟩ := sg_wlay (al := al) (va := va) (wi := wi) (wo := wo) (ki := ki) sy R
  have J : i_Rel (k + 4) (nI m, al, se, va, wi, wo, ki, ta, so, st) (nI m, al, se, va, wi, wo, ki, ta, so, y') := sm_mk _ _ _ _ _ _ _ _ _ _ _ _ R
  have hm := R.1
  obtain ⟨b', _, _, _, hX, hY⟩ := sg_stages hm al se va wi wo ki ta so st y' (fun s hs => sg_bd hm R.2.2.2.2 (s + 1) s (by omega) hs) hy m 0 (by omega) 0 (by omega)
  unfold wpX_stages wpY_stages
  dsimp only
  exact ⟨m + 1, hX _ (hL _ ⟨m + 1, hY _ ⟨rfl, J⟩⟩)⟩
theorem i_vc_unsystem {k : Nat} {u : SX} {v : SY} (I : i_Rel k u v) (hk : k + 4 ≤ 2048) : wpX_unsystem (fun r u' => wpY_unsystem (fun r' v' => r' = r ∧ i_Rel (k + 4) u' v') v) u := by
  have J := i_up I
  obtain ⟨m, al, se, va, wi, wo, ki, ta, so, st, sy, rfl, rfl, R⟩ := I
  unfold wpX_unsystem wpY_unsystem
  dsimp only
  have hm := R.1
  cases m with
  | zero => exact br_t rfl (br_t rfl ⟨rfl, J⟩)
  | succ m =>
    have h : ¬ nI (m + 1) = 0 := nI_ne0 (by omega) (by omega)
    refine br_f h (nm_r (nI_pred m) (br_f h (nm_r (nI_pred m) ⟨rfl, sm_mk _ _ _ _ _ _ _ _ _ _ _ _ ⟨by omega, R.2.1, R.2.2.1, R.2.2.2.1, fun s hs => R.2.2.2.2 s (by omega)⟩⟩)))
end
section
/-- what makes the work w good over the sets a -/
def sy_G (a w : Nat) : Bool := decide (w % 8 ≤ 4) && ((decide (w / 8 % 8 < 6) && bt (nI a) (w / 8 % 8)) && (decide (w / 64 < 6) && bt (nI a) (w / 64)))
theorem sy_bt {a c : Nat} (ha : a < 4096) (hc : c < 6) : bt (nI (a % 64)) c = bt (nI a) c := by
  have e : nI a &&& 63 = nI (a % 2 ^ 6) := pk_andN (by omega) 6 (by decide)
  rw [show (64 : Nat) = 2 ^ 6 from rfl, ← e, b_and, (by decide +kernel : ∀ c, c < 6 → bt 63 c = true) c hc, Bool.and_true]
theorem sy_co {x : Int32} {c : Nat} (hc : c < 2 ^ 31) (post : Int32 → Prop) (hp : post (sm_i (decide (c < 6) && bt x c))) : wpX_isComponentOf post (nI c) x := by
  unfold wpX_isComponentOf wpX_isComponent
  refine br_f (nI_pos hc) ?_
  by_cases z : c < 6
  · rw [decide_eq_true z, Bool.true_and] at hp
    refine br_f (nI_ge (b := 6) z (by decide)) (br_f aw_10 (sm_cX (by omega) ?_))
    by_cases zb : sm_i (bt x c) = 0
    · rw [zb] at hp
      exact br_t zb hp
    · rw [wr_i1 zb] at hp
      exact br_f zb hp
  · rw [decide_eq_false z, Bool.false_and] at hp
    exact br_t (nI_le (a := 6) (by omega) hc) (br_t rfl hp)
theorem sy_k {w : Nat} (hw : w < 2 ^ 31) : (nI w &&& 7) = nI (w % 8) := pk_andN (by omega) 3 (by decide)
theorem sy_t {w : Nat} (hw : w < 2 ^ 31) : ((nI w >>> ((3 : Int32) &&& 31)) &&& 7) = nI (w / 8 % 8) := by
  rw [pk_shrN hw _ 3 (by decide)]
  exact pk_andN (by omega) 3 (by decide)
theorem sy_s {w : Nat} (hw : w < 2 ^ 31) : (nI w >>> ((6 : Int32) &&& 31)) = nI (w / 64) := pk_shrN hw _ 6 (by decide)
theorem sy_w {a w : Nat} (ha : a < 4096) (hw : w < 2 ^ 31) (post : Int32 → Prop) (hp : post (sm_i (sy_G a w))) : wpX_isWorkOn post (nI w) (nI (a % 64)) := by
  unfold wpX_isWorkOn wpX_kindIn wpX_targetIn wpX_sourceIn
  rw [sy_k hw, sy_t hw, sy_s hw]
  refine br_f (nI_pos hw) ?_
  unfold sy_G at hp
  by_cases z : w % 8 ≤ 4
  · rw [decide_eq_true z, Bool.true_and] at hp
    refine br_t (nI_le (b := 4) z (by decide)) (sy_co (by omega) _ ?_)
    have e1 : (decide (w / 8 % 8 < 6) && bt (nI (a % 64)) (w / 8 % 8)) = (decide (w / 8 % 8 < 6) && bt (nI a) (w / 8 % 8)) := by
      by_cases z : w / 8 % 8 < 6
      · rw [sy_bt ha z]
      · rw [decide_eq_false z, Bool.false_and, Bool.false_and]
    have e2 : (decide (w / 64 < 6) && bt (nI (a % 64)) (w / 64)) = (decide (w / 64 < 6) && bt (nI a) (w / 64)) := by
      by_cases z : w / 64 < 6
      · rw [sy_bt ha z]
      · rw [decide_eq_false z, Bool.false_and, Bool.false_and]
    rw [e1]
    cases h1 : (decide (w / 8 % 8 < 6) && bt (nI a) (w / 8 % 8))
    · rw [h1, Bool.false_and] at hp
      exact br_t rfl hp
    · rw [h1, Bool.true_and] at hp
      refine br_f aw_10 (sy_co (by omega) _ ?_)
      rw [e2]
      cases h2 : (decide (w / 64 < 6) && bt (nI a) (w / 64))
      · rw [h2] at hp
        exact br_t rfl hp
      · rw [h2] at hp
        exact br_f aw_10 hp
  · rw [decide_eq_false z, Bool.false_and] at hp
    exact br_f (nI_ge (a := 4) (by omega) (by omega)) hp
theorem sy_X {m : Nat} (al se va wi wo ki ta so st : Nat → Int32) (hm : m < 8) {a w : Nat} (ha : a < 4096) (hw : w < 2 ^ 31) (G : sy_G a w = true) (post : Int32 → SX → Prop)
    (hp : post (nI m) (nI (m + 1), al, se, va, upd wi m (nI (a % 64)), upd wo m (nI (a / 64)), upd ki m (nI (w % 8)), upd ta m (nI (w / 8 % 8)), upd so m (nI (w / 64)), upd st m (sm_sg (upd ta m (nI (w / 8 % 8))) (upd so m (nI (w / 64))) st m m))) : wpX_system post (nI m, al, se, va, wi, wo, ki, ta, so, st) (nI a) (nI w) := by
  have cm : (nI m).toNatClampNeg = m := aw_cl (by omega)
  have im : vp_in (nI m) 8 := vp_in_nI hm (by decide)
  have e1 : nI a - nI a / 64 * 64 = nI (a % 64) := pk_rem (d := 64) (by omega) (by decide) (by decide)
  have e2 : nI a / 64 = nI (a / 64) := pk_div (d := 64) (by omega) (by decide) (by decide)
  unfold wpX_system
  dsimp only
  rw [cm]
  refine br_f (nI_pos (by omega)) (br_t (nI_lt (b := 4096) ha (by decide)) ⟨by decide, nm_r e1 (sy_w ha hw _ ?_)⟩)
  rw [G]
  refine br_f aw_10 (br_t (nI_lt (b := 8) hm (by decide)) ⟨im, nm_e ⟨by decide, im, nm_r (by rw [e2]) ?_⟩⟩)
  unfold wpX_kindIn wpX_targetIn wpX_sourceIn wpX_stageBehindEarlier
  dsimp only
  refine ⟨im, nm_r (by rw [sy_k hw]) ⟨im, nm_r (by rw [sy_t hw]) ⟨im, nm_r (by rw [sy_s hw]) ⟨m + 1, ?_⟩⟩⟩⟩
  exact sg_sb (nI m) al se va _ _ _ _ _ st hm _ ⟨im, nm_e (nm_r (nI_1 m) hp)⟩ m 0 (by omega)
theorem sy_Y {m : Nat} (al se va wi wo ki ta so sy : Nat → Int32) (hm : m ≤ 8) {a w : Nat} (ha : a < 4096) (hw : w < 2 ^ 31) (post : Int32 → SY → Prop)
    (h0 : sy_G a w = false → post (-1) (nI m, al, se, va, wi, wo, ki, ta, so, sy)) (h8 : sy_G a w = true → m = 8 → post (-2) (nI m, al, se, va, wi, wo, ki, ta, so, sy))
    (hp : sy_G a w = true → m < 8 → post (nI m) (nI (m + 1), al, se, va, upd wi m (nI (a % 64)), upd wo m (nI (a / 64)), upd ki m (nI (w % 8)), upd ta m (nI (w / 8 % 8)), upd so m (nI (w / 64)), sy)) : wpY_system post (nI m, al, se, va, wi, wo, ki, ta, so, sy) (nI a) (nI w) := by
  have cm : (nI m).toNatClampNeg = m := aw_cl (by omega)
  have e1 : nI a - nI a / 64 * 64 = nI (a % 64) := pk_rem (d := 64) (by omega) (by decide) (by decide)
  have e2 : nI a / 64 = nI (a / 64) := pk_div (d := 64) (by omega) (by decide) (by decide)
  have f1 : nI w - nI w / 8 * 8 = nI (w % 8) := pk_rem (d := 8) (by omega) (by decide) (by decide)
  have f0 : nI w / 8 = nI (w / 8) := pk_div (d := 8) (by omega) (by decide) (by decide)
  have f2 : (nI w / 8) - (nI w / 8) / 8 * 8 = nI (w / 8 % 8) := by
    rw [f0]; exact pk_rem (d := 8) (by omega) (by decide) (by decide)
  have f3 : nI w / 64 = nI (w / 64) := pk_div (d := 64) (by omega) (by decide) (by decide)
  unfold wpY_system
  dsimp only
  rw [cm]
  unfold sy_G at h0 h8 hp
  refine br_f (nI_pos (by omega)) (br_f (nI_nlt (a := 4095) (by omega) (by decide)) (br_t (nI_pos' hw) ⟨by decide, nm_r f1 ⟨by decide, by decide, nm_r f2 ⟨by decide, nm_r f3 ?_⟩⟩⟩))
  by_cases z1 : w % 8 ≤ 4
  · refine br_f (nI_nlt (a := 4) (by omega) (by decide)) ?_
    rw [decide_eq_true z1, Bool.true_and] at h0 h8 hp
    by_cases z2 : w / 8 % 8 < 6
    · refine br_f (nI_nlt (a := 5) (by omega) (by decide)) ?_
      rw [decide_eq_true z2, Bool.true_and] at h0 h8 hp
      by_cases z3 : w / 64 < 6
      · refine br_f (nI_nlt (a := 5) (by omega) (by decide)) (sm_cY _ (by omega) ?_)
        rw [decide_eq_true z3, Bool.true_and] at h0 h8 hp
        cases b1 : bt (nI a) (w / 8 % 8)
        · rw [b1] at h0
          exact br_t rfl (h0 rfl)
        · rw [b1] at h0 h8 hp
          refine br_f aw_10 (sm_cY _ (by omega) ?_)
          cases b2 : bt (nI a) (w / 64)
          · rw [b2] at h0
            exact br_t rfl (h0 rfl)
          · rw [b2] at h8 hp
            refine br_f aw_10 ?_
            by_cases z8 : m = 8
            · exact br_t (by rw [z8]; decide +kernel) (h8 rfl z8)
            · have im : vp_in (nI m) 8 := vp_in_nI (by omega) (by decide)
              have hp' := hp rfl (by omega)
              refine br_f (fun z => z8 ((nI_eq (a := m) (b := 8) (by omega) (by decide)).mp z)) ⟨by decide, im, nm_r (by rw [e1]) ⟨by decide, im, nm_r (by rw [e2]) ⟨im, nm_e ⟨im, nm_e ⟨im, nm_e (nm_r (nI_1 m) ?_)⟩⟩⟩⟩⟩
              rw [nI_pred m]
              exact hp'
      · rw [decide_eq_false z3, Bool.false_and, Bool.and_false] at h0
        exact br_t (nI_lt (a := 5) (by omega) (by omega)) (h0 rfl)
    · rw [decide_eq_false z2, Bool.false_and, Bool.false_and] at h0
      exact br_t (nI_lt (a := 5) (by omega) (by omega)) (h0 rfl)
  · rw [decide_eq_false z1, Bool.false_and] at h0
    exact br_t (nI_lt (a := 4) (by omega) (by omega)) (h0 rfl)
theorem sy_G6 {a w : Nat} (h : sy_G a w = true) : w / 8 % 8 < 6 ∧ w / 64 < 6 := by
  unfold sy_G at h
  simp only [Bool.and_eq_true, decide_eq_true_eq] at h
  exact ⟨h.2.1.1, h.2.2.1⟩
theorem sy_R {m : Nat} {se ta so st : Nat → Int32} (R : sm_R m se ta so st) (hm : m < 8) {x y : Nat} (hx : x < 6) (hy : y < 6) : sm_R (m + 1) se (upd ta m (nI x)) (upd so m (nI y)) (upd st m (sm_sg (upd ta m (nI x)) (upd so m (nI y)) st m m)) := by
  obtain ⟨_, h2, h3, h4, h5⟩ := R
  refine ⟨by omega, h2, fun s => ?_, fun s => ?_, fun s hs => ?_⟩
  · by_cases z : s = m
    · exact ⟨x, hx, by rw [z, pk_us]⟩
    · rw [pk_un z]; exact h3 s
  · by_cases z : s = m
    · exact ⟨y, hy, by rw [z, pk_us]⟩
    · rw [pk_un z]; exact h4 s
  · by_cases z : s = m
    · subst z
      rw [pk_us]
      exact sg_same (fun t ht => (pk_un (by omega)).symm)
    · rw [pk_un z, h5 s (by omega)]
      exact sg_congr (fun t ht => ⟨(pk_un (by omega)).symm, (pk_un (by omega)).symm⟩) s (by omega) (fun t ht => (pk_un (by omega)).symm)
theorem i_vc_system {k : Nat} {u : SX} {v : SY} (I : i_Rel k u v) (hk : k + 4 ≤ 2048) (v1 : Int32) (v2 : Int32) : wpX_system (fun r u' => wpY_system (fun r' v' => r' = r ∧ i_Rel (k + 4) u' v') v v1 v2) u v1 v2 := by
  have J := i_up I
  obtain ⟨m, al, se, va, wi, wo, ki, ta, so, st, sy, rfl, rfl, R⟩ := I
  have hm := R.1
  by_cases h0 : v1 < 0
  · unfold wpX_system wpY_system
    dsimp only
    exact br_t h0 (br_t h0 ⟨rfl, J⟩)
  · obtain ⟨a, ha, rfl⟩ := nI_of h0
    by_cases h1 : a < 4096
    · by_cases h2 : v2 < 0
      · have h3 : ¬ 0 ≤ v2 := Int32.not_le.mpr h2
        unfold wpX_system wpY_system wpX_isWorkOn
        dsimp only
        exact br_f h0 (br_t (nI_lt (b := 4096) h1 (by decide)) ⟨by decide, nm_e (br_t h2 (br_t rfl (br_f h0 (br_f (nI_nlt (a := 4095) (by omega) (by decide)) (br_f h3 ⟨rfl, J⟩)))))⟩)
      · obtain ⟨w, hw, rfl⟩ := nI_of h2
        cases G : sy_G a w
        · have e1 : nI a - nI a / 64 * 64 = nI (a % 64) := pk_rem (d := 64) (by omega) (by decide) (by decide)
          unfold wpX_system
          dsimp only
          refine br_f h0 (br_t (nI_lt (b := 4096) h1 (by decide)) ⟨by decide, nm_r e1 (sy_w h1 hw _ ?_)⟩)
          rw [G]
          refine br_t rfl (sy_Y al se va wi wo ki ta so sy hm h1 hw _ (fun _ => ⟨rfl, J⟩) (fun g => ?_) (fun g => ?_))
          · rw [G] at g; exact Bool.noConfusion g
          · rw [G] at g; exact Bool.noConfusion g
        · by_cases z8 : m = 8
          · have e1 : nI a - nI a / 64 * 64 = nI (a % 64) := pk_rem (d := 64) (by omega) (by decide) (by decide)
            unfold wpX_system
            dsimp only
            refine br_f h0 (br_t (nI_lt (b := 4096) h1 (by decide)) ⟨by decide, nm_r e1 (sy_w h1 hw _ ?_)⟩)
            rw [G]
            refine br_f aw_10 (br_f (nI_nlt (b := 8) (by omega) (by omega)) (sy_Y al se va wi wo ki ta so sy hm h1 hw _ (fun g => ?_) (fun _ _ => ⟨rfl, J⟩) (fun _ g => ?_)))
            · rw [G] at g; exact Bool.noConfusion g
            · omega
          · refine sy_X al se va wi wo ki ta so st (by omega) h1 hw G _ (sy_Y al se va wi wo ki ta so sy hm h1 hw _ (fun g => ?_) (fun _ g => absurd g z8) (fun _ g => ⟨rfl, ?_⟩))
            · rw [G] at g; exact Bool.noConfusion g
            · exact sm_mk _ _ _ _ _ _ _ _ _ _ _ _ (sy_R R g (sy_G6 G).1 (sy_G6 G).2)
    · unfold wpX_system wpY_system
      dsimp only
      exact br_f h0 (br_f (nI_nlt (b := 4096) (by omega) (by omega)) (br_f h0 (br_t (nI_lt (a := 4095) (by omega) (by omega)) ⟨rfl, J⟩)))
end
section
def fr_v (k x y : Int32) : Int32 := if k = 0 then x + y else if k = 1 then x - y else if k = 2 then y else if k = 3 then x * y else if 0 ≤ y then x else 0
theorem fr_vX (k x y : Int32) (post : Int32 → Prop) (hp : post (fr_v k x y)) : wpX_workedValue post k x y := by
  unfold wpX_workedValue
  unfold fr_v at hp
  by_cases z0 : k = 0
  · subst z0
    rw [if_pos rfl] at hp
    exact br_f (by decide) (br_f (by decide) (br_t rfl hp))
  · rw [if_neg z0] at hp
    by_cases z1 : k = 1
    · subst z1
      rw [if_pos rfl] at hp
      exact br_f (by decide) (br_f (by decide) (br_f z0 (br_t rfl hp)))
    · rw [if_neg z1] at hp
      by_cases z2 : k = 2
      · subst z2
        rw [if_pos rfl] at hp
        exact br_f (by decide) (br_f (by decide) (br_f z0 (br_f z1 (br_t rfl hp))))
      · rw [if_neg z2] at hp
        by_cases z3 : k = 3
        · subst z3
          rw [if_pos rfl] at hp
          exact br_f (by decide) (br_f (by decide) (br_f z0 (br_f z1 (br_f z2 (br_t rfl hp)))))
        · rw [if_neg z3] at hp
          have hl : (0 ≤ y → post x) ∧ (¬ 0 ≤ y → post 0) := by
            by_cases zy : 0 ≤ y
            · rw [if_pos zy] at hp
              exact br_t zy hp
            · rw [if_neg zy] at hp
              exact br_f zy hp
          exact br_c (fun _ => hl) (fun _ => br_c (fun _ => hl) (fun _ => br_f z0 (br_f z1 (br_f z2 (br_f z3 trivial)))))
theorem fr_wY (q : Int32) (al se va wi wo ki ta so sy : Nat → Int32) {s j a b : Nat} (hs : s < 8) (hj : j < 24) (ha : a < 6) (hb : b < 6) (ea : ta s = nI a) (eb : so s = nI b) (post : SY → Prop) (hp : post (q, al, se, upd va (6 * j + a) (fr_v (ki s) (va (6 * j + a)) (va (6 * j + b))), wi, wo, ki, ta, so, sy)) : wpY_work post (q, al, se, va, wi, wo, ki, ta, so, sy) (nI s) (nI j) := by
  have is : vp_in (nI s) 8 := vp_in_nI hs (by decide)
  have cs : (nI s).toNatClampNeg = s := aw_cl (by omega)
  have i4 : vp_in (nI (6 * j + a)) 144 := vp_in_nI (by omega) (by decide)
  have c4 : (nI (6 * j + a)).toNatClampNeg = 6 * j + a := aw_cl (by omega)
  unfold wpY_work
  dsimp only
  rw [cs, ea, eb]
  refine ⟨is, nm_r (aw_iY j a) ⟨i4, nm_r (by rw [c4]) ⟨is, aw_nY hj hb, nm_r (by rw [aw_vY hj hb]) ⟨is, ?_⟩⟩⟩⟩
  rw [c4]
  unfold fr_v at hp
  by_cases z0 : ki s = 0
  · rw [if_pos z0] at hp
    exact br_t z0 ⟨i4, nm_e hp⟩
  · rw [if_neg z0] at hp
    refine br_f z0 ⟨is, ?_⟩
    by_cases z1 : ki s = 1
    · rw [if_pos z1] at hp
      exact br_t z1 ⟨i4, nm_e hp⟩
    · rw [if_neg z1] at hp
      refine br_f z1 ⟨is, ?_⟩
      by_cases z2 : ki s = 2
      · rw [if_pos z2] at hp
        exact br_t z2 ⟨i4, nm_e hp⟩
      · rw [if_neg z2] at hp
        refine br_f z2 ⟨is, ?_⟩
        by_cases z3 : ki s = 3
        · rw [if_pos z3] at hp
          exact br_t z3 ⟨i4, nm_e hp⟩
        · rw [if_neg z3] at hp
          refine br_f z3 ?_
          by_cases zy : 0 ≤ va (6 * j + b)
          · rw [if_pos zy, aw_us] at hp
            exact br_t zy hp
          · rw [if_neg zy] at hp
            exact br_f zy ⟨i4, nm_e hp⟩
theorem fr_rs (q : Int32) (al se wi wo ki ta so st sy : Nat → Int32) {s a b : Nat} (hs : s < 8) (ha : a < 6) (hb : b < 6) (ea : ta s = nI a) (eb : so s = nI b) : ∀ d j : Nat, j + d = 24 → ∀ (x : Int32) (va : Nat → Int32), ∃ (r : Int32) (va' : Nat → Int32), (∀ post : Int32 → SX → Prop, post r (q, al, se, va', wi, wo, ki, ta, so, st) → wX_runSystem_4 post (nI s) q (d + 1) x (nI j) al se va wi wo ki ta so st) ∧ (∀ post : Int32 → SY → Prop, post r (q, al, se, va', wi, wo, ki, ta, so, sy) → wY_runSystem_4 post (nI s) (d + 1) x (nI j) q al se va wi wo ki ta so sy) := by
  have is : vp_in (nI s) 8 := vp_in_nI hs (by decide)
  have cs : (nI s).toNatClampNeg = s := aw_cl (by omega)
  intro d
  induction d with
  | zero =>
    intro j hj x va
    have h : (24 : Int32) ≤ nI j := nI_le (a := 24) (by omega) (by omega)
    exact ⟨x, va, fun _ hp => br_t h hp, fun _ hp => br_t h hp⟩
  | succ d ih =>
    intro j hj x va
    have h : ¬ (24 : Int32) ≤ nI j := nI_ge (b := 24) (by omega) (by decide)
    obtain ⟨r, _, hX, hY⟩ := sm_fits q al se va wi wo ki ta so st sy (wi (nI s).toNatClampNeg) (wo (nI s).toNatClampNeg) (j := j) (by omega)
    by_cases z : r = 0
    · obtain ⟨r', va', hX', hY'⟩ := ih (j + 1) (by omega) x va
      exact ⟨r', va', fun post hp => br_f h ⟨is, is, hX _ (br_t z (nm_r (nI_1 j) (hX' post hp)))⟩, fun post hp => br_f h ⟨is, is, hY _ (br_t z (nm_r (nI_1 j) (hY' post hp)))⟩⟩
    · obtain ⟨r', va', hX', hY'⟩ := ih (j + 1) (by omega) (x + 1) (upd va (6 * j + a) (fr_v (ki s) (va (6 * j + a)) (va (6 * j + b))))
      have i4 : vp_in (nI (6 * j + a)) 144 := vp_in_nI (by omega) (by decide)
      have i5 : vp_in (nI (6 * j + b)) 144 := vp_in_nI (by omega) (by decide)
      have c4 : (nI (6 * j + a)).toNatClampNeg = 6 * j + a := aw_cl (by omega)
      have c5 : (nI (6 * j + b)).toNatClampNeg = 6 * j + b := aw_cl (by omega)
      have e4 : nI j * 6 + ta (nI s).toNatClampNeg = nI (6 * j + a) := by rw [cs, ea, aw_iX]
      have e5 : nI j * 6 + so (nI s).toNatClampNeg = nI (6 * j + b) := by rw [cs, eb, aw_iX]
      refine ⟨r', va', fun post hp => br_f h ⟨is, is, hX _ (br_f z ⟨is, nm_r e4 ⟨is, nm_r e5 ⟨is, i4, i5, fr_vX _ _ _ _ ⟨i4, nm_r (by rw [c4, c5, cs]) (nm_e (nm_r (nI_1 j) (hX' post hp)))⟩⟩⟩⟩)⟩, fun post hp => br_f h ⟨is, is, hY _ (br_f z (fr_wY q al se va wi wo ki ta so sy hs (by omega) ha hb ea eb _ (nm_e (nm_r (nI_1 j) (hY' post hp)))))⟩⟩
theorem fr_in {m : Nat} (hm : m ≤ 8) (al se wi wo ki ta so st sy : Nat → Int32) (hta : ∀ s, ∃ n, n < 6 ∧ ta s = nI n) (hso : ∀ s, ∃ n, n < 6 ∧ so s = nI n) (hy : ∀ s, s < m → sy s = st s) (E : Int32) (g : Nat) : ∀ d i : Nat, i + d = m → ∀ (x : Int32) (va : Nat → Int32), ∃ (r : Int32) (va' : Nat → Int32), (∀ (post : Int32 → SX → Prop) (Jn : Int32 → Int32 → Int32 → (Nat → Int32) → (Nat → Int32) → (Nat → Int32) → (Nat → Int32) → (Nat → Int32) → (Nat → Int32) → (Nat → Int32) → (Nat → Int32) → (Nat → Int32) → Prop), Jn r (nI (g + 1)) (nI m) al se va' wi wo ki ta so st → wX_runOneFrame_17 post Jn E (nI g) (d + 1) x (nI i) (nI m) al se va wi wo ki ta so st) ∧ (∀ (post : Int32 → SY → Prop) (Jn : Int32 → Int32 → Int32 → (Nat → Int32) → (Nat → Int32) → (Nat → Int32) → (Nat → Int32) → (Nat → Int32) → (Nat → Int32) → (Nat → Int32) → (Nat → Int32) → (Nat → Int32) → Prop), Jn r (nI (g + 1)) (nI m) al se va' wi wo ki ta so sy → wY_runFrame_12 post Jn (nI g) (d + 1) x (nI i) (nI m) al se va wi wo ki ta so sy) := by
  intro d
  induction d with
  | zero =>
    intro i hi x va
    have h : nI m ≤ nI i := nI_le (by omega) (by omega)
    exact ⟨x, va, fun _ _ hp => br_t h (nm_r (nI_1 g) hp), fun _ _ hp => br_t h (nm_r (nI_1 g) hp)⟩
  | succ d ih =>
    intro i hi x va
    have h : ¬ nI m ≤ nI i := nI_ge (by omega) (by omega)
    have ii : vp_in (nI i) 8 := vp_in_nI (by omega) (by decide)
    have ci : (nI i).toNatClampNeg = i := aw_cl (by omega)
    have ey : sy (nI i).toNatClampNeg = st (nI i).toNatClampNeg := by rw [ci]; exact hy i (by omega)
    by_cases z : st (nI i).toNatClampNeg = nI g
    · obtain ⟨a, ha, ea⟩ := hta i
      obtain ⟨b, hb, eb⟩ := hso i
      obtain ⟨r1, va1, hX1, hY1⟩ := fr_rs (nI m) al se wi wo ki ta so st sy (s := i) (by omega) ha hb ea eb 24 0 rfl 0 va
      obtain ⟨r', va', hX', hY'⟩ := ih (i + 1) (by omega) (x + r1) va1
      refine ⟨r', va', fun post Jn hp => br_f h ⟨ii, br_t z ?_⟩, fun post Jn hp => br_f h ⟨ii, br_t (ey.trans z) ?_⟩⟩
      · unfold wpX_runSystem
        exact ⟨25, hX1 _ (nm_e (nm_r (nI_1 i) (hX' post Jn hp)))⟩
      · unfold wpY_runSystem
        exact ⟨25, hY1 _ (nm_e (nm_r (nI_1 i) (hY' post Jn hp)))⟩
    · obtain ⟨r', va', hX', hY'⟩ := ih (i + 1) (by omega) x va
      exact ⟨r', va', fun post Jn hp => br_f h ⟨ii, br_f z (nm_r (nI_1 i) (hX' post Jn hp))⟩, fun post Jn hp => br_f h ⟨ii, br_f (by rw [ey]; exact z) (nm_r (nI_1 i) (hY' post Jn hp))⟩⟩
/-- a stage that no system has: the reference passes it by -/
theorem fr_pass {m : Nat} (hm : m ≤ 8) (al se va wi wo ki ta so sy : Nat → Int32) (g : Nat) (hg : ∀ s, s < m → ¬ sy s = nI g) (x : Int32) (post : Int32 → SY → Prop) (Jn : Int32 → Int32 → Int32 → (Nat → Int32) → (Nat → Int32) → (Nat → Int32) → (Nat → Int32) → (Nat → Int32) → (Nat → Int32) → (Nat → Int32) → (Nat → Int32) → (Nat → Int32) → Prop) (hp : Jn x (nI (g + 1)) (nI m) al se va wi wo ki ta so sy) : ∀ d i : Nat, i + d = m → wY_runFrame_12 post Jn (nI g) (d + 1) x (nI i) (nI m) al se va wi wo ki ta so sy := by
  intro d
  induction d with
  | zero =>
    intro i hi
    exact br_t (nI_le (by omega) (by omega)) (nm_r (nI_1 g) hp)
  | succ d ih =>
    intro i hi
    have ii : vp_in (nI i) 8 := vp_in_nI (by omega) (by decide)
    have ci : (nI i).toNatClampNeg = i := aw_cl (by omega)
    exact br_f (nI_ge (by omega) (by omega)) ⟨ii, br_f (by rw [ci]; exact hg i (by omega)) (nm_r (nI_1 i) (ih (i + 1) (by omega)))⟩
theorem fr_tail {m S : Nat} (hm : m ≤ 8) (al se va wi wo ki ta so sy : Nat → Int32) (hg : ∀ s, s < m → ∃ n, n < S ∧ sy s = nI n) (x : Int32) (post : Int32 → SY → Prop) (hp : post x (nI m, al, se, va, wi, wo, ki, ta, so, sy)) : ∀ d g : Nat, g + d = 8 → S ≤ g → wY_runFrame_4 post (d + 1) x (nI g) (nI m) al se va wi wo ki ta so sy := by
  intro d
  induction d with
  | zero =>
    intro g hgd _
    exact br_t (nI_le (a := 8) (by omega) (by omega)) hp
  | succ d ih =>
    intro g hgd hS
    refine br_f (nI_ge (b := 8) (by omega) (by decide)) ⟨m + 1, fr_pass hm al se va wi wo ki ta so sy g (fun s hs z => ?_) x post _ (ih (g + 1) (by omega) (by omega)) m 0 (by omega)⟩
    obtain ⟨n, hn, e⟩ := hg s hs
    rw [e] at z
    by_cases hn' : n < 8
    · have := (nI_eq (by omega) (by omega)).mp z
      omega
    · omega
theorem fr_out {m S : Nat} (hm : m ≤ 8) (hS : S ≤ 8) (al se wi wo ki ta so st sy : Nat → Int32) (hta : ∀ s, ∃ n, n < 6 ∧ ta s = nI n) (hso : ∀ s, ∃ n, n < 6 ∧ so s = nI n) (hy : ∀ s, s < m → sy s = st s) (hg : ∀ s, s < m → ∃ n, n < S ∧ st s = nI n) : ∀ d g : Nat, g + d = S → ∀ (x : Int32) (va : Nat → Int32), ∃ (r : Int32) (va' : Nat → Int32), (∀ post : Int32 → SX → Prop, post r (nI m, al, se, va', wi, wo, ki, ta, so, st) → wX_runOneFrame_9 post (nI S) (d + 1) x (nI g) (nI m) al se va wi wo ki ta so st) ∧ (∀ post : Int32 → SY → Prop, post r (nI m, al, se, va', wi, wo, ki, ta, so, sy) → wY_runFrame_4 post (d + (8 - S) + 1) x (nI g) (nI m) al se va wi wo ki ta so sy) := by
  intro d
  induction d with
  | zero =>
    intro g hgd x va
    have e : g = S := hgd
    subst e
    refine ⟨x, va, fun _ hp => br_t (nI_le (by omega) (by omega)) hp, fun post hp => ?_⟩
    rw [Nat.zero_add]
    exact fr_tail hm al se va wi wo ki ta so sy (fun s hs => by rw [hy s hs]; exact hg s hs) x post hp (8 - g) g (by omega) (by omega)
  | succ d ih =>
    intro g hgd x va
    obtain ⟨r1, va1, hX1, hY1⟩ := fr_in hm al se wi wo ki ta so st sy hta hso hy (nI S) g m 0 (by omega) x va
    obtain ⟨r', va', hX', hY'⟩ := ih (g + 1) (by omega) r1 va1
    refine ⟨r', va', fun post hp => br_f (nI_ge (by omega) (by omega)) ⟨m + 1, hX1 post _ (hX' post hp)⟩, fun post hp => ?_⟩
    rw [show d + 1 + (8 - S) + 1 = (d + (8 - S) + 1) + 1 by omega]
    exact br_f (nI_ge (b := 8) (by omega) (by decide)) ⟨m + 1, hY1 post _ (hY' post hp)⟩
theorem fr_one {m : Nat} (al se va wi wo ki ta so st sy : Nat → Int32) (R : sm_R m se ta so st) (hy : ∀ s, s < m → sy s = st s) : ∃ (r : Int32) (va' : Nat → Int32), (∀ post : Int32 → SX → Prop, post r (nI m, al, se, va', wi, wo, ki, ta, so, st) → wpX_runOneFrame post (nI m, al, se, va, wi, wo, ki, ta, so, st)) ∧ (∀ post : Int32 → SY → Prop, post r (nI m, al, se, va', wi, wo, ki, ta, so, sy) → wpY_runFrame post (nI m, al, se, va, wi, wo, ki, ta, so, sy)) := by
  have hm := R.1
  obtain ⟨S, _, hS, hg, hX, _⟩ := sg_stages hm al se va wi wo ki ta so st sy (fun s hs => sg_bd hm R.2.2.2.2 (s + 1) s (by omega) hs) hy m 0 (by omega) 0 (by omega)
  obtain ⟨r, va', hX', hY'⟩ := fr_out hm (S := S) (by omega) al se wi wo ki ta so st sy R.2.2.1 R.2.2.2.1 hy (fun s hs => hg s (by omega) hs) S 0 (by omega) 0 va
  refine ⟨r, va', fun post hp => ?_, fun post hp => ?_⟩
  · unfold wpX_runOneFrame wpX_stages
    exact ⟨m + 1, hX _ ⟨S + 1, hX' post hp⟩⟩
  · unfold wpY_runFrame
    exact ⟨S + (8 - S) + 1, hY' post hp⟩
theorem fr_fr {m f F : Nat} (hf : f < 2 ^ 31) (h10 : F ≤ 10) (hF : F ≤ f) (hc : F = 10 ∨ F = f) (al se wi wo ki ta so st sy : Nat → Int32) (R : sm_R m se ta so st) (hy : ∀ s, s < m → sy s = st s) : ∀ d i : Nat, i + d = F → ∀ (x : Int32) (va : Nat → Int32), ∃ (r : Int32) (va' : Nat → Int32), (∀ post : Int32 → SX → Prop, post r (nI m, al, se, va', wi, wo, ki, ta, so, st) → wX_frame_18 post (nI F) (d + 1) x (nI i) (nI m) al se va wi wo ki ta so st) ∧ (∀ post : Int32 → SY → Prop, post r (nI m, al, se, va', wi, wo, ki, ta, so, sy) → wY_frame_8 post (nI f) (d + 1) x (nI i) (nI m) al se va wi wo ki ta so sy) := by
  intro d
  induction d with
  | zero =>
    intro i hi x va
    have e : i = F := hi
    subst e
    refine ⟨x, va, fun _ hp => br_t (nI_le (by omega) (by omega)) hp, fun post hp => ?_⟩
    by_cases z : i = 10
    · exact br_t (nI_le (a := 10) (by omega) (by omega)) hp
    · exact br_f (nI_ge (b := 10) (by omega) (by decide)) (br_t (nI_le (by omega) (by omega)) hp)
  | succ d ih =>
    intro i hi x va
    obtain ⟨r1, va1, hX1, hY1⟩ := fr_one al se va wi wo ki ta so st sy R hy
    obtain ⟨r', va', hX', hY'⟩ := ih (i + 1) (by omega) (x + r1) va1
    exact ⟨r', va', fun post hp => br_f (nI_ge (by omega) (by omega)) (hX1 _ (nm_e (nm_r (nI_1 i) (hX' post hp)))), fun post hp => br_f (nI_ge (b := 10) (by omega) (by decide)) (br_f (nI_ge (by omega) (by omega)) (hY1 _ (nm_e (nm_r (nI_1 i) (hY' post hp)))))⟩
end
section
theorem i_vc_frame {k : Nat} {u : SX} {v : SY} (I : i_Rel k u v) (hk : k + 4 ≤ 2048) (v1 : Int32) : wpX_frame (fun r u' => wpY_frame (fun r' v' => r' = r ∧ i_Rel (k + 4) u' v') v v1) u v1 := by
  obtain ⟨m, al, se, va, wi, wo, ki, ta, so, st, sy, rfl, rfl, R⟩ := I
  obtain ⟨y', hy, hL⟩ := sg_wlay (al := al) (va := va) (wi := wi) (wo := wo) (ki := ki) sy R
  have J : ∀ va' : Nat → Int32, i_Rel (k + 4) (nI m, al, se, va', wi, wo, ki, ta, so, st) (nI m, al, se, va', wi, wo, ki, ta, so, y') := fun va' => sm_mk _ _ _ _ _ _ _ _ _ _ _ _ R
  unfold wpX_frame wpY_frame
  dsimp only
  by_cases h0 : v1 < 0
  · have h1 : v1 ≤ 0 := Int32.le_of_lt h0
    exact br_t (Int32.le_trans h1 (by decide)) ⟨1, br_t h1 (hL _ ⟨1, br_f (by decide) (br_t h1 ⟨rfl, J va⟩)⟩)⟩
  · obtain ⟨f, hf, rfl⟩ := nI_of h0
    by_cases h1 : f ≤ 10
    · obtain ⟨r, va', hX, hY⟩ := fr_fr (f := f) (F := f) hf h1 (by omega) (Or.inr rfl) al se wi wo ki ta so st y' R hy f 0 (by omega) 0 va
      exact br_t (nI_le (b := 10) h1 (by decide)) ⟨f + 1, hX _ (hL _ ⟨f + 1, hY _ ⟨rfl, J va'⟩⟩)⟩
    · obtain ⟨r, va', hX, hY⟩ := fr_fr (f := f) (F := 10) hf (by omega) (by omega) (Or.inl rfl) al se wi wo ki ta so st y' R hy 10 0 (by omega) 0 va
      exact br_f (nI_ge (a := 10) (by omega) hf) ⟨11, hX _ (hL _ ⟨11, hY _ ⟨rfl, J va'⟩⟩)⟩
end
