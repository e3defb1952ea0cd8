/-- what cell i adds to the digest -/
def dg_t (al se va : Nat → Int32) (i : Nat) : Int32 := if al (i / 6) = 0 then 0 else if bt (se (i / 6)) (i % 6) = false then 0 else (nI i + 1) * va i
def dg_s (f : Nat → Int32) : Nat → Int32
  | 0 => 0
  | n + 1 => dg_s f n + f n
theorem dg_add (f : Nat → Int32) (b : Nat) : ∀ c : Nat, dg_s f (b + c) = dg_s f b + dg_s (fun i => f (b + i)) c := by
  intro c
  induction c with
  | zero => show dg_s f b = dg_s f b + 0; rw [Int32.add_zero]
  | succ c ih => show dg_s f (b + c) + f (b + c) = dg_s f b + (dg_s (fun i => f (b + i)) c + f (b + c)); rw [ih, Int32.add_assoc]
theorem dg_zero (f : Nat → Int32) (b : Nat) : ∀ c : Nat, (∀ i, i < c → f (b + i) = 0) → dg_s f (b + c) = dg_s f b := by
  intro c
  induction c with
  | zero => intro _; rfl
  | succ c ih =>
    intro h
    show dg_s f (b + c) + f (b + c) = dg_s f b
    rw [ih (fun i hi => h i (by omega)), h c (by omega), Int32.add_zero]
theorem dg_d {e c : Nat} (hc : c < 6) : (6 * e + c) / 6 = e ∧ (6 * e + c) % 6 = c := by omega
theorem dg_dead {al se va : Nat → Int32} {e c : Nat} (hc : c < 6) (h : al e = 0) : dg_t al se va (6 * e + c) = 0 := by
  unfold dg_t
  rw [(dg_d hc).1, if_pos h]
theorem dg_out {al se va : Nat → Int32} {e c : Nat} (hc : c < 6) (h : bt (se e) c = false) : dg_t al se va (6 * e + c) = 0 := by
  unfold dg_t
  rw [(dg_d hc).1, (dg_d hc).2]
  by_cases z : al e = 0
  · rw [if_pos z]
  · rw [if_neg z, if_pos h]
theorem dg_in {al se va : Nat → Int32} {e c : Nat} (hc : c < 6) (h : ¬ al e = 0) (hb : ¬ bt (se e) c = false) : dg_t al se va (6 * e + c) = (nI (6 * e + c) + 1) * va (6 * e + c) := by
  unfold dg_t
  rw [(dg_d hc).1, (dg_d hc).2, if_neg h, if_neg hb]
theorem dg_of (q : Int32) (al se va wi wo ki ta so st : Nat → Int32) {e : Nat} (he : e < 24) (hl : ¬ al e = 0) (post : Int32 → Prop) (hp : post (dg_s (fun i => dg_t al se va (6 * e + i)) 6)) : ∀ d c : Nat, c + d = 6 → wX_digestOf_4 post (nI e) q al se va wi wo ki ta so st (d + 1) (dg_s (fun i => dg_t al se va (6 * e + i)) c) (nI c) := by
  intro d
  induction d with
  | zero =>
    intro c hc
    have e' : c = 6 := hc
    subst e'
    exact br_t (nI_le (a := 6) (b := 6) (by omega) (by decide)) hp
  | succ d ih =>
    intro c hc
    have hi : vp_in (nI e) 24 := vp_in_nI he (by decide)
    have hcl : (nI e).toNatClampNeg = e := aw_cl (by omega)
    refine br_f (nI_ge (b := 6) (by omega) (by decide)) ⟨hi, sm_cX (by omega) ?_⟩
    rw [hcl]
    have ih' := ih (c + 1) (by omega)
    have es : dg_s (fun i => dg_t al se va (6 * e + i)) (c + 1) = dg_s (fun i => dg_t al se va (6 * e + i)) c + dg_t al se va (6 * e + c) := rfl
    by_cases zb : bt (se e) c = false
    · rw [es, dg_out (by omega) zb, Int32.add_zero] at ih'
      exact br_t ((sm_i0 _).mpr zb) (nm_r (nI_1 c) ih')
    · rw [es, dg_in (by omega) hl zb] at ih'
      exact br_f (fun z => zb ((sm_i0 _).mp z)) ⟨aw_nX he (by omega), nm_r (by rw [aw_vX he (by omega), aw_iY]) (nm_r (nI_1 c) ih')⟩
theorem dg_X (q : Int32) (al se va wi wo ki ta so st : Nat → Int32) (post : Int32 → Prop) (hp : post (dg_s (dg_t al se va) 144)) : ∀ d e : Nat, e + d = 24 → wX_digest_4 post q al se va wi wo ki ta so st (d + 1) (dg_s (dg_t al se va) (6 * e)) (nI e) := by
  intro d
  induction d with
  | zero =>
    intro e he
    have e' : e = 24 := he
    subst e'
    exact br_t (nI_le (a := 24) (b := 24) (by omega) (by decide)) hp
  | succ d ih =>
    intro e he
    have hi : vp_in (nI e) 24 := vp_in_nI (by omega) (by decide)
    have hcl : (nI e).toNatClampNeg = e := aw_cl (by omega)
    have ih' := ih (e + 1) (by omega)
    have e6 : 6 * (e + 1) = 6 * e + 6 := by omega
    rw [e6] at ih'
    refine br_f (nI_ge (b := 24) (by omega) (by decide)) ⟨hi, ?_⟩
    rw [hcl]
    by_cases z : al e = 0
    · rw [dg_zero _ _ 6 (fun i hi' => dg_dead hi' z)] at ih'
      exact br_t z (nm_r (nI_1 e) ih')
    · rw [dg_add] at ih'
      refine br_f z ?_
      unfold wpX_digestOf
      exact ⟨7, dg_of q al se va wi wo ki ta so st (by omega) z _ (nm_e (nm_r (nI_1 e) ih')) 6 0 rfl⟩
theorem dg_get (q : Int32) (al se va wi wo ki ta so sy : Nat → Int32) {i : Nat} (hi : i < 144) (post : Int32 → Prop) (hp : ∀ r : Int32, (nI i + 1) * r = dg_t al se va i → post r) : wpY_get post (q, al, se, va, wi, wo, ki, ta, so, sy) (nI (i / 6)) (nI (i % 6)) := by
  have hj : i / 6 < 24 := by omega
  have hc6 : i % 6 < 6 := by omega
  have ei : 6 * (i / 6) + i % 6 = i := by omega
  have h0 : ¬ nI (i / 6) < 0 := nI_pos (by omega)
  have hin : vp_in (nI (i / 6)) 24 := vp_in_nI hj (by decide)
  have hcl : (nI (i / 6)).toNatClampNeg = i / 6 := aw_cl (by omega)
  have h2 : ¬ (23 : Int32) < nI (i / 6) := nI_nlt (a := 23) (by omega) (by decide)
  have g0 : ¬ nI (i % 6) < 0 := nI_pos (by omega)
  have g2 : ¬ (5 : Int32) < nI (i % 6) := nI_nlt (a := 5) (by omega) (by decide)
  have m0 : ∀ x : Int32, x * 0 = 0 := fun x => Int32.mul_zero
  unfold wpY_get wpY_isAlive wpY_isComponent
  dsimp only
  rw [hcl]
  refine br_f h0 (br_f h2 ⟨hin, ?_⟩)
  by_cases z : al (i / 6) = 0
  · refine br_t z (br_t rfl (hp _ ?_))
    rw [m0, ← ei, dg_dead hc6 z]
  · refine br_f z (br_f aw_10 (br_f g0 (br_f g2 (br_f aw_10 ⟨hin, sm_cY _ (by omega) ?_⟩))))
    by_cases zb : bt (se (i / 6)) (i % 6) = false
    · refine br_t ((sm_i0 _).mpr zb) (hp _ ?_)
      rw [m0, ← ei, dg_out hc6 zb]
    · refine br_f (fun z => zb ((sm_i0 _).mp z)) ⟨aw_nY hj hc6, hp _ ?_⟩
      have := dg_in (va := va) hc6 z zb
      rw [ei] at this
      rw [aw_vY hj hc6, ei, this]
theorem dg_Y (q : Int32) (al se va wi wo ki ta so sy : Nat → Int32) (post : Int32 → Prop) (hp : post (dg_s (dg_t al se va) 144)) : ∀ d i : Nat, i + d = 144 → wY_digest_4 post q al se va wi wo ki ta so sy (d + 1) (dg_s (dg_t al se va) i) (nI i) := by
  intro d
  induction d with
  | zero =>
    intro i hi
    have e' : i = 144 := hi
    subst e'
    exact br_t (nI_le (a := 144) (b := 144) (by omega) (by decide)) hp
  | succ d ih =>
    intro i hi
    have ih' := ih (i + 1) (by omega)
    have es : dg_s (dg_t al se va) (i + 1) = dg_s (dg_t al se va) i + dg_t al se va i := rfl
    have e1 : nI i / 6 = nI (i / 6) := pk_div (d := 6) (by omega) (by decide) (by decide)
    have e2 : nI i - nI i / 6 * 6 = nI (i % 6) := pk_rem (d := 6) (by omega) (by decide) (by decide)
    refine br_f (nI_ge (b := 144) (by omega) (by decide)) ⟨by decide, by decide, ?_⟩
    rw [e2, e1]
    refine dg_get q al se va wi wo ki ta so sy (by omega) _ (fun r hr => ?_)
    rw [es, ← hr] at ih'
    exact nm_e (nm_r (nI_1 i) ih')
theorem i_vc_digest {k : Nat} {u : SX} {v : SY} (I : i_Rel k u v) (hk : k + 4 ≤ 2048) : wpX_digest (fun r => wpY_digest (fun r' => r' = r ∧ i_Rel (k + 4) u v) v) u := by
  have J := i_up I
  obtain ⟨m, al, se, va, wi, wo, ki, ta, so, st, sy, rfl, rfl, R⟩ := I
  unfold wpX_digest wpY_digest
  dsimp only
  exact ⟨25, dg_X (nI m) al se va wi wo ki ta so st _ ⟨145, dg_Y (nI m) al se va wi wo ki ta so sy _ ⟨rfl, J⟩ 144 0 rfl⟩ 24 0 rfl⟩
