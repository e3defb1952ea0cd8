theorem i_vc_frame {k : Nat} {u : SX} {v : SY} (I : i_Rel k u v) (hk : k + 4 ≤ 2048) (v1 : Int32) : wpX_frame (fun r u' => wpY_frame (fun r' v' => r' = r ∧ i_Rel (k + 4) u' v') v v1) u v1 := by
  obtain ⟨m, al, se, va, wi, wo, ki, ta, so, st, sy, rfl, rfl, R⟩ := I
  obtain ⟨y', hy, hL⟩ := sg_wlay (al := al) (va := va) (wi := wi) (wo := wo) (ki := ki) sy R
  have J : ∀ va' : Nat → Int32, i_Rel (k + 4) (nI m, al, se, va', wi, wo, ki, ta, so, st) (nI m, al, se, va', wi, wo, ki, ta, so, y') := fun va' => sm_mk _ _ _ _ _ _ _ _ _ _ _ _ R
  unfold wpX_frame wpY_frame
  dsimp only
  by_cases h0 : v1 < 0
  · have h1 : v1 ≤ 0 := Int32.le_of_lt h0
    exact br_t (Int32.le_trans h1 (by decide)) ⟨1, br_t h1 (hL _ ⟨1, br_f (by decide) (br_t h1 ⟨rfl, J va⟩)⟩)⟩
  · obtain ⟨f, hf, rfl⟩ := nI_of h0
    by_cases h1 : f ≤ 10
    · obtain ⟨r, va', hX, hY⟩ := fr_fr (f := f) (F := f) hf h1 (by omega) (Or.inr rfl) al se wi wo ki ta so st y' R hy f 0 (by omega) 0 va
      exact br_t (nI_le (b := 10) h1 (by decide)) ⟨f + 1, hX _ (hL _ ⟨f + 1, hY _ ⟨rfl, J va'⟩⟩)⟩
    · obtain ⟨r, va', hX, hY⟩ := fr_fr (f := f) (F := 10) hf (by omega) (by omega) (Or.inl rfl) al se wi wo ki ta so st y' R hy 10 0 (by omega) 0 va
      exact br_f (nI_ge (a := 10) (by omega) hf) ⟨11, hX _ (hL _ ⟨11, hY _ ⟨rfl, J va'⟩⟩)⟩
