/-! the relation: the same state, at most forty baskets held -/
def i_Rel (_k : Nat) (u : SX) (v : SY) : Prop := u = v ∧ ∃ h : Nat, h ≤ 40 ∧ u.1 = nI h
theorem i_up {k : Nat} {u : SX} {v : SY} (h : i_Rel k u v) : i_Rel (k + 3) u v := h
theorem i_vc0 : wpX_init (fun u => wpY_init (fun v => i_Rel 0 u v)) := ⟨rfl, 0, by omega, rfl⟩
theorem zi_mk {k h : Nat} {a : Nat → Int32} (hh : h ≤ 40) : i_Rel k (nI h, a) (nI h, a) := ⟨rfl, h, hh, rfl⟩
theorem zi_cs {k : Nat} {u : SX} {v : SY} (I : i_Rel k u v) : ∃ (h : Nat) (a : Nat → Int32), h ≤ 40 ∧ u = (nI h, a) ∧ v = (nI h, a) := by
  obtain ⟨e, h, hh, eh⟩ := I
  obtain ⟨f, a⟩ := u
  cases eh
  exact ⟨h, a, hh, rfl, e.symm⟩
theorem i_vc_add {k : Nat} {u : SX} {v : SY} (I : i_Rel k u v) (hk : k + 3 ≤ 1536) (v1 : Int32) : wpX_add (fun r u' => wpY_add (fun r' v' => r' = r ∧ i_Rel (k + 3) u' v') v v1) u v1 := by
  obtain ⟨h, a, hh, rfl, rfl⟩ := zi_cs I
  rcases Nat.lt_or_ge h 40 with c | c
  · have h1 : nI h < 40 := nI_lt (b := 40) c (by omega)
    have h2 : ¬ nI h = 40 := fun e => by
      have := (nI_eq (a := h) (b := 40) (by omega) (by omega)).mp e
      omega
    have hv : vp_in (nI h) 40 := vp_in_nI c (by omega)
    exact br_t h1 ⟨hv, nm_e (nm_r (nI_1 h) (br_f h2 ⟨hv, nm_e (nm_r (nI_1 h) ⟨rfl, zi_mk (by omega)⟩)⟩))⟩
  · obtain rfl : h = 40 := by omega
    have h1 : ¬ nI 40 < 40 := by decide
    have h2 : nI 40 = 40 := by decide
    exact br_f h1 (br_t h2 ⟨rfl, zi_mk (by omega)⟩)
theorem zi_drop {postX : Int32 → SX → Prop} {h : Nat} (hh : h + 1 ≤ 40) : ∀ (d i : Nat) (a : Nat → Int32), i + d = h → ∃ b : Nat → Int32, (∀ post : Int32 → SX → Prop, post (nI h) (nI h, b) → wX_drop_18 post (nI (h + 1)) (d + 1) (nI (i + 1)) a) ∧ (∀ post : Int32 → SY → Prop, post (nI h) (nI h, b) → wY_drop_26 post (nI h) (d + 1) (nI i) a) := by
  intro d
  induction d with
  | zero =>
    intro i a hi
    obtain rfl : i = h := by omega
    exact ⟨a, fun post hp => br_t (nI_le (Nat.le_refl _) (by omega)) (nm_r (nI_pred i) hp), fun post hp => br_t (nI_le (Nat.le_refl _) (by omega)) hp⟩
  | succ d ih =>
    intro i a hi
    obtain ⟨b, hX, hY⟩ := ih (i + 1) (upd a i (a (i + 1))) (by omega)
    have v1 : vp_in (nI (i + 1)) 40 := vp_in_nI (by omega) (by omega)
    have v0 : vp_in (nI i) 40 := vp_in_nI (by omega) (by omega)
    have c1 : (nI (i + 1)).toNatClampNeg = i + 1 := nI_clamp (by omega)
    have c0 : (nI i).toNatClampNeg = i := nI_clamp (by omega)
    refine ⟨b, fun post hp => br_f (nI_ge (by omega) (by omega)) ⟨v1, ?_⟩, fun post hp => br_f (nI_ge (by omega) (by omega)) ?_⟩
    · rw [nI_pred, c1, c0]
      exact ⟨v0, nm_e (nm_r (nI_1 (i + 1)) (hX post hp))⟩
    · rw [nI_1, c1, c0]
      exact ⟨v1, v0, nm_e (nm_e (hY post hp))⟩
theorem i_vc_drop {k : Nat} {u : SX} {v : SY} (I : i_Rel k u v) (hk : k + 3 ≤ 1536) (v1 : Int32) : wpX_drop (fun r u' => wpY_drop (fun r' v' => r' = r ∧ i_Rel (k + 3) u' v') v v1) u v1 := by
  obtain ⟨h, a, hh, rfl, rfl⟩ := zi_cs I
  by_cases h0 : v1 < 0
  · exact br_t h0 (br_t h0 ⟨rfl, zi_mk hh⟩)
  · by_cases h1 : v1 < nI h
    · obtain ⟨j, hj, rfl⟩ := nI_of h0
      rw [nI_ltI hj (by omega)] at h1
      obtain ⟨g, rfl⟩ : ∃ g, h = g + 1 := ⟨h - 1, by omega⟩
      obtain ⟨b, hX, hY⟩ := zi_drop (postX := fun _ _ => True) hh (g - j) j a (by omega)
      have h1' : nI j < nI (g + 1) := nI_lt h1 (by omega)
      exact br_f h0 (br_t h1' (nm_r (nI_1 j) ⟨_, hX _ (br_f h0 (br_t h1' (nm_r (nI_pred g) ⟨_, hY _ ⟨rfl, zi_mk (by omega)⟩⟩)))⟩))
    · exact br_f h0 (br_f h1 (br_f h0 (br_f h1 ⟨rfl, zi_mk hh⟩)))
theorem i_vc_support {k : Nat} {u : SX} {v : SY} (I : i_Rel k u v) (hk : k + 3 ≤ 1536) (v1 : Int32) : wpX_support (fun r => wpY_support (fun r' => r' = r ∧ i_Rel (k + 3) u v) v v1) u v1 := by
  obtain ⟨h, a, hh, rfl, rfl⟩ := zi_cs I
  exact zi_supX hh (zi_supY hh ⟨rfl, zi_mk hh⟩)
theorem zi_often {a : Nat → Int32} {h : Nat} (hh : h ≤ 40) (m : Int32) : ∀ (d j : Nat) (c : Int32), 1 ≤ j → j + d = 256 → ∃ r : Int32, (∀ post : Int32 → Prop, post r → wX_often_4 post m (nI h) a (d + 1) c (nI j)) ∧ (∀ post : Int32 → Prop, post r → wY_often_4 post m (nI h) a (d + 1) c (nI j)) := by
  intro d
  induction d with
  | zero =>
    intro j c h1 hj
    exact ⟨c, fun post hp => br_t (zi_gt (by omega) (by omega)) hp, fun post hp => br_t (zi_ge (by omega) (by omega)) hp⟩
  | succ d ih =>
    intro j c h1 hj
    have z : ¬ nI j = 0 := nI_ne0 (by omega) (by omega)
    by_cases o : zi_of a h (nI j) m = 0
    · obtain ⟨r, hX, hY⟩ := ih (j + 1) c (by omega) (by omega)
      exact ⟨r, fun post hp => br_f (zi_ngt (by omega)) (zi_ofX hh (br_t o (nm_r (nI_1 j) (hX post hp)))), fun post hp => br_f (zi_nge (by omega)) (zi_ofY hh z (br_t o (nm_r (nI_1 j) (hY post hp))))⟩
    · obtain ⟨r, hX, hY⟩ := ih (j + 1) (c + 1) (by omega) (by omega)
      exact ⟨r, fun post hp => br_f (zi_ngt (by omega)) (zi_ofX hh (br_f o (nm_e (nm_r (nI_1 j) (hX post hp))))), fun post hp => br_f (zi_nge (by omega)) (zi_ofY hh z (br_f o (nm_e (nm_r (nI_1 j) (hY post hp)))))⟩
theorem i_vc_often {k : Nat} {u : SX} {v : SY} (I : i_Rel k u v) (hk : k + 3 ≤ 1536) (v1 : Int32) : wpX_often (fun r => wpY_often (fun r' => r' = r ∧ i_Rel (k + 3) u v) v v1) u v1 := by
  obtain ⟨h, a, hh, rfl, rfl⟩ := zi_cs I
  obtain ⟨r, hX, hY⟩ := zi_often (a := a) hh v1 255 1 0 (by omega) (by omega)
  exact ⟨_, hX _ ⟨_, hY _ ⟨rfl, zi_mk hh⟩⟩⟩
