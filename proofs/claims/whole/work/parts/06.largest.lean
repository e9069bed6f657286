theorem zi_of_iff {a : Nat → Int32} {h T : Nat} (hh : h ≤ 40) (h1 : 1 ≤ T) (hT : T < 2 ^ 31) (s : Int32) : ¬ zi_of a h s (nI T) = 0 ↔ T ≤ zi_sp a (s &&& 255) h := by
  have hb : zi_sp a (s &&& 255) h < 2 ^ 31 := by
    have := zi_sp_le a (s &&& 255) h
    omega
  have n1 : ¬ nI T < 1 := nI_nlt (b := 1) h1 hT
  unfold zi_of
  rw [if_neg n1]
  by_cases c : nI (zi_sp a (s &&& 255) h) < nI T
  · rw [if_pos c]
    rw [nI_ltI hb hT] at c
    exact ⟨fun z => absurd rfl z, fun z => by omega⟩
  · rw [if_neg c]
    rw [nI_ltI hb hT] at c
    exact ⟨fun _ => by omega, fun _ => by decide⟩
theorem zi_of_1 {a : Nat → Int32} {h : Nat} {s m : Int32} (o : ¬ zi_of a h s m = 0) : ∃ T : Nat, 1 ≤ T ∧ T < 2 ^ 31 ∧ m = nI T := by
  by_cases c : m < 1
  · exact absurd (if_pos c) o
  · have h0 : ¬ m < 0 := by
      rw [Int32.lt_iff_toInt_lt] at c ⊢
      have e1 : (1 : Int32).toInt = 1 := by decide
      have e0 : (0 : Int32).toInt = 0 := by decide
      omega
    obtain ⟨T, hT, rfl⟩ := nI_of h0
    refine ⟨T, ?_, hT, rfl⟩
    rcases Nat.lt_or_ge T 1 with b | b
    · exact absurd (nI_lt (b := 1) b (by omega)) c
    · exact b
theorem zi_largestY_l {post : Int32 → Prop} {a : Nat → Int32} {h : Nat} (hh : h ≤ 40) (m : Int32) {s : Int32} (hs : ¬ s = 0) : ∀ d j : Nat, j + d = 256 → ((∃ t : Nat, j ≤ t ∧ t < 256 ∧ ¬ nI t = s ∧ nI t &&& s = s ∧ ¬ zi_of a h (nI t) m = 0) → post 0) → ((¬ ∃ t : Nat, j ≤ t ∧ t < 256 ∧ ¬ nI t = s ∧ nI t &&& s = s ∧ ¬ zi_of a h (nI t) m = 0) → post 1) → wY_isLargest_2 post s m (nI h) a (d + 1) (nI j) := by
  intro d
  induction d with
  | zero =>
    intro j hj _ p1
    exact br_t (zi_ge (by omega) (by omega)) (p1 (by rintro ⟨t, h1, h2, _⟩; omega))
  | succ d ih =>
    intro j hj p0 p1
    have nx : ¬ (¬ nI j = s ∧ nI j &&& s = s ∧ ¬ zi_of a h (nI j) m = 0) → wY_isLargest_2 post s m (nI h) a (d + 1) (nI (j + 1)) := by
      intro nq
      refine ih (j + 1) (by omega) (fun ⟨t, h1, h2, r⟩ => p0 ⟨t, by omega, h2, r⟩) (fun ne => p1 fun ⟨t, h1, h2, r⟩ => ?_)
      by_cases e : t = j
      · rw [e] at r
        exact nq r
      · exact ne ⟨t, by omega, h2, r⟩
    refine br_f (zi_nge (by omega)) ?_
    by_cases c1 : nI j = s
    · exact br_t c1 (nm_r (nI_1 j) (nx fun r => r.1 c1))
    · refine br_f c1 ?_
      by_cases c2 : nI j &&& s = s
      · have z : ¬ nI j = 0 := fun e => hs (by rw [← c2, e, Int32.zero_and])
        refine br_t c2 (zi_ofY hh z ?_)
        by_cases c3 : zi_of a h (nI j) m = 0
        · exact br_t c3 (nm_r (nI_1 j) (nx fun r => r.2.2 c3))
        · exact br_f c3 (p0 ⟨j, Nat.le_refl j, by omega, c1, c2, c3⟩)
      · exact br_f c2 (nm_r (nI_1 j) (nx fun r => c2 r.2.1))
theorem zi_largestY {post : Int32 → Prop} {a : Nat → Int32} {h : Nat} (hh : h ≤ 40) {m : Int32} {j : Nat} (h1 : 1 ≤ j) (hj : j < 256) (o : ¬ zi_of a h (nI j) m = 0) (p0 : m ≤ zi_bl a h (nI j) 8 → post 0) (p1 : ¬ m ≤ zi_bl a h (nI j) 8 → post 1) : wpY_isLargest post (nI h, a) (nI j) m := by
  have j8 : (255 : Int32) &&& nI j = nI j := by rw [Int32.and_comm]; exact zi_m hj
  obtain ⟨T, T1, hT, rfl⟩ := zi_of_1 o
  have K : nI T ≤ zi_bl a h (nI j) 8 ↔ ∃ t : Nat, 0 ≤ t ∧ t < 256 ∧ ¬ nI t = nI j ∧ nI t &&& nI j = nI j ∧ ¬ zi_of a h (nI t) (nI T) = 0 := by
    rw [zi_bl_iff a h (nI j) hT hh 8, zi_more a h _ j8]
    constructor
    · rintro ⟨t, ht, n, s, r⟩
      exact ⟨t, Nat.zero_le t, ht, n, s, (zi_of_iff hh T1 hT _).mpr r⟩
    · rintro ⟨t, _, ht, n, s, r⟩
      exact ⟨t, ht, n, s, (zi_of_iff hh T1 hT _).mp r⟩
  exact ⟨_, zi_largestY_l hh (nI T) (nI_ne0 (by omega) (by omega)) 256 0 (by omega) (fun E => p0 (K.mpr E)) (fun E => p1 fun x => E (K.mp x))⟩
theorem zi_largest {a : Nat → Int32} {h : Nat} (hh : h ≤ 40) (m : Int32) : ∀ (d j : Nat) (c : Int32), 1 ≤ j → j + d = 256 → ∃ r : Int32, (∀ post : Int32 → Prop, post r → wX_largest_4 post m (nI h) a (d + 1) c (nI j)) ∧ (∀ post : Int32 → Prop, post r → wY_largest_4 post m (nI h) a (d + 1) c (nI j)) := by
  intro d
  induction d with
  | zero =>
    intro j c h1 hj
    exact ⟨c, fun post hp => br_t (zi_gt (by omega) (by omega)) hp, fun post hp => br_t (zi_ge (by omega) (by omega)) hp⟩
  | succ d ih =>
    intro j c h1 hj
    have z : ¬ nI j = 0 := nI_ne0 (by omega) (by omega)
    by_cases o : zi_of a h (nI j) m = 0
    · obtain ⟨r, hX, hY⟩ := ih (j + 1) c (by omega) (by omega)
      exact ⟨r, fun post hp => br_f (zi_ngt (by omega)) (zi_ofX hh (br_t o (nm_r (nI_1 j) (hX post hp)))), fun post hp => br_f (zi_nge (by omega)) (zi_ofY hh z (br_t o (nm_r (nI_1 j) (hY post hp))))⟩
    · by_cases q : m ≤ zi_bl a h (nI j) 8
      · obtain ⟨r, hX, hY⟩ := ih (j + 1) c (by omega) (by omega)
        exact ⟨r, fun post hp => br_f (zi_ngt (by omega)) (zi_ofX hh (br_f o (zi_blX hh (br_t q (nm_r (nI_1 j) (hX post hp)))))), fun post hp => br_f (zi_nge (by omega)) (zi_ofY hh z (br_f o (zi_largestY hh h1 (by omega) o (fun _ => br_t rfl (nm_r (nI_1 j) (hY post hp))) (fun n => absurd q n))))⟩
      · obtain ⟨r, hX, hY⟩ := ih (j + 1) (c + 1) (by omega) (by omega)
        exact ⟨r, fun post hp => br_f (zi_ngt (by omega)) (zi_ofX hh (br_f o (zi_blX hh (br_f q (nm_e (nm_r (nI_1 j) (hX post hp))))))), fun post hp => br_f (zi_nge (by omega)) (zi_ofY hh z (br_f o (zi_largestY hh h1 (by omega) o (fun n => absurd n q) (fun _ => br_f (by decide) (nm_e (nm_r (nI_1 j) (hY post hp)))))))⟩
theorem i_vc_largest {k : Nat} {u : SX} {v : SY} (I : i_Rel k u v) (hk : k + 3 ≤ 1536) (v1 : Int32) : wpX_largest (fun r => wpY_largest (fun r' => r' = r ∧ i_Rel (k + 3) u v) v v1) u v1 := by
  obtain ⟨h, a, hh, rfl, rfl⟩ := zi_cs I
  obtain ⟨r, hX, hY⟩ := zi_largest (a := a) hh v1 255 1 0 (by omega) (by omega)
  exact ⟨_, hX _ ⟨_, hY _ ⟨rfl, zi_mk hh⟩⟩⟩
