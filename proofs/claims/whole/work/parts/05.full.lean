/-! bestLargerSupport -/
def zi_bl (a : Nat → Int32) (h : Nat) (s : Int32) : Nat → Int32
  | 0 => -1
  | g + 1 => if zi_lg s g = s then zi_bl a h s g else if nI (zi_sp a (zi_lg s g &&& 255) h) ≤ zi_bl a h s g then zi_bl a h s g else nI (zi_sp a (zi_lg s g &&& 255) h)
theorem zi_blX_l {post : Int32 → Prop} {a : Nat → Int32} {h : Nat} (hh : h ≤ 40) {s : Int32} (hp : post (zi_bl a h s 8)) : ∀ d g : Nat, g + d = 8 → wX_bestLargerSupport_4 post s (nI h) a (d + 1) (zi_bl a h s g) (nI g) := by
  intro d
  induction d with
  | zero =>
    intro g hg
    obtain rfl : g = 8 := by omega
    exact br_t (nI_le (a := 8) (by omega) (by omega)) hp
  | succ d ih =>
    intro g hg
    have W := ih (g + 1) (by omega)
    refine br_f (nI_ge (b := 8) (by omega) (by omega)) (nm_r (e' := zi_lg s g) rfl ?_)
    by_cases c : zi_lg s g = s
    · have e : zi_bl a h s (g + 1) = zi_bl a h s g := if_pos c
      rw [e] at W
      exact br_t c (nm_r (nI_1 g) W)
    · refine br_f c (zi_supX hh ?_)
      by_cases q : nI (zi_sp a (zi_lg s g &&& 255) h) ≤ zi_bl a h s g
      · have e : zi_bl a h s (g + 1) = zi_bl a h s g := (if_neg c).trans (if_pos q)
        rw [e] at W
        exact br_t q (nm_r (nI_1 g) W)
      · have e : zi_bl a h s (g + 1) = nI (zi_sp a (zi_lg s g &&& 255) h) := (if_neg c).trans (if_neg q)
        rw [e] at W
        exact br_f q (nm_r (nI_1 g) W)
theorem zi_blX {post : Int32 → Prop} {a : Nat → Int32} {h : Nat} (hh : h ≤ 40) {s : Int32} (hp : post (zi_bl a h s 8)) : wpX_bestLargerSupport post (nI h, a) s :=
  ⟨9, zi_blX_l hh hp 8 0 (by omega)⟩
theorem zi_bl_iff (a : Nat → Int32) (h : Nat) (s : Int32) {T : Nat} (hT : T < 2 ^ 31) (hh : h ≤ 40) : ∀ g : Nat, nI T ≤ zi_bl a h s g ↔ ∃ i : Nat, i < g ∧ ¬ zi_lg s i = s ∧ T ≤ zi_sp a (zi_lg s i &&& 255) h := by
  intro g
  induction g with
  | zero =>
    constructor
    · intro e
      have e : nI T ≤ -1 := e
      rw [Int32.le_iff_toInt_le, nI_toInt hT] at e
      have e1 : (-1 : Int32).toInt = -1 := by decide
      omega
    · rintro ⟨i, hi, _⟩
      omega
  | succ g ih =>
    have hb : zi_sp a (zi_lg s g &&& 255) h < 2 ^ 31 := by
      have := zi_sp_le a (zi_lg s g &&& 255) h
      omega
    by_cases c : zi_lg s g = s
    · have e : zi_bl a h s (g + 1) = zi_bl a h s g := if_pos c
      rw [e, ih]
      constructor
      · rintro ⟨i, hi, r⟩
        exact ⟨i, by omega, r⟩
      · rintro ⟨i, hi, n, r⟩
        have : i ≠ g := fun e => n (by rw [e]; exact c)
        exact ⟨i, by omega, n, r⟩
    · by_cases q : nI (zi_sp a (zi_lg s g &&& 255) h) ≤ zi_bl a h s g
      · have e : zi_bl a h s (g + 1) = zi_bl a h s g := (if_neg c).trans (if_pos q)
        rw [e]
        constructor
        · intro x
          obtain ⟨i, hi, r⟩ := ih.mp x
          exact ⟨i, by omega, r⟩
        · rintro ⟨i, hi, n, r⟩
          by_cases eg : i = g
          · rw [eg] at r
            exact Int32.le_trans ((nI_leI hT hb).mpr r) q
          · exact ih.mpr ⟨i, by omega, n, r⟩
      · have e : zi_bl a h s (g + 1) = nI (zi_sp a (zi_lg s g &&& 255) h) := (if_neg c).trans (if_neg q)
        rw [e]
        constructor
        · intro x
          exact ⟨g, by omega, c, (nI_leI hT hb).mp x⟩
        · rintro ⟨i, hi, n, r⟩
          by_cases eg : i = g
          · rw [eg] at r
            exact (nI_leI hT hb).mpr r
          · have x := ih.mpr ⟨i, by omega, n, r⟩
            rw [Int32.le_iff_toInt_le] at x q ⊢
            omega
/-! full -/
theorem zi_fullY_l {post : Int32 → Prop} {a : Nat → Int32} {h : Nat} (hh : h ≤ 40) (s n : Int32) : ∀ d j : Nat, j + d = 256 → ((∃ t : Nat, j ≤ t ∧ t < 256 ∧ ¬ nI t = s ∧ nI t &&& s = s ∧ nI (zi_sp a (nI t &&& 255) h) = n) → post 0) → ((¬ ∃ t : Nat, j ≤ t ∧ t < 256 ∧ ¬ nI t = s ∧ nI t &&& s = s ∧ nI (zi_sp a (nI t &&& 255) h) = n) → post 1) → wY_isFull_8 post s n (nI h) a (d + 1) (nI j) := by
  intro d
  induction d with
  | zero =>
    intro j hj _ p1
    exact br_t (zi_ge (by omega) (by omega)) (p1 (by rintro ⟨t, h1, h2, _⟩; omega))
  | succ d ih =>
    intro j hj p0 p1
    have nx : ¬ (¬ nI j = s ∧ nI j &&& s = s ∧ nI (zi_sp a (nI j &&& 255) h) = n) → wY_isFull_8 post s n (nI h) a (d + 1) (nI (j + 1)) := by
      intro nq
      refine ih (j + 1) (by omega) (fun ⟨t, h1, h2, r⟩ => p0 ⟨t, by omega, h2, r⟩) (fun ne => p1 fun ⟨t, h1, h2, r⟩ => ?_)
      by_cases e : t = j
      · rw [e] at r
        exact nq r
      · exact ne ⟨t, by omega, h2, r⟩
    refine br_f (zi_nge (by omega)) ?_
    by_cases c1 : nI j = s
    · exact br_t c1 (nm_r (nI_1 j) (nx fun r => r.1 c1))
    · refine br_f c1 ?_
      by_cases c2 : nI j &&& s = s
      · refine br_t c2 (zi_supY hh ?_)
        by_cases c3 : nI (zi_sp a (nI j &&& 255) h) = n
        · exact br_t c3 (p0 ⟨j, Nat.le_refl j, by omega, c1, c2, c3⟩)
        · exact br_f c3 (nm_r (nI_1 j) (nx fun r => c3 r.2.2))
      · exact br_f c2 (nm_r (nI_1 j) (nx fun r => c2 r.2.1))
theorem zi_fullY {post : Int32 → Prop} {a : Nat → Int32} {h : Nat} (hh : h ≤ 40) {j : Nat} (hj : j < 256) (p0 : nI (zi_sp a (nI j &&& 255) h) ≤ zi_bl a h (nI j) 8 → post 0) (p1 : ¬ nI (zi_sp a (nI j &&& 255) h) ≤ zi_bl a h (nI j) 8 → post 1) : wpY_isFull post (nI h, a) (nI j) := by
  have j8 : (255 : Int32) &&& nI j = nI j := by rw [Int32.and_comm]; exact zi_m hj
  have hb : ∀ s : Int32, zi_sp a s h < 2 ^ 31 := fun s => by
    have := zi_sp_le a s h
    omega
  have K : nI (zi_sp a (nI j &&& 255) h) ≤ zi_bl a h (nI j) 8 ↔ ∃ t : Nat, 0 ≤ t ∧ t < 256 ∧ ¬ nI t = nI j ∧ nI t &&& nI j = nI j ∧ nI (zi_sp a (nI t &&& 255) h) = nI (zi_sp a (nI j &&& 255) h) := by
    rw [zi_bl_iff a h (nI j) (hb _) hh 8, zi_more a h _ j8]
    constructor
    · rintro ⟨t, ht, n, s, r⟩
      refine ⟨t, Nat.zero_le t, ht, n, s, ?_⟩
      have := zi_mono a s h
      rw [zi_m ht, zi_m hj] at r
      rw [zi_m ht, zi_m hj, Nat.le_antisymm this r]
    · rintro ⟨t, _, ht, n, s, r⟩
      exact ⟨t, ht, n, s, Nat.le_of_eq ((nI_eq (hb _) (hb _)).mp r).symm⟩
  unfold wpY_isFull
  dsimp only
  exact zi_supY hh ⟨_, zi_fullY_l hh (nI j) _ 256 0 (by omega) (fun E => p0 (K.mpr E)) (fun E => p1 fun x => E (K.mp x))⟩
theorem zi_full {a : Nat → Int32} {h : Nat} (hh : h ≤ 40) (m : Int32) : ∀ (d j : Nat) (c : Int32), 1 ≤ j → j + d = 256 → ∃ r : Int32, (∀ post : Int32 → Prop, post r → wX_full_4 post m (nI h) a (d + 1) c (nI j)) ∧ (∀ post : Int32 → Prop, post r → wY_full_4 post m (nI h) a (d + 1) c (nI j)) := by
  intro d
  induction d with
  | zero =>
    intro j c h1 hj
    exact ⟨c, fun post hp => br_t (zi_gt (by omega) (by omega)) hp, fun post hp => br_t (zi_ge (by omega) (by omega)) hp⟩
  | succ d ih =>
    intro j c h1 hj
    have z : ¬ nI j = 0 := nI_ne0 (by omega) (by omega)
    by_cases o : zi_of a h (nI j) m = 0
    · obtain ⟨r, hX, hY⟩ := ih (j + 1) c (by omega) (by omega)
      exact ⟨r, fun post hp => br_f (zi_ngt (by omega)) (zi_ofX hh (br_t o (nm_r (nI_1 j) (hX post hp)))), fun post hp => br_f (zi_nge (by omega)) (zi_ofY hh z (br_t o (nm_r (nI_1 j) (hY post hp))))⟩
    · by_cases q : nI (zi_sp a (nI j &&& 255) h) ≤ zi_bl a h (nI j) 8
      · obtain ⟨r, hX, hY⟩ := ih (j + 1) c (by omega) (by omega)
        exact ⟨r, fun post hp => br_f (zi_ngt (by omega)) (zi_ofX hh (br_f o (zi_blX hh (zi_supX hh (br_t q (nm_r (nI_1 j) (hX post hp))))))), fun post hp => br_f (zi_nge (by omega)) (zi_ofY hh z (br_f o (zi_fullY hh (by omega) (fun _ => br_t rfl (nm_r (nI_1 j) (hY post hp))) (fun n => absurd q n))))⟩
      · obtain ⟨r, hX, hY⟩ := ih (j + 1) (c + 1) (by omega) (by omega)
        exact ⟨r, fun post hp => br_f (zi_ngt (by omega)) (zi_ofX hh (br_f o (zi_blX hh (zi_supX hh (br_f q (nm_e (nm_r (nI_1 j) (hX post hp)))))))), fun post hp => br_f (zi_nge (by omega)) (zi_ofY hh z (br_f o (zi_fullY hh (by omega) (fun n => absurd n q) (fun _ => br_f (by decide) (nm_e (nm_r (nI_1 j) (hY post hp)))))))⟩
theorem i_vc_full {k : Nat} {u : SX} {v : SY} (I : i_Rel k u v) (hk : k + 3 ≤ 1536) (v1 : Int32) : wpX_full (fun r => wpY_full (fun r' => r' = r ∧ i_Rel (k + 3) u v) v v1) u v1 := by
  obtain ⟨h, a, hh, rfl, rfl⟩ := zi_cs I
  obtain ⟨r, hX, hY⟩ := zi_full (a := a) hh v1 255 1 0 (by omega) (by omega)
  exact ⟨_, hX _ ⟨_, hY _ ⟨rfl, zi_mk hh⟩⟩⟩
