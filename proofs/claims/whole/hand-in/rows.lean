section
/-! the number of the first h baskets that have all goods of s -/
def zi_sp (a : Nat → Int32) (s : Int32) : Nat → Nat
  | 0 => 0
  | h + 1 => if a h &&& s = s then zi_sp a s h + 1 else zi_sp a s h
theorem zi_sp_t {a : Nat → Int32} {s : Int32} {h : Nat} (c : a h &&& s = s) : zi_sp a s (h + 1) = zi_sp a s h + 1 := if_pos c
theorem zi_sp_f {a : Nat → Int32} {s : Int32} {h : Nat} (c : ¬ a h &&& s = s) : zi_sp a s (h + 1) = zi_sp a s h := if_neg c
theorem zi_sp_le (a : Nat → Int32) (s : Int32) (h : Nat) : zi_sp a s h ≤ h := by
  induction h with
  | zero => exact Nat.le_refl 0
  | succ h ih =>
    by_cases c : a h &&& s = s
    · rw [zi_sp_t c]; omega
    · rw [zi_sp_f c]; omega
theorem zi_supX_l {post : Int32 → Prop} {s : Int32} {a : Nat → Int32} {h : Nat} (hh : h ≤ 40) (hp : post (nI (zi_sp a s h))) : ∀ d i : Nat, i + d = h → wX_support_11 post s (nI h) a (d + 1) (nI (zi_sp a s i)) (nI i) := by
  intro d
  induction d with
  | zero =>
    intro i hi
    obtain rfl : i = h := by omega
    exact br_t (nI_le (Nat.le_refl _) (by omega)) hp
  | succ d ih =>
    intro i hi
    have hn : ¬ nI h ≤ nI i := nI_ge (by omega) (by omega)
    have hv : vp_in (nI i) 40 := vp_in_nI (by omega) (by omega)
    have hc : (nI i).toNatClampNeg = i := nI_clamp (by omega)
    refine br_f hn ⟨hv, ?_⟩
    rw [hc]
    by_cases c : a i &&& s = s
    · have := ih (i + 1) (by omega)
      rw [zi_sp_t c] at this
      exact br_t c (br_f (by decide) (nm_r (nI_1 _) (nm_r (nI_1 i) this)))
    · have := ih (i + 1) (by omega)
      rw [zi_sp_f c] at this
      exact br_f c (br_t rfl (nm_r (nI_1 i) this))
theorem zi_supX {post : Int32 → Prop} {p : Int32} {a : Nat → Int32} {h : Nat} (hh : h ≤ 40) (hp : post (nI (zi_sp a (p &&& 255) h))) : wpX_support post (nI h, a) p :=
  nm_e ⟨h + 1, zi_supX_l hh hp h 0 (by omega)⟩
theorem zi_supY_l {post : Int32 → Prop} {s : Int32} {a : Nat → Int32} {h : Nat} (hh : h ≤ 40) (hp : post (nI (zi_sp a s h))) : ∀ d i : Nat, i + d = h → wY_support_11 post s (nI h) a (d + 1) (nI (zi_sp a s i)) (nI i) := by
  intro d
  induction d with
  | zero =>
    intro i hi
    obtain rfl : i = h := by omega
    exact br_t (nI_le (Nat.le_refl _) (by omega)) hp
  | succ d ih =>
    intro i hi
    have hn : ¬ nI h ≤ nI i := nI_ge (by omega) (by omega)
    have hv : vp_in (nI i) 40 := vp_in_nI (by omega) (by omega)
    have hc : (nI i).toNatClampNeg = i := nI_clamp (by omega)
    refine br_f hn ⟨hv, ?_⟩
    rw [hc]
    by_cases c : a i &&& s = s
    · have := ih (i + 1) (by omega)
      rw [zi_sp_t c] at this
      exact br_t c (nm_r (nI_1 _) (nm_r (nI_1 i) this))
    · have := ih (i + 1) (by omega)
      rw [zi_sp_f c] at this
      exact br_f c (nm_r (nI_1 i) this)
theorem zi_supY {post : Int32 → Prop} {p : Int32} {a : Nat → Int32} {h : Nat} (hh : h ≤ 40) (hp : post (nI (zi_sp a (p &&& 255) h))) : wpY_support post (nI h, a) p :=
  nm_e ⟨h + 1, zi_supY_l hh hp h 0 (by omega)⟩

/-! often, as a number -/
def zi_of (a : Nat → Int32) (h : Nat) (s m : Int32) : Int32 :=
  if m < 1 then 0 else if nI (zi_sp a (s &&& 255) h) < m then 0 else 1
theorem zi_ofX {post : Int32 → Prop} {s m : Int32} {a : Nat → Int32} {h : Nat} (hh : h ≤ 40) (hp : post (zi_of a h s m)) : wpX_isOften post (nI h, a) s m := by
  unfold zi_of at hp
  by_cases c : m < 1
  · rw [if_pos c] at hp
    exact br_t c hp
  · rw [if_neg c] at hp
    refine br_f c (zi_supX hh ?_)
    by_cases e : nI (zi_sp a (s &&& 255) h) < m
    · rw [if_pos e] at hp
      exact br_t e hp
    · rw [if_neg e] at hp
      exact br_f e hp
theorem zi_ofY {post : Int32 → Prop} {s m : Int32} {a : Nat → Int32} {h : Nat} (hh : h ≤ 40) (hs : ¬ s = 0) (hp : post (zi_of a h s m)) : wpY_isOften post (nI h, a) s m := by
  unfold zi_of at hp
  by_cases c : m < 1
  · rw [if_pos c] at hp
    exact br_t c hp
  · rw [if_neg c] at hp
    refine br_f c (br_f hs (zi_supY hh ?_))
    by_cases e : nI (zi_sp a (s &&& 255) h) < m
    · rw [if_pos e] at hp
      exact br_t e hp
    · rw [if_neg e] at hp
      exact br_f e hp

/-! the ends of the loops over the sets -/
theorem zi_gt {j : Nat} (h : 256 ≤ j) (hj : j < 2 ^ 31) : (255 : Int32) < nI j := nI_lt (a := 255) (by omega) hj
theorem zi_ngt {j : Nat} (h : j < 256) : ¬ (255 : Int32) < nI j := nI_nlt (b := j) (a := 255) (by omega) (by omega)
theorem zi_ge {j : Nat} (h : 256 ≤ j) (hj : j < 2 ^ 31) : (256 : Int32) ≤ nI j := nI_le (a := 256) h hj
theorem zi_nge {j : Nat} (h : j < 256) : ¬ (256 : Int32) ≤ nI j := nI_ge (b := 256) h (by omega)
end
section
/-! the relation: the same state, at most forty baskets held -/
def i_Rel (_k : Nat) (u : SX) (v : SY) : Prop := u = v ∧ ∃ h : Nat, h ≤ 40 ∧ u.1 = nI h
theorem i_up {k : Nat} {u : SX} {v : SY} (h : i_Rel k u v) : i_Rel (k + 3) u v := h
theorem i_vc0 : wpX_init (fun u => wpY_init (fun v => i_Rel 0 u v)) := ⟨rfl, 0, by omega, rfl⟩
theorem zi_mk {k h : Nat} {a : Nat → Int32} (hh : h ≤ 40) : i_Rel k (nI h, a) (nI h, a) := ⟨rfl, h, hh, rfl⟩
theorem zi_cs {k : Nat} {u : SX} {v : SY} (I : i_Rel k u v) : ∃ (h : Nat) (a : Nat → Int32), h ≤ 40 ∧ u = (nI h, a) ∧ v = (nI h, a) := by
  obtain ⟨e, h, hh, eh⟩ := I
  obtain ⟨f, a⟩ := u
  cases eh
  exact ⟨h, a, hh, rfl, e.symm⟩
theorem i_vc_add {k : Nat} {u : SX} {v : SY} (I : i_Rel k u v) (hk : k + 3 ≤ 1536) (v1 : Int32) : wpX_add (fun r u' => wpY_add (fun r' v' => r' = r ∧ i_Rel (k + 3) u' v') v v1) u v1 := by
  obtain ⟨h, a, hh, rfl, rfl⟩ := zi_cs I
  rcases Nat.lt_or_ge h 40 with c | c
  · have h1 : nI h < 40 := nI_lt (b := 40) c (by omega)
    have h2 : ¬ nI h = 40 := fun e => by
      have := (nI_eq (a := h) (b := 40) (by omega) (by omega)).mp e
      omega
    have hv : vp_in (nI h) 40 := vp_in_nI c (by omega)
    exact br_t h1 ⟨hv, nm_e (nm_r (nI_1 h) (br_f h2 ⟨hv, nm_e (nm_r (nI_1 h) ⟨rfl, zi_mk (by omega)⟩)⟩))⟩
  · obtain rfl : h = 40 := by omega
    have h1 : ¬ nI 40 < 40 := by decide
    have h2 : nI 40 = 40 := by decide
    exact br_f h1 (br_t h2 ⟨rfl, zi_mk (by omega)⟩)
theorem zi_drop {postX : Int32 → SX → Prop} {h : Nat} (hh : h + 1 ≤ 40) : ∀ (d i : Nat) (a : Nat → Int32), i + d = h → ∃ b : Nat → Int32, (∀ post : Int32 → SX → Prop, post (nI h) (nI h, b) → wX_drop_18 post (nI (h + 1)) (d + 1) (nI (i + 1)) a) ∧ (∀ post : Int32 → SY → Prop, post (nI h) (nI h, b) → wY_drop_26 post (nI h) (d + 1) (nI i) a) := by
  intro d
  induction d with
  | zero =>
    intro i a hi
    obtain rfl : i = h := by omega
    exact ⟨a, fun post hp => br_t (nI_le (Nat.le_refl _) (by omega)) (nm_r (nI_pred i) hp), fun post hp => br_t (nI_le (Nat.le_refl _) (by omega)) hp⟩
  | succ d ih =>
    intro i a hi
    obtain ⟨b, hX, hY⟩ := ih (i + 1) (upd a i (a (i + 1))) (by omega)
    have v1 : vp_in (nI (i + 1)) 40 := vp_in_nI (by omega) (by omega)
    have v0 : vp_in (nI i) 40 := vp_in_nI (by omega) (by omega)
    have c1 : (nI (i + 1)).toNatClampNeg = i + 1 := nI_clamp (by omega)
    have c0 : (nI i).toNatClampNeg = i := nI_clamp (by omega)
    refine ⟨b, fun post hp => br_f (nI_ge (by omega) (by omega)) ⟨v1, ?_⟩, fun post hp => br_f (nI_ge (by omega) (by omega)) ?_⟩
    · rw [nI_pred, c1, c0]
      exact ⟨v0, nm_e (nm_r (nI_1 (i + 1)) (hX post hp))⟩
    · rw [nI_1, c1, c0]
      exact ⟨v1, v0, nm_e (nm_e (hY post hp))⟩
theorem i_vc_drop {k : Nat} {u : SX} {v : SY} (I : i_Rel k u v) (hk : k + 3 ≤ 1536) (v1 : Int32) : wpX_drop (fun r u' => wpY_drop (fun r' v' => r' = r ∧ i_Rel (k + 3) u' v') v v1) u v1 := by
  obtain ⟨h, a, hh, rfl, rfl⟩ := zi_cs I
  by_cases h0 : v1 < 0
  · exact br_t h0 (br_t h0 ⟨rfl, zi_mk hh⟩)
  · by_cases h1 : v1 < nI h
    · obtain ⟨j, hj, rfl⟩ := nI_of h0
      rw [nI_ltI hj (by omega)] at h1
      obtain ⟨g, rfl⟩ : ∃ g, h = g + 1 := ⟨h - 1, by omega⟩
      obtain ⟨b, hX, hY⟩ := zi_drop (postX := fun _ _ => True) hh (g - j) j a (by omega)
      have h1' : nI j < nI (g + 1) := nI_lt h1 (by omega)
      exact br_f h0 (br_t h1' (nm_r (nI_1 j) ⟨_, hX _ (br_f h0 (br_t h1' (nm_r (nI_pred g) ⟨_, hY _ ⟨rfl, zi_mk (by omega)⟩⟩)))⟩))
    · exact br_f h0 (br_f h1 (br_f h0 (br_f h1 ⟨rfl, zi_mk hh⟩)))
theorem i_vc_support {k : Nat} {u : SX} {v : SY} (I : i_Rel k u v) (hk : k + 3 ≤ 1536) (v1 : Int32) : wpX_support (fun r => wpY_support (fun r' => r' = r ∧ i_Rel (k + 3) u v) v v1) u v1 := by
  obtain ⟨h, a, hh, rfl, rfl⟩ := zi_cs I
  exact zi_supX hh (zi_supY hh ⟨rfl, zi_mk hh⟩)
theorem zi_often {a : Nat → Int32} {h : Nat} (hh : h ≤ 40) (m : Int32) : ∀ (d j : Nat) (c : Int32), 1 ≤ j → j + d = 256 → ∃ r : Int32, (∀ post : Int32 → Prop, post r → wX_often_4 post m (nI h) a (d + 1) c (nI j)) ∧ (∀ post : Int32 → Prop, post r → wY_often_4 post m (nI h) a (d + 1) c (nI j)) := by
  intro d
  induction d with
  | zero =>
    intro j c h1 hj
    exact ⟨c, fun post hp => br_t (zi_gt (by omega) (by omega)) hp, fun post hp => br_t (zi_ge (by omega) (by omega)) hp⟩
  | succ d ih =>
    intro j c h1 hj
    have z : ¬ nI j = 0 := nI_ne0 (by omega) (by omega)
    by_cases o : zi_of a h (nI j) m = 0
    · obtain ⟨r, hX, hY⟩ := ih (j + 1) c (by omega) (by omega)
      exact ⟨r, fun post hp => br_f (zi_ngt (by omega)) (zi_ofX hh (br_t o (nm_r (nI_1 j) (hX post hp)))), fun post hp => br_f (zi_nge (by omega)) (zi_ofY hh z (br_t o (nm_r (nI_1 j) (hY post hp))))⟩
    · obtain ⟨r, hX, hY⟩ := ih (j + 1) (c + 1) (by omega) (by omega)
      exact ⟨r, fun post hp => br_f (zi_ngt (by omega)) (zi_ofX hh (br_f o (nm_e (nm_r (nI_1 j) (hX post hp))))), fun post hp => br_f (zi_nge (by omega)) (zi_ofY hh z (br_f o (nm_e (nm_r (nI_1 j) (hY post hp)))))⟩
theorem i_vc_often {k : Nat} {u : SX} {v : SY} (I : i_Rel k u v) (hk : k + 3 ≤ 1536) (v1 : Int32) : wpX_often (fun r => wpY_often (fun r' => r' = r ∧ i_Rel (k + 3) u v) v v1) u v1 := by
  obtain ⟨h, a, hh, rfl, rfl⟩ := zi_cs I
  obtain ⟨r, hX, hY⟩ := zi_often (a := a) hh v1 255 1 0 (by omega) (by omega)
  exact ⟨_, hX _ ⟨_, hY _ ⟨rfl, zi_mk hh⟩⟩⟩
end
section
/-! size -/
theorem zi_goods_l (s : Int32) : ∀ (d g : Nat) (c : Int32), g + d = 8 → ∃ r : Int32, (∀ post : Int32 → Prop, post r → wX_goodsIn_4 post s (d + 1) c (nI g)) ∧ (∀ post : Int32 → Prop, post r → wY_goods_4 post s (d + 1) c (nI g)) := by
  intro d
  induction d with
  | zero =>
    intro g c hg
    have e : (8 : Int32) ≤ nI g := nI_le (a := 8) (by omega) (by omega)
    exact ⟨c, fun post hp => br_t e hp, fun post hp => br_t e hp⟩
  | succ d ih =>
    intro g c hg
    have e : ¬ (8 : Int32) ≤ nI g := nI_ge (b := 8) (by omega) (by omega)
    obtain ⟨r, hX, hY⟩ := ih (g + 1) (c + ((s >>> (nI g &&& 31)) &&& 1)) (by omega)
    exact ⟨r, fun post hp => br_f e (nm_e (nm_r (nI_1 g) (hX post hp))), fun post hp => br_f e (nm_e (nm_r (nI_1 g) (hY post hp)))⟩
theorem zi_goods (s : Int32) : ∃ r : Int32, (∀ post : Int32 → Prop, post r → wpX_goodsIn post s) ∧ (∀ post : Int32 → Prop, post r → wpY_goods post s) := by
  obtain ⟨r, hX, hY⟩ := zi_goods_l s 8 0 0 (by omega)
  exact ⟨r, fun post hp => ⟨_, hX post hp⟩, fun post hp => ⟨_, hY post hp⟩⟩
theorem zi_size {a : Nat → Int32} {h : Nat} (hh : h ≤ 40) (m : Int32) : ∀ (d j : Nat) (c : Int32), 1 ≤ j → j + d = 256 → ∃ r : Int32, (∀ post : Int32 → Prop, post r → wX_size_4 post m (nI h) a (d + 1) c (nI j)) ∧ (∀ post : Int32 → Prop, post r → wY_size_4 post m (nI h) a (d + 1) c (nI j)) := by
  intro d
  induction d with
  | zero =>
    intro j c h1 hj
    exact ⟨c, fun post hp => br_t (zi_gt (by omega) (by omega)) hp, fun post hp => br_t (zi_ge (by omega) (by omega)) hp⟩
  | succ d ih =>
    intro j c h1 hj
    have z : ¬ nI j = 0 := nI_ne0 (by omega) (by omega)
    obtain ⟨g, gX, gY⟩ := zi_goods (nI j)
    by_cases q : g ≤ c
    · obtain ⟨r, hX, hY⟩ := ih (j + 1) c (by omega) (by omega)
      exact ⟨r, fun post hp => br_f (zi_ngt (by omega)) (gX _ (br_t q (nm_r (nI_1 j) (hX post hp)))), fun post hp => br_f (zi_nge (by omega)) (gY _ (br_t q (nm_r (nI_1 j) (hY post hp))))⟩
    · by_cases o : zi_of a h (nI j) m = 0
      · obtain ⟨r, hX, hY⟩ := ih (j + 1) c (by omega) (by omega)
        exact ⟨r, fun post hp => br_f (zi_ngt (by omega)) (gX _ (br_f q (zi_ofX hh (br_t o (nm_r (nI_1 j) (hX post hp)))))), fun post hp => br_f (zi_nge (by omega)) (gY _ (br_f q (zi_ofY hh z (br_t o (nm_r (nI_1 j) (hY post hp))))))⟩
      · obtain ⟨r, hX, hY⟩ := ih (j + 1) g (by omega) (by omega)
        exact ⟨r, fun post hp => br_f (zi_ngt (by omega)) (gX _ (br_f q (zi_ofX hh (br_f o (nm_r (nI_1 j) (hX post hp)))))), fun post hp => br_f (zi_nge (by omega)) (gY _ (br_f q (zi_ofY hh z (br_f o (nm_r (nI_1 j) (hY post hp))))))⟩
theorem i_vc_size {k : Nat} {u : SX} {v : SY} (I : i_Rel k u v) (hk : k + 3 ≤ 1536) (v1 : Int32) : wpX_size (fun r => wpY_size (fun r' => r' = r ∧ i_Rel (k + 3) u v) v v1) u v1 := by
  obtain ⟨h, a, hh, rfl, rfl⟩ := zi_cs I
  obtain ⟨r, hX, hY⟩ := zi_size (a := a) hh v1 255 1 0 (by omega) (by omega)
  exact ⟨_, hX _ ⟨_, hY _ ⟨rfl, zi_mk hh⟩⟩⟩

/-! next -/
theorem zi_nlt {f : Int32} {j : Nat} (h : f.toInt ≤ j) (hj : j < 2 ^ 31) : ¬ nI j < f := by
  rw [Int32.lt_iff_toInt_lt, nI_toInt hj]
  omega
theorem zi_next {a : Nat → Int32} {h : Nat} (hh : h ≤ 40) (m f : Int32) : ∀ d j : Nat, 1 ≤ j → f.toInt ≤ j → j + d = 256 → ∃ r : Int32, (∀ post : Int32 → Prop, post r → wX_next_14 post m (nI h) a (d + 1) (nI j)) ∧ (∀ post : Int32 → Prop, post r → wY_next_2 post m f (nI h) a (d + 1) (nI j)) := by
  intro d
  induction d with
  | zero =>
    intro j h1 hf hj
    exact ⟨-1, fun post hp => br_t (zi_gt (by omega) (by omega)) hp, fun post hp => br_t (zi_ge (by omega) (by omega)) hp⟩
  | succ d ih =>
    intro j h1 hf hj
    have z : ¬ nI j = 0 := nI_ne0 (by omega) (by omega)
    have l : ¬ nI j < f := zi_nlt hf (by omega)
    by_cases o : zi_of a h (nI j) m = 0
    · obtain ⟨r, hX, hY⟩ := ih (j + 1) (by omega) (by omega) (by omega)
      exact ⟨r, fun post hp => br_f (zi_ngt (by omega)) (zi_ofX hh (br_t o (nm_r (nI_1 j) (hX post hp)))), fun post hp => br_f (zi_nge (by omega)) (br_f l (zi_ofY hh z (br_t o (nm_r (nI_1 j) (hY post hp)))))⟩
    · exact ⟨nI j, fun post hp => br_f (zi_ngt (by omega)) (zi_ofX hh (br_f o hp)), fun post hp => br_f (zi_nge (by omega)) (br_f l (zi_ofY hh z (br_f o hp)))⟩
theorem zi_skip {post : Int32 → Prop} {a : Nat → Int32} {H m : Int32} {q n e : Nat} (he : e ≤ 256) (hq : e ≤ q) (hb : q < 2 ^ 31) (w : wY_next_2 post m (nI q) H a n (nI e)) : ∀ d j : Nat, j + d = e → wY_next_2 post m (nI q) H a (n + d) (nI j) := by
  intro d
  induction d with
  | zero =>
    intro j hj
    obtain rfl : j = e := by omega
    exact w
  | succ d ih =>
    intro j hj
    show wY_next_2 post m (nI q) H a ((n + d) + 1) (nI j)
    exact br_f (zi_nge (by omega)) (br_t (nI_lt (by omega) hb) (nm_r (nI_1 j) (ih (j + 1) (by omega))))
theorem i_vc_next {k : Nat} {u : SX} {v : SY} (I : i_Rel k u v) (hk : k + 3 ≤ 1536) (v1 : Int32) (v2 : Int32) : wpX_next (fun r => wpY_next (fun r' => r' = r ∧ i_Rel (k + 3) u v) v v1 v2) u v1 v2 := by
  obtain ⟨h, a, hh, rfl, rfl⟩ := zi_cs I
  by_cases c : 1 ≤ v2
  · have h0 : ¬ v2 < 0 := by
      rw [Int32.lt_iff_toInt_lt]
      rw [Int32.le_iff_toInt_le] at c
      have e1 : (1 : Int32).toInt = 1 := by decide
      have e0 : (0 : Int32).toInt = 0 := by decide
      omega
    obtain ⟨q, hq, rfl⟩ := nI_of h0
    have h1 : 1 ≤ q := (nI_leI (a := 1) (by omega) hq).mp c
    rcases Nat.lt_or_ge q 256 with b | b
    · obtain ⟨r, hX, hY⟩ := zi_next (a := a) hh v1 (nI q) (256 - q) q h1 (by rw [nI_toInt hq]; omega) (by omega)
      exact br_t c ⟨_, hX _ ⟨_, zi_skip (e := q) (by omega) (by omega) hq (hY _ ⟨rfl, zi_mk hh⟩) (q - 1) 1 (by omega)⟩⟩
    · have w : ∀ post : Int32 → Prop, post (-1) → wY_next_2 post v1 (nI q) (nI h) a 1 (nI 256) := fun post hp => br_t (zi_ge (by omega) (by omega)) hp
      exact br_t c ⟨1, br_t (zi_gt b hq) ⟨_, zi_skip (e := 256) (by omega) (by omega) hq (w _ ⟨rfl, zi_mk hh⟩) 255 1 (by omega)⟩⟩
  · have hf : v2.toInt ≤ (1 : Nat) := by
      rw [Int32.le_iff_toInt_le] at c
      have e1 : (1 : Int32).toInt = 1 := by decide
      omega
    obtain ⟨r, hX, hY⟩ := zi_next (a := a) hh v1 v2 255 1 (by omega) hf (by omega)
    exact br_f c ⟨_, hX _ ⟨_, hY _ ⟨rfl, zi_mk hh⟩⟩⟩

/-! rules -/
theorem zi_rw {a : Nat → Int32} {h : Nat} (hh : h ≤ 40) (p : Int32) (R : Int64) {s : Nat} (hs : s < 256) : ∀ (d x : Nat) (c : Int32), x + d = s → ∃ r : Int32, (∀ post : Int32 → Prop, post r → wX_rulesWithin_17 post (nI s) p R (nI h) a (d + 1) c (nI x)) ∧ (∀ (post : Int32 → Prop) (J : Int32 → Int32 → Prop) (m b : Int32), J (b + r) (nI (s + 1)) → wY_rules_39 post J m p (nI s) R (nI h) a (d + 1) (b + c) (nI x)) := by
  intro d
  induction d with
  | zero =>
    intro x c hx
    have e : nI s ≤ nI x := nI_le (by omega) (by omega)
    exact ⟨c, fun post hp => br_t e hp, fun post J m b hp => br_t e (nm_r (nI_1 s) hp)⟩
  | succ d ih =>
    intro x c hx
    have e : ¬ nI s ≤ nI x := nI_ge (by omega) (by omega)
    by_cases q : nI s &&& nI x = nI x
    · have q' : nI x &&& nI s = nI x := by rw [Int32.and_comm]; exact q
      by_cases w : R < p.toInt64 * (nI (zi_sp a (nI x &&& 255) h)).toInt64
      · obtain ⟨r, hX, hY⟩ := ih (x + 1) c (by omega)
        exact ⟨r, fun post hp => br_f e (br_t q (br_f (by decide) (zi_supX hh (br_t w (nm_r (nI_1 x) (hX post hp)))))), fun post J m b hp => br_f e (br_t q' (zi_supY hh (br_t w (nm_r (nI_1 x) (hY post J m b hp)))))⟩
      · obtain ⟨r, hX, hY⟩ := ih (x + 1) (c + 1) (by omega)
        exact ⟨r, fun post hp => br_f e (br_t q (br_f (by decide) (zi_supX hh (br_f w (nm_e (nm_r (nI_1 x) (hX post hp))))))), fun post J m b hp => br_f e (br_t q' (zi_supY hh (br_f w (nm_r (Int32.add_assoc b c 1) (nm_r (nI_1 x) (hY post J m b hp))))))⟩
    · have q' : ¬ nI x &&& nI s = nI x := by rw [Int32.and_comm]; exact q
      obtain ⟨r, hX, hY⟩ := ih (x + 1) c (by omega)
      exact ⟨r, fun post hp => br_f e (br_f q (br_t rfl (nm_r (nI_1 x) (hX post hp)))), fun post J m b hp => br_f e (br_f q' (nm_r (nI_1 x) (hY post J m b hp)))⟩
theorem zi_rw1 {a : Nat → Int32} {h : Nat} (hh : h ≤ 40) (p : Int32) {s : Nat} (h1 : 1 ≤ s) (hs : s < 256) : ∃ r : Int32, (∀ post : Int32 → Prop, post r → wpX_rulesWithin post (nI h, a) (nI s) p) ∧ (∀ (post : Int32 → Prop) (J : Int32 → Int32 → Prop) (m b : Int32), J (b + r) (nI (s + 1)) → ∃ n : Nat, wY_rules_39 post J m p (nI s) (100 * (nI (zi_sp a (nI s &&& 255) h)).toInt64) (nI h) a n b 1) := by
  obtain ⟨r, hX, hY⟩ := zi_rw (a := a) hh p (100 * (nI (zi_sp a (nI s &&& 255) h)).toInt64) hs (s - 1) 1 0 (by omega)
  refine ⟨r, fun post hp => ?_, fun post J m b hp => ?_⟩
  · unfold wpX_rulesWithin
    dsimp only
    exact zi_supX hh (nm_e ⟨_, hX post hp⟩)
  · have := hY post J m b hp
    rw [Int32.add_zero] at this
    exact ⟨_, this⟩
theorem zi_rules {a : Nat → Int32} {h : Nat} (hh : h ≤ 40) (m p : Int32) : ∀ (d j : Nat) (c : Int32), 1 ≤ j → j + d = 256 → ∃ r : Int32, (∀ post : Int32 → Prop, post r → wX_rules_5 post m p (nI h) a (d + 1) c (nI j)) ∧ (∀ post : Int32 → Prop, post r → wY_rules_5 post m p (nI h) a (d + 1) c (nI j)) := by
  intro d
  induction d with
  | zero =>
    intro j c h1 hj
    exact ⟨c, fun post hp => br_t (zi_gt (by omega) (by omega)) hp, fun post hp => br_t (zi_ge (by omega) (by omega)) hp⟩
  | succ d ih =>
    intro j c h1 hj
    have z : ¬ nI j = 0 := nI_ne0 (by omega) (by omega)
    by_cases o : zi_of a h (nI j) m = 0
    · obtain ⟨r, hX, hY⟩ := ih (j + 1) c (by omega) (by omega)
      exact ⟨r, fun post hp => br_f (zi_ngt (by omega)) (zi_ofX hh (br_t o (nm_r (nI_1 j) (hX post hp)))), fun post hp => br_f (zi_nge (by omega)) (zi_ofY hh z (br_t o (nm_r (nI_1 j) (hY post hp))))⟩
    · obtain ⟨w, wX, wY⟩ := zi_rw1 (a := a) hh p h1 (by omega : j < 256)
      obtain ⟨r, hX, hY⟩ := ih (j + 1) (c + w) (by omega) (by omega)
      exact ⟨r, fun post hp => br_f (zi_ngt (by omega)) (zi_ofX hh (br_f o (wX _ (nm_e (nm_r (nI_1 j) (hX post hp)))))), fun post hp => br_f (zi_nge (by omega)) (zi_ofY hh z (br_f o (zi_supY hh (nm_e (wY post _ m c (hY post hp))))))⟩
theorem i_vc_rules {k : Nat} {u : SX} {v : SY} (I : i_Rel k u v) (hk : k + 3 ≤ 1536) (v1 : Int32) (v2 : Int32) : wpX_rules (fun r => wpY_rules (fun r' => r' = r ∧ i_Rel (k + 3) u v) v v1 v2) u v1 v2 := by
  obtain ⟨h, a, hh, rfl, rfl⟩ := zi_cs I
  obtain ⟨r, hX, hY⟩ := zi_rules (a := a) hh v1 v2 255 1 0 (by omega) (by omega)
  exact ⟨_, hX _ ⟨_, hY _ ⟨rfl, zi_mk hh⟩⟩⟩
end
section
/-! bits (bt, b_ext, b_or, b_and, b_big, b_255, s_l, b_shl: rows of kit/rows) -/
def bt (x : Int32) (i : Nat) : Bool := x.toBitVec.getLsbD i
theorem b_ext {x y : Int32} (h : ∀ i, i < 32 → bt x i = bt y i) : x = y := Int32.toBitVec_inj.mp (BitVec.eq_of_getLsbD_eq (fun i hi => h i hi))
theorem b_or (x y : Int32) (i : Nat) : bt (x ||| y) i = (bt x i || bt y i) := by unfold bt; rw [Int32.toBitVec_or, BitVec.getLsbD_or]
theorem b_and (x y : Int32) (i : Nat) : bt (x &&& y) i = (bt x i && bt y i) := by unfold bt; rw [Int32.toBitVec_and, BitVec.getLsbD_and]
theorem b_big {x : Int32} {i : Nat} (h : 32 ≤ i) : bt x i = false := BitVec.getLsbD_of_ge _ _ h
theorem b_255 (i : Nat) : bt 255 i = decide (i < 8) := by
  rcases Nat.lt_or_ge i 32 with h | h
  · exact (by decide +kernel : ∀ i, i < 32 → bt 255 i = decide (i < 8)) i h
  · rw [b_big h, decide_eq_false (by omega)]
/-! x &&& y = y: x has all goods of y -/
theorem zi_has {x y : Int32} : x &&& y = y ↔ ∀ i, i < 32 → bt y i = true → bt x i = true := by
  constructor
  · intro e i _ hy
    rw [← e, b_and] at hy
    exact (Bool.and_eq_true_iff.mp hy).1
  · intro H
    refine b_ext fun i hi => ?_
    rw [b_and]
    cases hy : bt y i with
    | false => rw [Bool.and_false]
    | true => rw [H i hi hy, Bool.and_true]
theorem zi_tr {x y w : Int32} (h1 : x &&& y = y) (h2 : y &&& w = w) : x &&& w = w :=
  zi_has.mpr fun i hi hw => zi_has.mp h1 i hi (zi_has.mp h2 i hi hw)
theorem zi_rf (x : Int32) : x &&& x = x := zi_has.mpr fun _ _ h => h
theorem zi_as {x y : Int32} (h1 : x &&& y = y) (h2 : y &&& x = x) : x = y := by
  rw [← h2, Int32.and_comm, h1]
theorem zi_mono (a : Nat → Int32) {x y : Int32} (e : x &&& y = y) (h : Nat) : zi_sp a x h ≤ zi_sp a y h := by
  induction h with
  | zero => exact Nat.le_refl 0
  | succ h ih =>
    by_cases c : a h &&& x = x
    · rw [zi_sp_t c, zi_sp_t (zi_tr c e)]; omega
    · rw [zi_sp_f c]
      by_cases d : a h &&& y = y
      · rw [zi_sp_t d]; omega
      · rw [zi_sp_f d]; exact ih
/-! sets of goods are the numbers below 256 -/
theorem zi_m {t : Nat} (h : t < 256) : nI t &&& 255 = nI t :=
  (by decide +kernel : ∀ t, t < 256 → nI t &&& 255 = nI t) t h
theorem zi_of8 {x : Int32} (h : (255 : Int32) &&& x = x) : ∃ t : Nat, t < 256 ∧ x = nI t := by
  have e : x.toBitVec.toNat < 256 := by
    rw [← h, Int32.toBitVec_and, BitVec.toNat_and]
    exact Nat.lt_of_le_of_lt Nat.and_le_left (by decide)
  refine ⟨x.toBitVec.toNat, e, ?_⟩
  apply Int32.toBitVec_inj.mp
  show x.toBitVec = BitVec.ofNat 32 x.toBitVec.toNat
  rw [BitVec.ofNat_toNat, BitVec.setWidth_eq]
/-! one good more -/
def zi_lg (s : Int32) (g : Nat) : Int32 := s ||| ((1 : Int32) <<< (nI g &&& 31))
theorem zi_b1 : ∀ g, g < 8 → ∀ i, i < 32 → bt ((1 : Int32) <<< (nI g &&& 31)) i = decide (i = g) := by decide +kernel
theorem zi_b_lg {s : Int32} {g : Nat} (hg : g < 8) {i : Nat} (hi : i < 32) : bt (zi_lg s g) i = (bt s i || decide (i = g)) := by
  unfold zi_lg
  rw [b_or, zi_b1 g hg i hi]
theorem zi_lg_has {s : Int32} {g : Nat} (hg : g < 8) : zi_lg s g &&& s = s :=
  zi_has.mpr fun i hi h => by rw [zi_b_lg hg hi, h, Bool.true_or]
theorem zi_lg_8 {s : Int32} {g : Nat} (hs : (255 : Int32) &&& s = s) (hg : g < 8) : (255 : Int32) &&& zi_lg s g = zi_lg s g :=
  zi_has.mpr fun i hi h => by
    rw [zi_b_lg hg hi] at h
    rcases Bool.or_eq_true_iff.mp h with c | c
    · exact zi_has.mp hs i hi c
    · rw [b_255]
      have := of_decide_eq_true c
      exact decide_eq_true (by omega)
/-! a set larger than s has a good that s lacks -/
theorem zi_lg_ex {s t : Int32} (ht : (255 : Int32) &&& t = t) (hs : t &&& s = s) (hn : ¬ t = s) : ∃ g : Nat, g < 8 ∧ ¬ zi_lg s g = s ∧ t &&& zi_lg s g = zi_lg s g := by
  by_cases E : ∃ i : Nat, i < 32 ∧ bt t i = true ∧ bt s i = false
  · obtain ⟨i, hi, h1, h0⟩ := E
    have h8 := zi_has.mp ht i hi h1
    rw [b_255] at h8
    have h8 := of_decide_eq_true h8
    refine ⟨i, h8, fun e => ?_, zi_has.mpr fun b hb h => ?_⟩
    · have := zi_b_lg (s := s) h8 hi
      rw [e, h0, decide_eq_true rfl] at this
      cases this
    · rw [zi_b_lg h8 hb] at h
      rcases Bool.or_eq_true_iff.mp h with c | c
      · exact zi_has.mp hs b hb c
      · rw [of_decide_eq_true c]; exact h1
  · refine absurd (zi_as hs (zi_has.mpr fun i hi h => ?_)) hn
    cases hb : bt s i with
    | true => rfl
    | false => exact absurd ⟨i, hi, h, hb⟩ E
/-! a larger set that T baskets have is there just if one with one good more is -/
theorem zi_more (a : Nat → Int32) (h T : Nat) {s : Int32} (h8 : (255 : Int32) &&& s = s) : (∃ g : Nat, g < 8 ∧ ¬ zi_lg s g = s ∧ T ≤ zi_sp a (zi_lg s g &&& 255) h) ↔ ∃ t : Nat, t < 256 ∧ ¬ nI t = s ∧ nI t &&& s = s ∧ T ≤ zi_sp a (nI t &&& 255) h := by
  constructor
  · rintro ⟨g, hg, hn, hT⟩
    obtain ⟨t, ht, e⟩ := zi_of8 (zi_lg_8 h8 hg)
    rw [e] at hn hT
    exact ⟨t, ht, hn, by rw [← e]; exact zi_lg_has hg, hT⟩
  · rintro ⟨t, ht, hn, hs, hT⟩
    have t8 : (255 : Int32) &&& nI t = nI t := by rw [Int32.and_comm]; exact zi_m ht
    obtain ⟨g, hg, gn, gt⟩ := zi_lg_ex t8 hs hn
    refine ⟨g, hg, gn, Nat.le_trans hT ?_⟩
    rw [zi_m ht, Int32.and_comm, zi_lg_8 h8 hg]
    exact zi_mono a gt h
end
section
/-! bestLargerSupport -/
def zi_bl (a : Nat → Int32) (h : Nat) (s : Int32) : Nat → Int32
  | 0 => -1
  | g + 1 => if zi_lg s g = s then zi_bl a h s g else if nI (zi_sp a (zi_lg s g &&& 255) h) ≤ zi_bl a h s g then zi_bl a h s g else nI (zi_sp a (zi_lg s g &&& 255) h)
theorem zi_blX_l {post : Int32 → Prop} {a : Nat → Int32} {h : Nat} (hh : h ≤ 40) {s : Int32} (hp : post (zi_bl a h s 8)) : ∀ d g : Nat, g + d = 8 → wX_bestLargerSupport_4 post s (nI h) a (d + 1) (zi_bl a h s g) (nI g) := by
  intro d
  induction d with
  | zero =>
    intro g hg
    obtain rfl : g = 8 := by omega
    exact br_t (nI_le (a := 8) (by omega) (by omega)) hp
  | succ d ih =>
    intro g hg
    have W := ih (g + 1) (by omega)
    refine br_f (nI_ge (b := 8) (by omega) (by omega)) (nm_r (e' := zi_lg s g) rfl ?_)
    by_cases c : zi_lg s g = s
    · have e : zi_bl a h s (g + 1) = zi_bl a h s g := if_pos c
      rw [e] at W
      exact br_t c (nm_r (nI_1 g) W)
    · refine br_f c (zi_supX hh ?_)
      by_cases q : nI (zi_sp a (zi_lg s g &&& 255) h) ≤ zi_bl a h s g
      · have e : zi_bl a h s (g + 1) = zi_bl a h s g := (if_neg c).trans (if_pos q)
        rw [e] at W
        exact br_t q (nm_r (nI_1 g) W)
      · have e : zi_bl a h s (g + 1) = nI (zi_sp a (zi_lg s g &&& 255) h) := (if_neg c).trans (if_neg q)
        rw [e] at W
        exact br_f q (nm_r (nI_1 g) W)
theorem zi_blX {post : Int32 → Prop} {a : Nat → Int32} {h : Nat} (hh : h ≤ 40) {s : Int32} (hp : post (zi_bl a h s 8)) : wpX_bestLargerSupport post (nI h, a) s :=
  ⟨9, zi_blX_l hh hp 8 0 (by omega)⟩
theorem zi_bl_iff (a : Nat → Int32) (h : Nat) (s : Int32) {T : Nat} (hT : T < 2 ^ 31) (hh : h ≤ 40) : ∀ g : Nat, nI T ≤ zi_bl a h s g ↔ ∃ i : Nat, i < g ∧ ¬ zi_lg s i = s ∧ T ≤ zi_sp a (zi_lg s i &&& 255) h := by
  intro g
  induction g with
  | zero =>
    constructor
    · intro e
      have e : nI T ≤ -1 := e
      rw [Int32.le_iff_toInt_le, nI_toInt hT] at e
      have e1 : (-1 : Int32).toInt = -1 := by decide
      omega
    · rintro ⟨i, hi, _⟩
      omega
  | succ g ih =>
    have hb : zi_sp a (zi_lg s g &&& 255) h < 2 ^ 31 := by
      have := zi_sp_le a (zi_lg s g &&& 255) h
      omega
    by_cases c : zi_lg s g = s
    · have e : zi_bl a h s (g + 1) = zi_bl a h s g := if_pos c
      rw [e, ih]
      constructor
      · rintro ⟨i, hi, r⟩
        exact ⟨i, by omega, r⟩
      · rintro ⟨i, hi, n, r⟩
        have : i ≠ g := fun e => n (by rw [e]; exact c)
        exact ⟨i, by omega, n, r⟩
    · by_cases q : nI (zi_sp a (zi_lg s g &&& 255) h) ≤ zi_bl a h s g
      · have e : zi_bl a h s (g + 1) = zi_bl a h s g := (if_neg c).trans (if_pos q)
        rw [e]
        constructor
        · intro x
          obtain ⟨i, hi, r⟩ := ih.mp x
          exact ⟨i, by omega, r⟩
        · rintro ⟨i, hi, n, r⟩
          by_cases eg : i = g
          · rw [eg] at r
            exact Int32.le_trans ((nI_leI hT hb).mpr r) q
          · exact ih.mpr ⟨i, by omega, n, r⟩
      · have e : zi_bl a h s (g + 1) = nI (zi_sp a (zi_lg s g &&& 255) h) := (if_neg c).trans (if_neg q)
        rw [e]
        constructor
        · intro x
          exact ⟨g, by omega, c, (nI_leI hT hb).mp x⟩
        · rintro ⟨i, hi, n, r⟩
          by_cases eg : i = g
          · rw [eg] at r
            exact (nI_leI hT hb).mpr r
          · have x := ih.mpr ⟨i, by omega, n, r⟩
            rw [Int32.le_iff_toInt_le] at x q ⊢
            omega
/-! full -/
theorem zi_fullY_l {post : Int32 → Prop} {a : Nat → Int32} {h : Nat} (hh : h ≤ 40) (s n : Int32) : ∀ d j : Nat, j + d = 256 → ((∃ t : Nat, j ≤ t ∧ t < 256 ∧ ¬ nI t = s ∧ nI t &&& s = s ∧ nI (zi_sp a (nI t &&& 255) h) = n) → post 0) → ((¬ ∃ t : Nat, j ≤ t ∧ t < 256 ∧ ¬ nI t = s ∧ nI t &&& s = s ∧ nI (zi_sp a (nI t &&& 255) h) = n) → post 1) → wY_isFull_8 post s n (nI h) a (d + 1) (nI j) := by
  intro d
  induction d with
  | zero =>
    intro j hj _ p1
    exact br_t (zi_ge (by omega) (by omega)) (p1 (by rintro ⟨t, h1, h2, _⟩; omega))
  | succ d ih =>
    intro j hj p0 p1
    have nx : ¬ (¬ nI j = s ∧ nI j &&& s = s ∧ nI (zi_sp a (nI j &&& 255) h) = n) → wY_isFull_8 post s n (nI h) a (d + 1) (nI (j + 1)) := by
      intro nq
      refine ih (j + 1) (by omega) (fun ⟨t, h1, h2, r⟩ => p0 ⟨t, by omega, h2, r⟩) (fun ne => p1 fun ⟨t, h1, h2, r⟩ => ?_)
      by_cases e : t = j
      · rw [e] at r
        exact nq r
      · exact ne ⟨t, by omega, h2, r⟩
    refine br_f (zi_nge (by omega)) ?_
    by_cases c1 : nI j = s
    · exact br_t c1 (nm_r (nI_1 j) (nx fun r => r.1 c1))
    · refine br_f c1 ?_
      by_cases c2 : nI j &&& s = s
      · refine br_t c2 (zi_supY hh ?_)
        by_cases c3 : nI (zi_sp a (nI j &&& 255) h) = n
        · exact br_t c3 (p0 ⟨j, Nat.le_refl j, by omega, c1, c2, c3⟩)
        · exact br_f c3 (nm_r (nI_1 j) (nx fun r => c3 r.2.2))
      · exact br_f c2 (nm_r (nI_1 j) (nx fun r => c2 r.2.1))
theorem zi_fullY {post : Int32 → Prop} {a : Nat → Int32} {h : Nat} (hh : h ≤ 40) {j : Nat} (hj : j < 256) (p0 : nI (zi_sp a (nI j &&& 255) h) ≤ zi_bl a h (nI j) 8 → post 0) (p1 : ¬ nI (zi_sp a (nI j &&& 255) h) ≤ zi_bl a h (nI j) 8 → post 1) : wpY_isFull post (nI h, a) (nI j) := by
  have j8 : (255 : Int32) &&& nI j = nI j := by rw [Int32.and_comm]; exact zi_m hj
  have hb : ∀ s : Int32, zi_sp a s h < 2 ^ 31 := fun s => by
    have := zi_sp_le a s h
    omega
  have K : nI (zi_sp a (nI j &&& 255) h) ≤ zi_bl a h (nI j) 8 ↔ ∃ t : Nat, 0 ≤ t ∧ t < 256 ∧ ¬ nI t = nI j ∧ nI t &&& nI j = nI j ∧ nI (zi_sp a (nI t &&& 255) h) = nI (zi_sp a (nI j &&& 255) h) := by
    rw [zi_bl_iff a h (nI j) (hb _) hh 8, zi_more a h _ j8]
    constructor
    · rintro ⟨t, ht, n, s, r⟩
      refine ⟨t, Nat.zero_le t, ht, n, s, ?_⟩
      have := zi_mono a s h
      rw [zi_m ht, zi_m hj] at r
      rw [zi_m ht, zi_m hj, Nat.le_antisymm this r]
    · rintro ⟨t, _, ht, n, s, r⟩
      exact ⟨t, ht, n, s, Nat.le_of_eq ((nI_eq (hb _) (hb _)).mp r).symm⟩
  unfold wpY_isFull
  dsimp only
  exact zi_supY hh ⟨_, zi_fullY_l hh (nI j) _ 256 0 (by omega) (fun E => p0 (K.mpr E)) (fun E => p1 fun x => E (K.mp x))⟩
theorem zi_full {a : Nat → Int32} {h : Nat} (hh : h ≤ 40) (m : Int32) : ∀ (d j : Nat) (c : Int32), 1 ≤ j → j + d = 256 → ∃ r : Int32, (∀ post : Int32 → Prop, post r → wX_full_4 post m (nI h) a (d + 1) c (nI j)) ∧ (∀ post : Int32 → Prop, post r → wY_full_4 post m (nI h) a (d + 1) c (nI j)) := by
  intro d
  induction d with
  | zero =>
    intro j c h1 hj
    exact ⟨c, fun post hp => br_t (zi_gt (by omega) (by omega)) hp, fun post hp => br_t (zi_ge (by omega) (by omega)) hp⟩
  | succ d ih =>
    intro j c h1 hj
    have z : ¬ nI j = 0 := nI_ne0 (by omega) (by omega)
    by_cases o : zi_of a h (nI j) m = 0
    · obtain ⟨r, hX, hY⟩ := ih (j + 1) c (by omega) (by omega)
      exact ⟨r, fun post hp => br_f (zi_ngt (by omega)) (zi_ofX hh (br_t o (nm_r (nI_1 j) (hX post hp)))), fun post hp => br_f (zi_nge (by omega)) (zi_ofY hh z (br_t o (nm_r (nI_1 j) (hY post hp))))⟩
    · by_cases q : nI (zi_sp a (nI j &&& 255) h) ≤ zi_bl a h (nI j) 8
      · obtain ⟨r, hX, hY⟩ := ih (j + 1) c (by omega) (by omega)
        exact ⟨r, fun post hp => br_f (zi_ngt (by omega)) (zi_ofX hh (br_f o (zi_blX hh (zi_supX hh (br_t q (nm_r (nI_1 j) (hX post hp))))))), fun post hp => br_f (zi_nge (by omega)) (zi_ofY hh z (br_f o (zi_fullY hh (by omega) (fun _ => br_t rfl (nm_r (nI_1 j) (hY post hp))) (fun n => absurd q n))))⟩
      · obtain ⟨r, hX, hY⟩ := ih (j + 1) (c + 1) (by omega) (by omega)
        exact ⟨r, fun post hp => br_f (zi_ngt (by omega)) (zi_ofX hh (br_f o (zi_blX hh (zi_supX hh (br_f q (nm_e (nm_r (nI_1 j) (hX post hp)))))))), fun post hp => br_f (zi_nge (by omega)) (zi_ofY hh z (br_f o (zi_fullY hh (by omega) (fun n => absurd n q) (fun _ => br_f (by decide) (nm_e (nm_r (nI_1 j) (hY post hp)))))))⟩
theorem i_vc_full {k : Nat} {u : SX} {v : SY} (I : i_Rel k u v) (hk : k + 3 ≤ 1536) (v1 : Int32) : wpX_full (fun r => wpY_full (fun r' => r' = r ∧ i_Rel (k + 3) u v) v v1) u v1 := by
  obtain ⟨h, a, hh, rfl, rfl⟩ := zi_cs I
  obtain ⟨r, hX, hY⟩ := zi_full (a := a) hh v1 255 1 0 (by omega) (by omega)
  exact ⟨_, hX _ ⟨_, hY _ ⟨rfl, zi_mk hh⟩⟩⟩
end
section
theorem zi_of_iff {a : Nat → Int32} {h T : Nat} (hh : h ≤ 40) (h1 : 1 ≤ T) (hT : T < 2 ^ 31) (s : Int32) : ¬ zi_of a h s (nI T) = 0 ↔ T ≤ zi_sp a (s &&& 255) h := by
  have hb : zi_sp a (s &&& 255) h < 2 ^ 31 := by
    have := zi_sp_le a (s &&& 255) h
    omega
  have n1 : ¬ nI T < 1 := nI_nlt (b := 1) h1 hT
  unfold zi_of
  rw [if_neg n1]
  by_cases c : nI (zi_sp a (s &&& 255) h) < nI T
  · rw [if_pos c]
    rw [nI_ltI hb hT] at c
    exact ⟨fun z => absurd rfl z, fun z => by omega⟩
  · rw [if_neg c]
    rw [nI_ltI hb hT] at c
    exact ⟨fun _ => by omega, fun _ => by decide⟩
theorem zi_of_1 {a : Nat → Int32} {h : Nat} {s m : Int32} (o : ¬ zi_of a h s m = 0) : ∃ T : Nat, 1 ≤ T ∧ T < 2 ^ 31 ∧ m = nI T := by
  by_cases c : m < 1
  · exact absurd (if_pos c) o
  · have h0 : ¬ m < 0 := by
      rw [Int32.lt_iff_toInt_lt] at c ⊢
      have e1 : (1 : Int32).toInt = 1 := by decide
      have e0 : (0 : Int32).toInt = 0 := by decide
      omega
    obtain ⟨T, hT, rfl⟩ := nI_of h0
    refine ⟨T, ?_, hT, rfl⟩
    rcases Nat.lt_or_ge T 1 with b | b
    · exact absurd (nI_lt (b := 1) b (by omega)) c
    · exact b
theorem zi_largestY_l {post : Int32 → Prop} {a : Nat → Int32} {h : Nat} (hh : h ≤ 40) (m : Int32) {s : Int32} (hs : ¬ s = 0) : ∀ d j : Nat, j + d = 256 → ((∃ t : Nat, j ≤ t ∧ t < 256 ∧ ¬ nI t = s ∧ nI t &&& s = s ∧ ¬ zi_of a h (nI t) m = 0) → post 0) → ((¬ ∃ t : Nat, j ≤ t ∧ t < 256 ∧ ¬ nI t = s ∧ nI t &&& s = s ∧ ¬ zi_of a h (nI t) m = 0) → post 1) → wY_isLargest_2 post s m (nI h) a (d + 1) (nI j) := by
  intro d
  induction d with
  | zero =>
    intro j hj _ p1
    exact br_t (zi_ge (by omega) (by omega)) (p1 (by rintro ⟨t, h1, h2, _⟩; omega))
  | succ d ih =>
    intro j hj p0 p1
    have nx : ¬ (¬ nI j = s ∧ nI j &&& s = s ∧ ¬ zi_of a h (nI j) m = 0) → wY_isLargest_2 post s m (nI h) a (d + 1) (nI (j + 1)) := by
      intro nq
      refine ih (j + 1) (by omega) (fun ⟨t, h1, h2, r⟩ => p0 ⟨t, by omega, h2, r⟩) (fun ne => p1 fun ⟨t, h1, h2, r⟩ => ?_)
      by_cases e : t = j
      · rw [e] at r
        exact nq r
      · exact ne ⟨t, by omega, h2, r⟩
    refine br_f (zi_nge (by omega)) ?_
    by_cases c1 : nI j = s
    · exact br_t c1 (nm_r (nI_1 j) (nx fun r => r.1 c1))
    · refine br_f c1 ?_
      by_cases c2 : nI j &&& s = s
      · have z : ¬ nI j = 0 := fun e => hs (by rw [← c2, e, Int32.zero_and])
        refine br_t c2 (zi_ofY hh z ?_)
        by_cases c3 : zi_of a h (nI j) m = 0
        · exact br_t c3 (nm_r (nI_1 j) (nx fun r => r.2.2 c3))
        · exact br_f c3 (p0 ⟨j, Nat.le_refl j, by omega, c1, c2, c3⟩)
      · exact br_f c2 (nm_r (nI_1 j) (nx fun r => c2 r.2.1))
theorem zi_largestY {post : Int32 → Prop} {a : Nat → Int32} {h : Nat} (hh : h ≤ 40) {m : Int32} {j : Nat} (h1 : 1 ≤ j) (hj : j < 256) (o : ¬ zi_of a h (nI j) m = 0) (p0 : m ≤ zi_bl a h (nI j) 8 → post 0) (p1 : ¬ m ≤ zi_bl a h (nI j) 8 → post 1) : wpY_isLargest post (nI h, a) (nI j) m := by
  have j8 : (255 : Int32) &&& nI j = nI j := by rw [Int32.and_comm]; exact zi_m hj
  obtain ⟨T, T1, hT, rfl⟩ := zi_of_1 o
  have K : nI T ≤ zi_bl a h (nI j) 8 ↔ ∃ t : Nat, 0 ≤ t ∧ t < 256 ∧ ¬ nI t = nI j ∧ nI t &&& nI j = nI j ∧ ¬ zi_of a h (nI t) (nI T) = 0 := by
    rw [zi_bl_iff a h (nI j) hT hh 8, zi_more a h _ j8]
    constructor
    · rintro ⟨t, ht, n, s, r⟩
      exact ⟨t, Nat.zero_le t, ht, n, s, (zi_of_iff hh T1 hT _).mpr r⟩
    · rintro ⟨t, _, ht, n, s, r⟩
      exact ⟨t, ht, n, s, (zi_of_iff hh T1 hT _).mp r⟩
  exact ⟨_, zi_largestY_l hh (nI T) (nI_ne0 (by omega) (by omega)) 256 0 (by omega) (fun E => p0 (K.mpr E)) (fun E => p1 fun x => E (K.mp x))⟩
theorem zi_largest {a : Nat → Int32} {h : Nat} (hh : h ≤ 40) (m : Int32) : ∀ (d j : Nat) (c : Int32), 1 ≤ j → j + d = 256 → ∃ r : Int32, (∀ post : Int32 → Prop, post r → wX_largest_4 post m (nI h) a (d + 1) c (nI j)) ∧ (∀ post : Int32 → Prop, post r → wY_largest_4 post m (nI h) a (d + 1) c (nI j)) := by
  intro d
  induction d with
  | zero =>
    intro j c h1 hj
    exact ⟨c, fun post hp => br_t (zi_gt (by omega) (by omega)) hp, fun post hp => br_t (zi_ge (by omega) (by omega)) hp⟩
  | succ d ih =>
    intro j c h1 hj
    have z : ¬ nI j = 0 := nI_ne0 (by omega) (by omega)
    by_cases o : zi_of a h (nI j) m = 0
    · obtain ⟨r, hX, hY⟩ := ih (j + 1) c (by omega) (by omega)
      exact ⟨r, fun post hp => br_f (zi_ngt (by omega)) (zi_ofX hh (br_t o (nm_r (nI_1 j) (hX post hp)))), fun post hp => br_f (zi_nge (by omega)) (zi_ofY hh z (br_t o (nm_r (nI_1 j) (hY post hp))))⟩
    · by_cases q : m ≤ zi_bl a h (nI j) 8
      · obtain ⟨r, hX, hY⟩ := ih (j + 1) c (by omega) (by omega)
        exact ⟨r, fun post hp => br_f (zi_ngt (by omega)) (zi_ofX hh (br_f o (zi_blX hh (br_t q (nm_r (nI_1 j) (hX post hp)))))), fun post hp => br_f (zi_nge (by omega)) (zi_ofY hh z (br_f o (zi_largestY hh h1 (by omega) o (fun _ => br_t rfl (nm_r (nI_1 j) (hY post hp))) (fun n => absurd q n))))⟩
      · obtain ⟨r, hX, hY⟩ := ih (j + 1) (c + 1) (by omega) (by omega)
        exact ⟨r, fun post hp => br_f (zi_ngt (by omega)) (zi_ofX hh (br_f o (zi_blX hh (br_f q (nm_e (nm_r (nI_1 j) (hX post hp))))))), fun post hp => br_f (zi_nge (by omega)) (zi_ofY hh z (br_f o (zi_largestY hh h1 (by omega) o (fun n => absurd n q) (fun _ => br_f (by decide) (nm_e (nm_r (nI_1 j) (hY post hp)))))))⟩
theorem i_vc_largest {k : Nat} {u : SX} {v : SY} (I : i_Rel k u v) (hk : k + 3 ≤ 1536) (v1 : Int32) : wpX_largest (fun r => wpY_largest (fun r' => r' = r ∧ i_Rel (k + 3) u v) v v1) u v1 := by
  obtain ⟨h, a, hh, rfl, rfl⟩ := zi_cs I
  obtain ⟨r, hX, hY⟩ := zi_largest (a := a) hh v1 255 1 0 (by omega) (by omega)
  exact ⟨_, hX _ ⟨_, hY _ ⟨rfl, zi_mk hh⟩⟩⟩
end
section
/-! what the baskets with s have in common -/
def zi_cl (a : Nat → Int32) (s : Int32) : Nat → Int32
  | 0 => 255
  | h + 1 => if a h &&& s = s then zi_cl a s h &&& a h else zi_cl a s h
theorem zi_cl_t {a : Nat → Int32} {s : Int32} {h : Nat} (c : a h &&& s = s) : zi_cl a s (h + 1) = zi_cl a s h &&& a h := if_pos c
theorem zi_cl_f {a : Nat → Int32} {s : Int32} {h : Nat} (c : ¬ a h &&& s = s) : zi_cl a s (h + 1) = zi_cl a s h := if_neg c
theorem zi_clX_l {post : Int32 → Prop} {s : Int32} {a : Nat → Int32} {h : Nat} (hh : h ≤ 40) (hp : post (zi_cl a s h)) : ∀ d i : Nat, i + d = h → wX_closure_13 post s (nI h) a (d + 1) (zi_cl a s i) (nI i) := by
  intro d
  induction d with
  | zero =>
    intro i hi
    obtain rfl : i = h := by omega
    exact br_t (nI_le (Nat.le_refl _) (by omega)) hp
  | succ d ih =>
    intro i hi
    have hn : ¬ nI h ≤ nI i := nI_ge (by omega) (by omega)
    have hv : vp_in (nI i) 40 := vp_in_nI (by omega) (by omega)
    have hc : (nI i).toNatClampNeg = i := nI_clamp (by omega)
    refine br_f hn ⟨hv, ?_⟩
    rw [hc]
    have W := ih (i + 1) (by omega)
    by_cases c : a i &&& s = s
    · rw [zi_cl_t c] at W
      exact br_t c (br_f (by decide) ⟨hv, nm_e (nm_r (nI_1 i) W)⟩)
    · rw [zi_cl_f c] at W
      exact br_f c (br_t rfl (nm_r (nI_1 i) W))
theorem zi_cl_8 (a : Nat → Int32) (s : Int32) (h : Nat) : (255 : Int32) &&& zi_cl a s h = zi_cl a s h := by
  induction h with
  | zero => exact zi_rf 255
  | succ h ih =>
    by_cases c : a h &&& s = s
    · rw [zi_cl_t c, ← Int32.and_assoc, ih]
    · rw [zi_cl_f c]; exact ih
theorem zi_cl_0 {a : Nat → Int32} {s : Int32} {h : Nat} (e : zi_sp a s h = 0) : zi_cl a s h = 255 := by
  induction h with
  | zero => rfl
  | succ h ih =>
    by_cases c : a h &&& s = s
    · rw [zi_sp_t c] at e; omega
    · rw [zi_sp_f c] at e
      rw [zi_cl_f c]; exact ih e
/-! a larger set within 255 has the same support just if it lies in the closure -/
theorem zi_cl_iff (a : Nat → Int32) {s t : Int32} (hs : t &&& s = s) (h8 : (255 : Int32) &&& t = t) (h : Nat) : zi_sp a t h = zi_sp a s h ↔ zi_cl a s h &&& t = t := by
  induction h with
  | zero => exact ⟨fun _ => h8, fun _ => rfl⟩
  | succ h ih =>
    by_cases c : a h &&& s = s
    · rw [zi_sp_t c, zi_cl_t c]
      by_cases d : a h &&& t = t
      · rw [zi_sp_t d, Int32.and_assoc, d, ← ih]
        omega
      · rw [zi_sp_f d]
        have m := zi_mono a hs h
        refine ⟨fun z => by omega, fun z => absurd ?_ d⟩
        exact zi_has.mpr fun i hi b => by
          have := zi_has.mp z i hi b
          rw [b_and] at this
          exact (Bool.and_eq_true_iff.mp this).2
    · have d : ¬ a h &&& t = t := fun d => c (zi_tr d hs)
      rw [zi_sp_f c, zi_sp_f d, zi_cl_f c]
      exact ih
theorem zi_clY_l {post : Int32 → Prop} {s : Int32} {a : Nat → Int32} {h c : Nat} (hh : h ≤ 40) (hp : post (zi_cl a s h)) (h8 : (255 : Int32) &&& s = s) (hc : c < 256) (ec : zi_cl a s h = nI c) : ∀ (d t : Nat) (b : Int32), t + d = 256 → zi_cl a s h &&& b = b → (c < t → b = zi_cl a s h) → wY_closure_26 post s (nI (zi_sp a s h)) (nI h) a (d + 1) b (nI t) := by
  have hb : ∀ s : Int32, zi_sp a s h < 2 ^ 31 := fun s => by
    have := zi_sp_le a s h
    omega
  have Cs : zi_cl a s h &&& s = s := (zi_cl_iff a (zi_rf s) h8 h).mp rfl
  intro d
  induction d with
  | zero =>
    intro t b ht _ hl
    rw [hl (by omega)]
    exact br_t (zi_ge (by omega) (by omega)) hp
  | succ d ih =>
    intro t b ht hB hl
    have stay : t ≠ c → wY_closure_26 post s (nI (zi_sp a s h)) (nI h) a (d + 1) b (nI (t + 1)) := fun n => ih (t + 1) b (by omega) hB (fun l => hl (by omega))
    refine br_f (zi_nge (by omega)) ?_
    by_cases c1 : nI t &&& s = s
    · refine br_t c1 (zi_supY hh ?_)
      rw [zi_m (by omega : t < 256)]
      have t8 : (255 : Int32) &&& nI t = nI t := by rw [Int32.and_comm]; exact zi_m (by omega)
      have F := zi_cl_iff a c1 t8 h
      by_cases c2 : nI (zi_sp a (nI t) h) = nI (zi_sp a s h)
      · refine br_t c2 ?_
        have G := F.mp ((nI_eq (hb _) (hb _)).mp c2)
        by_cases c3 : nI t &&& b = b
        · refine br_t c3 (nm_r (nI_1 t) (ih (t + 1) (nI t) (by omega) G (fun l => ?_)))
          by_cases e : t = c
          · rw [ec, e]
          · rw [hl (by omega)] at c3
            exact zi_as c3 G
        · exact br_f c3 (nm_r (nI_1 t) (stay fun e => c3 (by rw [e, ← ec]; exact hB)))
      · exact br_f c2 (nm_r (nI_1 t) (stay fun e => c2 (by rw [F.mpr (by rw [e, ← ec]; exact zi_rf _)])))
    · exact br_f c1 (nm_r (nI_1 t) (stay fun e => c1 (by rw [e, ← ec]; exact Cs)))
theorem i_vc_closure {k : Nat} {u : SX} {v : SY} (I : i_Rel k u v) (hk : k + 3 ≤ 1536) (v1 : Int32) : wpX_closure (fun r => wpY_closure (fun r' => r' = r ∧ i_Rel (k + 3) u v) v v1) u v1 := by
  obtain ⟨h, a, hh, rfl, rfl⟩ := zi_cs I
  refine nm_e ⟨_, zi_clX_l hh ?_ h 0 (by omega)⟩
  refine nm_e ?_
  have h8 : (255 : Int32) &&& (v1 &&& 255) = v1 &&& 255 := by
    rw [Int32.and_comm v1, ← Int32.and_assoc, zi_rf]
  generalize v1 &&& 255 = s at h8 ⊢
  have h8' : s &&& 255 = s := by rw [Int32.and_comm]; exact h8
  refine zi_supY hh ?_
  rw [h8']
  by_cases z : zi_sp a s h = 0
  · rw [z]
    exact br_t nI_0 ⟨(zi_cl_0 z).symm, zi_mk hh⟩
  · have hb : zi_sp a s h < 2 ^ 31 := by
      have := zi_sp_le a s h
      omega
    obtain ⟨c, hc, ec⟩ := zi_of8 (zi_cl_8 a s h)
    exact br_f (nI_ne0 (by omega) hb) ⟨_, zi_clY_l hh ⟨rfl, zi_mk hh⟩ h8 hc ec 256 0 s (by omega) ((zi_cl_iff a (zi_rf s) h8 h).mp rfl) (fun l => by omega)⟩
end
