/-! the number of the first h baskets that have all goods of s -/
def zi_sp (a : Nat → Int32) (s : Int32) : Nat → Nat
  | 0 => 0
  | h + 1 => if a h &&& s = s then zi_sp a s h + 1 else zi_sp a s h
theorem zi_sp_t {a : Nat → Int32} {s : Int32} {h : Nat} (c : a h &&& s = s) : zi_sp a s (h + 1) = zi_sp a s h + 1 := if_pos c
theorem zi_sp_f {a : Nat → Int32} {s : Int32} {h : Nat} (c : ¬ a h &&& s = s) : zi_sp a s (h + 1) = zi_sp a s h := if_neg c
theorem zi_sp_le (a : Nat → Int32) (s : Int32) (h : Nat) : zi_sp a s h ≤ h := by
  induction h with
  | zero => exact Nat.le_refl 0
  | succ h ih =>
    by_cases c : a h &&& s = s
    · rw [zi_sp_t c]; omega
    · rw [zi_sp_f c]; omega
theorem zi_supX_l {post : Int32 → Prop} {s : Int32} {a : Nat → Int32} {h : Nat} (hh : h ≤ 40) (hp : post (nI (zi_sp a s h))) : ∀ d i : Nat, i + d = h → wX_support_11 post s (nI h) a (d + 1) (nI (zi_sp a s i)) (nI i) := by
  intro d
  induction d with
  | zero =>
    intro i hi
    obtain rfl : i = h := by omega
    exact br_t (nI_le (Nat.le_refl _) (by omega)) hp
  | succ d ih =>
    intro i hi
    have hn : ¬ nI h ≤ nI i := nI_ge (by omega) (by omega)
    have hv : vp_in (nI i) 40 := vp_in_nI (by omega) (by omega)
    have hc : (nI i).toNatClampNeg = i := nI_clamp (by omega)
    refine br_f hn ⟨hv, ?_⟩
    rw [hc]
    by_cases c : a i &&& s = s
    · have := ih (i + 1) (by omega)
      rw [zi_sp_t c] at this
      exact br_t c (br_f (by decide) (nm_r (nI_1 _) (nm_r (nI_1 i) this)))
    · have := ih (i + 1) (by omega)
      rw [zi_sp_f c] at this
      exact br_f c (br_t rfl (nm_r (nI_1 i) this))
theorem zi_supX {post : Int32 → Prop} {p : Int32} {a : Nat → Int32} {h : Nat} (hh : h ≤ 40) (hp : post (nI (zi_sp a (p &&& 255) h))) : wpX_support post (nI h, a) p :=
  nm_e ⟨h + 1, zi_supX_l hh hp h 0 (by omega)⟩
theorem zi_supY_l {post : Int32 → Prop} {s : Int32} {a : Nat → Int32} {h : Nat} (hh : h ≤ 40) (hp : post (nI (zi_sp a s h))) : ∀ d i : Nat, i + d = h → wY_support_11 post s (nI h) a (d + 1) (nI (zi_sp a s i)) (nI i) := by
  intro d
  induction d with
  | zero =>
    intro i hi
    obtain rfl : i = h := by omega
    exact br_t (nI_le (Nat.le_refl _) (by omega)) hp
  | succ d ih =>
    intro i hi
    have hn : ¬ nI h ≤ nI i := nI_ge (by omega) (by omega)
    have hv : vp_in (nI i) 40 := vp_in_nI (by omega) (by omega)
    have hc : (nI i).toNatClampNeg = i := nI_clamp (by omega)
    refine br_f hn ⟨hv, ?_⟩
    rw [hc]
    by_cases c : a i &&& s = s
    · have := ih (i + 1) (by omega)
      rw [zi_sp_t c] at this
      exact br_t c (nm_r (nI_1 _) (nm_r (nI_1 i) this))
    · have := ih (i + 1) (by omega)
      rw [zi_sp_f c] at this
      exact br_f c (nm_r (nI_1 i) this)
theorem zi_supY {post : Int32 → Prop} {p : Int32} {a : Nat → Int32} {h : Nat} (hh : h ≤ 40) (hp : post (nI (zi_sp a (p &&& 255) h))) : wpY_support post (nI h, a) p :=
  nm_e ⟨h + 1, zi_supY_l hh hp h 0 (by omega)⟩

/-! often, as a number -/
def zi_of (a : Nat → Int32) (h : Nat) (s m : Int32) : Int32 :=
  if m < 1 then 0 else if nI (zi_sp a (s &&& 255) h) < m then 0 else 1
theorem zi_ofX {post : Int32 → Prop} {s m : Int32} {a : Nat → Int32} {h : Nat} (hh : h ≤ 40) (hp : post (zi_of a h s m)) : wpX_isOften post (nI h, a) s m := by
  unfold zi_of at hp
  by_cases c : m < 1
  · rw [if_pos c] at hp
    exact br_t c hp
  · rw [if_neg c] at hp
    refine br_f c (zi_supX hh ?_)
    by_cases e : nI (zi_sp a (s &&& 255) h) < m
    · rw [if_pos e] at hp
      exact br_t e hp
    · rw [if_neg e] at hp
      exact br_f e hp
theorem zi_ofY {post : Int32 → Prop} {s m : Int32} {a : Nat → Int32} {h : Nat} (hh : h ≤ 40) (hs : ¬ s = 0) (hp : post (zi_of a h s m)) : wpY_isOften post (nI h, a) s m := by
  unfold zi_of at hp
  by_cases c : m < 1
  · rw [if_pos c] at hp
    exact br_t c hp
  · rw [if_neg c] at hp
    refine br_f c (br_f hs (zi_supY hh ?_))
    by_cases e : nI (zi_sp a (s &&& 255) h) < m
    · rw [if_pos e] at hp
      exact br_t e hp
    · rw [if_neg e] at hp
      exact br_f e hp

/-! the ends of the loops over the sets -/
theorem zi_gt {j : Nat} (h : 256 ≤ j) (hj : j < 2 ^ 31) : (255 : Int32) < nI j := nI_lt (a := 255) (by omega) hj
theorem zi_ngt {j : Nat} (h : j < 256) : ¬ (255 : Int32) < nI j := nI_nlt (b := j) (a := 255) (by omega) (by omega)
theorem zi_ge {j : Nat} (h : 256 ≤ j) (hj : j < 2 ^ 31) : (256 : Int32) ≤ nI j := nI_le (a := 256) h hj
theorem zi_nge {j : Nat} (h : j < 256) : ¬ (256 : Int32) ≤ nI j := nI_ge (b := 256) h (by omega)
