/-! what the baskets with s have in common -/
def zi_cl (a : Nat → Int32) (s : Int32) : Nat → Int32
  | 0 => 255
  | h + 1 => if a h &&& s = s then zi_cl a s h &&& a h else zi_cl a s h
theorem zi_cl_t {a : Nat → Int32} {s : Int32} {h : Nat} (c : a h &&& s = s) : zi_cl a s (h + 1) = zi_cl a s h &&& a h := if_pos c
theorem zi_cl_f {a : Nat → Int32} {s : Int32} {h : Nat} (c : ¬ a h &&& s = s) : zi_cl a s (h + 1) = zi_cl a s h := if_neg c
theorem zi_clX_l {post : Int32 → Prop} {s : Int32} {a : Nat → Int32} {h : Nat} (hh : h ≤ 40) (hp : post (zi_cl a s h)) : ∀ d i : Nat, i + d = h → wX_closure_13 post s (nI h) a (d + 1) (zi_cl a s i) (nI i) := by
  intro d
  induction d with
  | zero =>
    intro i hi
    obtain rfl : i = h := by omega
    exact br_t (nI_le (Nat.le_refl _) (by omega)) hp
  | succ d ih =>
    intro i hi
    have hn : ¬ nI h ≤ nI i := nI_ge (by omega) (by omega)
    have hv : vp_in (nI i) 40 := vp_in_nI (by omega) (by omega)
    have hc : (nI i).toNatClampNeg = i := nI_clamp (by omega)
    refine br_f hn ⟨hv, ?_⟩
    rw [hc]
    have W := ih (i + 1) (by omega)
    by_cases c : a i &&& s = s
    · rw [zi_cl_t c] at W
      exact br_t c (br_f (by decide) ⟨hv, nm_e (nm_r (nI_1 i) W)⟩)
    · rw [zi_cl_f c] at W
      exact br_f c (br_t rfl (nm_r (nI_1 i) W))
theorem zi_cl_8 (a : Nat → Int32) (s : Int32) (h : Nat) : (255 : Int32) &&& zi_cl a s h = zi_cl a s h := by
  induction h with
  | zero => exact zi_rf 255
  | succ h ih =>
    by_cases c : a h &&& s = s
    · rw [zi_cl_t c, ← Int32.and_assoc, ih]
    · rw [zi_cl_f c]; exact ih
theorem zi_cl_0 {a : Nat → Int32} {s : Int32} {h : Nat} (e : zi_sp a s h = 0) : zi_cl a s h = 255 := by
  induction h with
  | zero => rfl
  | succ h ih =>
    by_cases c : a h &&& s = s
    · rw [zi_sp_t c] at e; omega
    · rw [zi_sp_f c] at e
      rw [zi_cl_f c]; exact ih e
/-! a larger set within 255 has the same support just if it lies in the closure -/
theorem zi_cl_iff (a : Nat → Int32) {s t : Int32} (hs : t &&& s = s) (h8 : (255 : Int32) &&& t = t) (h : Nat) : zi_sp a t h = zi_sp a s h ↔ zi_cl a s h &&& t = t := by
  induction h with
  | zero => exact ⟨fun _ => h8, fun _ => rfl⟩
  | succ h ih =>
    by_cases c : a h &&& s = s
    · rw [zi_sp_t c, zi_cl_t c]
      by_cases d : a h &&& t = t
      · rw [zi_sp_t d, Int32.and_assoc, d, ← ih]
        omega
      · rw [zi_sp_f d]
        have m := zi_mono a hs h
        refine ⟨fun z => by omega, fun z => absurd ?_ d⟩
        exact zi_has.mpr fun i hi b => by
          have := zi_has.mp z i hi b
          rw [b_and] at this
          exact (Bool.and_eq_true_iff.mp this).2
    · have d : ¬ a h &&& t = t := fun d => c (zi_tr d hs)
      rw [zi_sp_f c, zi_sp_f d, zi_cl_f c]
      exact ih
theorem zi_clY_l {post : Int32 → Prop} {s : Int32} {a : Nat → Int32} {h c : Nat} (hh : h ≤ 40) (hp : post (zi_cl a s h)) (h8 : (255 : Int32) &&& s = s) (hc : c < 256) (ec : zi_cl a s h = nI c) : ∀ (d t : Nat) (b : Int32), t + d = 256 → zi_cl a s h &&& b = b → (c < t → b = zi_cl a s h) → wY_closure_26 post s (nI (zi_sp a s h)) (nI h) a (d + 1) b (nI t) := by
  have hb : ∀ s : Int32, zi_sp a s h < 2 ^ 31 := fun s => by
    have := zi_sp_le a s h
    omega
  have Cs : zi_cl a s h &&& s = s := (zi_cl_iff a (zi_rf s) h8 h).mp rfl
  intro d
  induction d with
  | zero =>
    intro t b ht _ hl
    rw [hl (by omega)]
    exact br_t (zi_ge (by omega) (by omega)) hp
  | succ d ih =>
    intro t b ht hB hl
    have stay : t ≠ c → wY_closure_26 post s (nI (zi_sp a s h)) (nI h) a (d + 1) b (nI (t + 1)) := fun n => ih (t + 1) b (by omega) hB (fun l => hl (by omega))
    refine br_f (zi_nge (by omega)) ?_
    by_cases c1 : nI t &&& s = s
    · refine br_t c1 (zi_supY hh ?_)
      rw [zi_m (by omega : t < 256)]
      have t8 : (255 : Int32) &&& nI t = nI t := by rw [Int32.and_comm]; exact zi_m (by omega)
      have F := zi_cl_iff a c1 t8 h
      by_cases c2 : nI (zi_sp a (nI t) h) = nI (zi_sp a s h)
      · refine br_t c2 ?_
        have G := F.mp ((nI_eq (hb _) (hb _)).mp c2)
        by_cases c3 : nI t &&& b = b
        · refine br_t c3 (nm_r (nI_1 t) (ih (t + 1) (nI t) (by omega) G (fun l => ?_)))
          by_cases e : t = c
          · rw [ec, e]
          · rw [hl (by omega)] at c3
            exact zi_as c3 G
        · exact br_f c3 (nm_r (nI_1 t) (stay fun e => c3 (by rw [e, ← ec]; exact hB)))
      · exact br_f c2 (nm_r (nI_1 t) (stay fun e => c2 (by rw [F.mpr (by rw [e, ← ec]; exact zi_rf _)])))
    · exact br_f c1 (nm_r (nI_1 t) (stay fun e => c1 (by rw [e, ← ec]; exact Cs)))
theorem i_vc_closure {k : Nat} {u : SX} {v : SY} (I : i_Rel k u v) (hk : k + 3 ≤ 1536) (v1 : Int32) : wpX_closure (fun r => wpY_closure (fun r' => r' = r ∧ i_Rel (k + 3) u v) v v1) u v1 := by
  obtain ⟨h, a, hh, rfl, rfl⟩ := zi_cs I
  refine nm_e ⟨_, zi_clX_l hh ?_ h 0 (by omega)⟩
  refine nm_e ?_
  have h8 : (255 : Int32) &&& (v1 &&& 255) = v1 &&& 255 := by
    rw [Int32.and_comm v1, ← Int32.and_assoc, zi_rf]
  generalize v1 &&& 255 = s at h8 ⊢
  have h8' : s &&& 255 = s := by rw [Int32.and_comm]; exact h8
  refine zi_supY hh ?_
  rw [h8']
  by_cases z : zi_sp a s h = 0
  · rw [z]
    exact br_t nI_0 ⟨(zi_cl_0 z).symm, zi_mk hh⟩
  · have hb : zi_sp a s h < 2 ^ 31 := by
      have := zi_sp_le a s h
      omega
    obtain ⟨c, hc, ec⟩ := zi_of8 (zi_cl_8 a s h)
    exact br_f (nI_ne0 (by omega) hb) ⟨_, zi_clY_l hh ⟨rfl, zi_mk hh⟩ h8 hc ec 256 0 s (by omega) ((zi_cl_iff a (zi_rf s) h8 h).mp rfl) (fun l => by omega)⟩
