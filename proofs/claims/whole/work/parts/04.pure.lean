/-! bits (bt, b_ext, b_or, b_and, b_big, b_255, s_l, b_shl: rows of kit/rows) -/
def bt (x : Int32) (i : Nat) : Bool := x.toBitVec.getLsbD i
theorem b_ext {x y : Int32} (h : ∀ i, i < 32 → bt x i = bt y i) : x = y := Int32.toBitVec_inj.mp (BitVec.eq_of_getLsbD_eq (fun i hi => h i hi))
theorem b_or (x y : Int32) (i : Nat) : bt (x ||| y) i = (bt x i || bt y i) := by unfold bt; rw [Int32.toBitVec_or, BitVec.getLsbD_or]
theorem b_and (x y : Int32) (i : Nat) : bt (x &&& y) i = (bt x i && bt y i) := by unfold bt; rw [Int32.toBitVec_and, BitVec.getLsbD_and]
theorem b_big {x : Int32} {i : Nat} (h : 32 ≤ i) : bt x i = false := BitVec.getLsbD_of_ge _ _ h
theorem b_255 (i : Nat) : bt 255 i = decide (i < 8) := by
  rcases Nat.lt_or_ge i 32 with h | h
  · exact (by decide +kernel : ∀ i, i < 32 → bt 255 i = decide (i < 8)) i h
  · rw [b_big h, decide_eq_false (by omega)]
/-! x &&& y = y: x has all goods of y -/
theorem zi_has {x y : Int32} : x &&& y = y ↔ ∀ i, i < 32 → bt y i = true → bt x i = true := by
  constructor
  · intro e i _ hy
    rw [← e, b_and] at hy
    exact (Bool.and_eq_true_iff.mp hy).1
  · intro H
    refine b_ext fun i hi => ?_
    rw [b_and]
    cases hy : bt y i with
    | false => rw [Bool.and_false]
    | true => rw [H i hi hy, Bool.and_true]
theorem zi_tr {x y w : Int32} (h1 : x &&& y = y) (h2 : y &&& w = w) : x &&& w = w :=
  zi_has.mpr fun i hi hw => zi_has.mp h1 i hi (zi_has.mp h2 i hi hw)
theorem zi_rf (x : Int32) : x &&& x = x := zi_has.mpr fun _ _ h => h
theorem zi_as {x y : Int32} (h1 : x &&& y = y) (h2 : y &&& x = x) : x = y := by
  rw [← h2, Int32.and_comm, h1]
theorem zi_mono (a : Nat → Int32) {x y : Int32} (e : x &&& y = y) (h : Nat) : zi_sp a x h ≤ zi_sp a y h := by
  induction h with
  | zero => exact Nat.le_refl 0
  | succ h ih =>
    by_cases c : a h &&& x = x
    · rw [zi_sp_t c, zi_sp_t (zi_tr c e)]; omega
    · rw [zi_sp_f c]
      by_cases d : a h &&& y = y
      · rw [zi_sp_t d]; omega
      · rw [zi_sp_f d]; exact ih
/-! sets of goods are the numbers below 256 -/
theorem zi_m {t : Nat} (h : t < 256) : nI t &&& 255 = nI t :=
  (by decide +kernel : ∀ t, t < 256 → nI t &&& 255 = nI t) t h
theorem zi_of8 {x : Int32} (h : (255 : Int32) &&& x = x) : ∃ t : Nat, t < 256 ∧ x = nI t := by
  have e : x.toBitVec.toNat < 256 := by
    rw [← h, Int32.toBitVec_and, BitVec.toNat_and]
    exact Nat.lt_of_le_of_lt Nat.and_le_left (by decide)
  refine ⟨x.toBitVec.toNat, e, ?_⟩
  apply Int32.toBitVec_inj.mp
  show x.toBitVec = BitVec.ofNat 32 x.toBitVec.toNat
  rw [BitVec.ofNat_toNat, BitVec.setWidth_eq]
/-! one good more -/
def zi_lg (s : Int32) (g : Nat) : Int32 := s ||| ((1 : Int32) <<< (nI g &&& 31))
theorem zi_b1 : ∀ g, g < 8 → ∀ i, i < 32 → bt ((1 : Int32) <<< (nI g &&& 31)) i = decide (i = g) := by decide +kernel
theorem zi_b_lg {s : Int32} {g : Nat} (hg : g < 8) {i : Nat} (hi : i < 32) : bt (zi_lg s g) i = (bt s i || decide (i = g)) := by
  unfold zi_lg
  rw [b_or, zi_b1 g hg i hi]
theorem zi_lg_has {s : Int32} {g : Nat} (hg : g < 8) : zi_lg s g &&& s = s :=
  zi_has.mpr fun i hi h => by rw [zi_b_lg hg hi, h, Bool.true_or]
theorem zi_lg_8 {s : Int32} {g : Nat} (hs : (255 : Int32) &&& s = s) (hg : g < 8) : (255 : Int32) &&& zi_lg s g = zi_lg s g :=
  zi_has.mpr fun i hi h => by
    rw [zi_b_lg hg hi] at h
    rcases Bool.or_eq_true_iff.mp h with c | c
    · exact zi_has.mp hs i hi c
    · rw [b_255]
      have := of_decide_eq_true c
      exact decide_eq_true (by omega)
/-! a set larger than s has a good that s lacks -/
theorem zi_lg_ex {s t : Int32} (ht : (255 : Int32) &&& t = t) (hs : t &&& s = s) (hn : ¬ t = s) : ∃ g : Nat, g < 8 ∧ ¬ zi_lg s g = s ∧ t &&& zi_lg s g = zi_lg s g := by
  by_cases E : ∃ i : Nat, i < 32 ∧ bt t i = true ∧ bt s i = false
  · obtain ⟨i, hi, h1, h0⟩ := E
    have h8 := zi_has.mp ht i hi h1
    rw [b_255] at h8
    have h8 := of_decide_eq_true h8
    refine ⟨i, h8, fun e => ?_, zi_has.mpr fun b hb h => ?_⟩
    · have := zi_b_lg (s := s) h8 hi
      rw [e, h0, decide_eq_true rfl] at this
      cases this
    · rw [zi_b_lg h8 hb] at h
      rcases Bool.or_eq_true_iff.mp h with c | c
      · exact zi_has.mp hs b hb c
      · rw [of_decide_eq_true c]; exact h1
  · refine absurd (zi_as hs (zi_has.mpr fun i hi h => ?_)) hn
    cases hb : bt s i with
    | true => rfl
    | false => exact absurd ⟨i, hi, h, hb⟩ E
/-! a larger set that T baskets have is there just if one with one good more is -/
theorem zi_more (a : Nat → Int32) (h T : Nat) {s : Int32} (h8 : (255 : Int32) &&& s = s) : (∃ g : Nat, g < 8 ∧ ¬ zi_lg s g = s ∧ T ≤ zi_sp a (zi_lg s g &&& 255) h) ↔ ∃ t : Nat, t < 256 ∧ ¬ nI t = s ∧ nI t &&& s = s ∧ T ≤ zi_sp a (nI t &&& 255) h := by
  constructor
  · rintro ⟨g, hg, hn, hT⟩
    obtain ⟨t, ht, e⟩ := zi_of8 (zi_lg_8 h8 hg)
    rw [e] at hn hT
    exact ⟨t, ht, hn, by rw [← e]; exact zi_lg_has hg, hT⟩
  · rintro ⟨t, ht, hn, hs, hT⟩
    have t8 : (255 : Int32) &&& nI t = nI t := by rw [Int32.and_comm]; exact zi_m ht
    obtain ⟨g, hg, gn, gt⟩ := zi_lg_ex t8 hs hn
    refine ⟨g, hg, gn, Nat.le_trans hT ?_⟩
    rw [zi_m ht, Int32.and_comm, zi_lg_8 h8 hg]
    exact zi_mono a gt h
