noncomputable def lc_b (P : Prop) : Nat := @ite Nat P (Classical.propDecidable P) 1 0
theorem lc_b_t {P : Prop} (h : P) : lc_b P = 1 := if_pos h
theorem lc_b_f {P : Prop} (h : ¬ P) : lc_b P = 0 := if_neg h
theorem lc_b_le (P : Prop) : lc_b P ≤ 1 := by
  by_cases h : P
  · rw [lc_b_t h]; omega
  · rw [lc_b_f h]; omega
theorem lc_b_c {P Q : Prop} (h : P ↔ Q) : lc_b P = lc_b Q := by rw [propext h]
theorem lc_b_i {P : Prop} (h : lc_b P = 1) : P := by
  by_cases k : P
  · exact k
  · rw [lc_b_f k] at h; omega
noncomputable def lc_cnt (f : Nat → Prop) : Nat → Nat
  | 0 => 0
  | m + 1 => lc_cnt f m + lc_b (f m)
theorem lc_cnt_s (f : Nat → Prop) (m : Nat) : lc_cnt f (m + 1) = lc_cnt f m + lc_b (f m) := rfl
theorem lc_cnt_t {f : Nat → Prop} {m : Nat} (h : f m) : lc_cnt f (m + 1) = lc_cnt f m + 1 := by rw [lc_cnt_s, lc_b_t h]
theorem lc_cnt_f {f : Nat → Prop} {m : Nat} (h : ¬ f m) : lc_cnt f (m + 1) = lc_cnt f m := by rw [lc_cnt_s, lc_b_f h]; rfl
theorem lc_cnt_le (f : Nat → Prop) (m : Nat) : lc_cnt f m ≤ m := by
  induction m with
  | zero => exact Nat.le_refl 0
  | succ m ih => have := lc_b_le (f m); rw [lc_cnt_s]; omega
theorem lc_cnt_mono (f : Nat → Prop) {a b : Nat} (h : a ≤ b) : lc_cnt f a ≤ lc_cnt f b := by
  induction b with
  | zero => have e : a = 0 := by omega
            rw [e]; exact Nat.le_refl _
  | succ b ih =>
    by_cases e : a = b + 1
    · rw [e]; exact Nat.le_refl _
    · have := ih (by omega)
      rw [lc_cnt_s]; omega
theorem lc_cnt_lt {f : Nat → Prop} {x m : Nat} (hx : x < m) (h : f x) : lc_cnt f x < lc_cnt f m := by
  have := lc_cnt_mono f (a := x + 1) (b := m) (by omega)
  rw [lc_cnt_t h] at this
  omega
theorem lc_cnt_c {f g : Nat → Prop} {m : Nat} (h : ∀ x, x < m → (f x ↔ g x)) : lc_cnt f m = lc_cnt g m := by
  induction m with
  | zero => rfl
  | succ m ih => rw [lc_cnt_s, lc_cnt_s, ih (fun x hx => h x (by omega)), lc_b_c (h m (by omega))]
theorem lc_cnt_0 {f : Nat → Prop} {m : Nat} (h : ∀ x, x < m → ¬ f x) : lc_cnt f m = 0 := by
  induction m with
  | zero => rfl
  | succ m ih => rw [lc_cnt_s, ih (fun x hx => h x (by omega)), lc_b_f (h m (by omega))]
theorem lc_cnt_add (f : Nat → Prop) (a b : Nat) : lc_cnt f (a + b) = lc_cnt f a + lc_cnt (fun x => f (a + x)) b := by
  induction b with
  | zero => rfl
  | succ b ih =>
    rw [← Nat.add_assoc, lc_cnt_s, lc_cnt_s, ih]
    omega
theorem lc_cnt_at {f : Nat → Prop} {m i : Nat} (h : i < lc_cnt f m) : ∃ x, x < m ∧ f x ∧ lc_cnt f x = i := by
  induction m with
  | zero => exact absurd h (Nat.not_lt_zero _)
  | succ m ih =>
    by_cases hi : i < lc_cnt f m
    · obtain ⟨x, hx, fx, e⟩ := ih hi
      exact ⟨x, by omega, fx, e⟩
    · by_cases fm : f m
      · rw [lc_cnt_t fm] at h
        exact ⟨m, by omega, fm, by omega⟩
      · rw [lc_cnt_f fm] at h
        omega
theorem lc_cnt_pos {f : Nat → Prop} {m : Nat} : 0 < lc_cnt f m ↔ ∃ x, x < m ∧ f x := by
  constructor
  · intro h
    obtain ⟨x, hx, fx, _⟩ := lc_cnt_at h
    exact ⟨x, hx, fx⟩
  · rintro ⟨x, hx, fx⟩
    have := lc_cnt_lt hx fx
    omega
theorem lc_dm_ex (m : Nat) : ∃ k, m ≤ 2 ^ k ∧ ∀ j, j < k → ¬ m ≤ 2 ^ j := pk_least (fun k => m ≤ 2 ^ k) ⟨m, Nat.le_of_lt Nat.lt_two_pow_self⟩
noncomputable def lc_dm (m : Nat) : Nat := Classical.choose (lc_dm_ex m)
theorem lc_dm_1 (m : Nat) : m ≤ 2 ^ lc_dm m := (Classical.choose_spec (lc_dm_ex m)).1
theorem lc_dm_2 {m j : Nat} (h : j < lc_dm m) : ¬ m ≤ 2 ^ j := (Classical.choose_spec (lc_dm_ex m)).2 j h
theorem lc_dm_le {m n : Nat} (h : m ≤ 2 ^ n) : lc_dm m ≤ n := by
  by_cases k : n < lc_dm m
  · exact absurd h (lc_dm_2 k)
  · omega
theorem lc_dm_pow (k : Nat) : lc_dm (2 ^ k) = k := by
  have h1 := lc_dm_le (Nat.le_refl (2 ^ k))
  have h2 := lc_dm_1 (2 ^ k)
  by_cases h : lc_dm (2 ^ k) < k
  · have := Nat.pow_lt_pow_right (a := 2) (by omega) h
    omega
  · omega
noncomputable def lc_wt (x : Nat) : Nat := lc_cnt (fun i => x.testBit i = true) 10
theorem lc_wt_le (x : Nat) : lc_wt x ≤ 10 := lc_cnt_le _ _
theorem lc_tb {x i : Nat} (h : x < 2 ^ i) : x.testBit i = false := Nat.testBit_lt_two_pow h
theorem lc_p2 {a b : Nat} (h : a ≤ b) : 2 ^ a ≤ 2 ^ b := Nat.pow_le_pow_right (by omega) h
theorem lc_wt_n {n x : Nat} (hn : n ≤ 10) (hx : x < 2 ^ n) : lc_cnt (fun i => x.testBit i = true) n = lc_wt x := by
  have e : (10 : Nat) = n + (10 - n) := by omega
  unfold lc_wt
  rw [e, lc_cnt_add, lc_cnt_0 (m := 10 - n)]
  · rfl
  · intro i _ h
    have := lc_tb (Nat.lt_of_lt_of_le hx (lc_p2 (a := n) (b := n + i) (by omega)))
    rw [this] at h
    exact absurd h (by decide)
theorem lc_wt_len {n x : Nat} (hn : n ≤ 10) (hx : x < 2 ^ n) : lc_wt x ≤ n := by
  rw [← lc_wt_n hn hx]
  exact lc_cnt_le _ _
def lc_od (x y : Nat) : Prop := lc_wt (x &&& y) % 2 = 1
theorem lc_od_comm (x y : Nat) : lc_od x y ↔ lc_od y x := by unfold lc_od; rw [Nat.and_comm]
theorem lc_cnt_xor (f g : Nat → Prop) (m : Nat) : lc_cnt (fun i => ¬ (f i ↔ g i)) m % 2 = (lc_cnt f m + lc_cnt g m) % 2 := by
  induction m with
  | zero => rfl
  | succ m ih =>
    rw [lc_cnt_s, lc_cnt_s, lc_cnt_s]
    by_cases hf : f m
    · by_cases hg : g m
      · rw [lc_b_t hf, lc_b_t hg, lc_b_f (P := ¬ (f m ↔ g m)) (fun h => h ⟨fun _ => hg, fun _ => hf⟩)]; omega
      · rw [lc_b_t hf, lc_b_f hg, lc_b_t (P := ¬ (f m ↔ g m)) (fun h => hg (h.mp hf))]; omega
    · by_cases hg : g m
      · rw [lc_b_f hf, lc_b_t hg, lc_b_t (P := ¬ (f m ↔ g m)) (fun h => hf (h.mpr hg))]; omega
      · rw [lc_b_f hf, lc_b_f hg, lc_b_f (P := ¬ (f m ↔ g m)) (fun h => h ⟨fun z => absurd z hf, fun z => absurd z hg⟩)]; omega
theorem lc_wt_xor (x y : Nat) : lc_wt (x ^^^ y) % 2 = (lc_wt x + lc_wt y) % 2 := by
  unfold lc_wt
  rw [← lc_cnt_xor]
  congr 1
  apply lc_cnt_c
  intro i _
  rw [Nat.testBit_xor]
  cases x.testBit i <;> cases y.testBit i <;> decide
theorem lc_and_xor (x y z : Nat) : (x ^^^ y) &&& z = (x &&& z) ^^^ (y &&& z) := by
  apply Nat.eq_of_testBit_eq
  intro i
  rw [Nat.testBit_and, Nat.testBit_xor, Nat.testBit_xor, Nat.testBit_and, Nat.testBit_and]
  cases x.testBit i <;> cases y.testBit i <;> cases z.testBit i <;> rfl
theorem lc_od_xor (x y z : Nat) (hx : ¬ lc_od x z) (hy : ¬ lc_od y z) : ¬ lc_od (x ^^^ y) z := by
  unfold lc_od at *
  rw [lc_and_xor, lc_wt_xor]
  omega
theorem lc_xx (x y : Nat) : (x ^^^ y) ^^^ y = x := by
  rw [Nat.xor_assoc, Nat.xor_self, Nat.xor_zero]
theorem lc_x4 (x y z : Nat) : (x ^^^ z) ^^^ (y ^^^ z) = x ^^^ y := by
  rw [Nat.xor_comm y z, ← Nat.xor_assoc, lc_xx]
theorem lc_xl {x y n : Nat} (hx : x < 2 ^ n) (hy : y < 2 ^ n) : x ^^^ y < 2 ^ n := Nat.xor_lt_two_pow hx hy
theorem lc_al {x y n : Nat} (hx : x < 2 ^ n) : x &&& y < 2 ^ n := Nat.lt_of_le_of_lt Nat.and_le_left hx
theorem lc_add_xor {m x : Nat} (h : x < 2 ^ m) : 2 ^ m + x = 2 ^ m ^^^ x := by
  apply Nat.eq_of_testBit_eq
  intro i
  rw [Nat.testBit_xor, Nat.testBit_two_pow]
  rcases Nat.lt_trichotomy i m with hi | hi | hi
  · rw [Nat.testBit_two_pow_add_gt hi, decide_eq_false (by omega)]
    cases x.testBit i <;> rfl
  · subst hi
    rw [Nat.testBit_two_pow_add_eq, decide_eq_true rfl, lc_tb h]
    rfl
  · have e : 2 ^ m + x < 2 ^ i := by
      have := lc_p2 (a := m + 1) (b := i) (by omega)
      have e2 : 2 ^ (m + 1) = 2 ^ m * 2 := Nat.pow_succ ..
      omega
    rw [lc_tb e, lc_tb (x := x) (by omega), decide_eq_false (by omega)]
    rfl
theorem lc_sh : ∀ (m : Nat) (f : Nat → Prop) (w : Nat), w < 2 ^ m → lc_cnt (fun x => f (x ^^^ w)) (2 ^ m) = lc_cnt f (2 ^ m) := by
  intro m
  induction m with
  | zero =>
    intro f w hw
    have e : w = 0 := by omega
    subst e
    exact lc_cnt_c (fun x _ => by rw [Nat.xor_zero])
  | succ m ih =>
    intro f w hw
    have e2 : 2 ^ (m + 1) = 2 ^ m + 2 ^ m := by rw [Nat.pow_succ]; omega
    rw [e2, lc_cnt_add, lc_cnt_add]
    by_cases h : w < 2 ^ m
    · rw [ih f w h, ← ih (fun x => f (2 ^ m + x)) w h]
      congr 1
      apply lc_cnt_c
      intro x hx
      rw [lc_add_xor hx, lc_add_xor (lc_xl hx h), Nat.xor_assoc]
    · obtain ⟨v, rfl⟩ : ∃ v, w = 2 ^ m + v := ⟨w - 2 ^ m, by omega⟩
      have hv : v < 2 ^ m := by omega
      have a1 : lc_cnt (fun x => f (x ^^^ (2 ^ m + v))) (2 ^ m) = lc_cnt (fun x => f (2 ^ m + x)) (2 ^ m) := by
        rw [← ih (fun x => f (2 ^ m + x)) v hv]
        apply lc_cnt_c
        intro x hx
        rw [lc_add_xor hv, lc_add_xor (lc_xl hx hv), Nat.xor_comm (2 ^ m) v, ← Nat.xor_assoc, Nat.xor_comm (2 ^ m)]
      have a2 : lc_cnt (fun x => f ((2 ^ m + x) ^^^ (2 ^ m + v))) (2 ^ m) = lc_cnt f (2 ^ m) := by
        rw [← ih f v hv]
        apply lc_cnt_c
        intro x hx
        rw [lc_add_xor hv, lc_add_xor hx, Nat.xor_comm (2 ^ m) x, Nat.xor_comm (2 ^ m) v, lc_x4]
      rw [a1, a2, Nat.add_comm]
