/-- a code of words of n bits that has 0 and is closed under sums -/
def lc_LC (n : Nat) (f : Nat → Prop) : Prop := f 0 ∧ ∀ x y, x < 2 ^ n → y < 2 ^ n → f x → f y → f (x ^^^ y)
theorem lc_pow : ∀ (n : Nat) (f : Nat → Prop), lc_LC n f → ∃ k, lc_cnt f (2 ^ n) = 2 ^ k := by
  intro n
  induction n with
  | zero =>
    intro f h
    exact ⟨0, lc_cnt_t (m := 0) h.1⟩
  | succ m ih =>
    intro f h
    have e2 : 2 ^ (m + 1) = 2 ^ m + 2 ^ m := by rw [Nat.pow_succ]; omega
    obtain ⟨k, hk⟩ := ih f ⟨h.1, fun x y hx hy => h.2 x y (by omega) (by omega)⟩
    rw [e2, lc_cnt_add]
    by_cases hw : ∃ w, w < 2 ^ m ∧ f (2 ^ m + w)
    · obtain ⟨w, hw, fw⟩ := hw
      have e : lc_cnt (fun x => f (2 ^ m + x)) (2 ^ m) = lc_cnt f (2 ^ m) := by
        rw [← lc_sh m f w hw]
        apply lc_cnt_c
        intro x hx
        constructor
        · intro fx
          have := h.2 _ _ (by omega) (by omega) fx fw
          rw [lc_add_xor hx, lc_add_xor hw, Nat.xor_comm (2 ^ m) x, Nat.xor_comm (2 ^ m) w, lc_x4] at this
          exact this
        · intro fx
          have hl := lc_xl hx hw
          have := h.2 _ _ (by omega) (by omega) fx fw
          rw [lc_add_xor hw, lc_x4, Nat.xor_comm x, ← lc_add_xor hx] at this
          exact this
      refine ⟨k + 1, ?_⟩
      rw [e, hk, Nat.pow_succ]
      omega
    · refine ⟨k, ?_⟩
      rw [lc_cnt_0 (m := 2 ^ m) (f := fun x => f (2 ^ m + x)) (fun x hx fx => hw ⟨x, hx, fx⟩), hk]
      rfl
theorem lc_LC_c {n : Nat} {f g : Nat → Prop} (h : lc_LC n f) (e : ∀ x, x < 2 ^ n → (f x ↔ g x)) : lc_LC n g :=
  ⟨(e 0 (Nat.two_pow_pos n)).mp h.1, fun x y hx hy gx gy => (e _ (lc_xl hx hy)).mp (h.2 x y hx hy ((e x hx).mpr gx) ((e y hy).mpr gy))⟩
theorem lc_LC_add {n : Nat} {f : Nat → Prop} (h : lc_LC n f) {w : Nat} (hw : w < 2 ^ n) : lc_LC n (fun v => f v ∨ f (v ^^^ w)) := by
  refine ⟨Or.inl h.1, fun x y hx hy fx fy => ?_⟩
  have hxw := lc_xl hx hw
  have hyw := lc_xl hy hw
  rcases fx with fx | fx
  · rcases fy with fy | fy
    · exact Or.inl (h.2 x y hx hy fx fy)
    · right
      have := h.2 _ _ hx hyw fx fy
      rw [← Nat.xor_assoc] at this
      exact this
  · rcases fy with fy | fy
    · right
      have := h.2 _ _ hxw hy fx fy
      rw [Nat.xor_assoc, Nat.xor_comm w y, ← Nat.xor_assoc] at this
      exact this
    · left
      have := h.2 _ _ hxw hyw fx fy
      rw [lc_x4] at this
      exact this
theorem lc_LC_clear (n : Nat) : lc_LC n (fun v => v = 0) := by
  refine ⟨rfl, fun x y _ _ hx hy => ?_⟩
  dsimp only at hx hy ⊢
  rw [hx, hy]
  rfl
def lc_dual (n : Nat) (f : Nat → Prop) (v : Nat) : Prop := ∀ x, x < 2 ^ n → f x → ¬ lc_od x v
theorem lc_wt0 : lc_wt 0 = 0 := lc_cnt_0 (fun i _ h => by rw [Nat.zero_testBit] at h; exact absurd h (by decide))
theorem lc_LC_dual (n : Nat) (f : Nat → Prop) : lc_LC n (lc_dual n f) := by
  refine ⟨fun x _ _ h => ?_, fun x y _ _ fx fy z hz fz => ?_⟩
  · unfold lc_od at h
    rw [Nat.and_zero, lc_wt0] at h
    omega
  · rw [lc_od_comm]
    exact lc_od_xor x y z (fun k => fx z hz fz ((lc_od_comm _ _).mp k)) (fun k => fy z hz fz ((lc_od_comm _ _).mp k))
theorem lc_LC_short {n : Nat} {f : Nat → Prop} (h : lc_LC n f) (p : Nat) : lc_LC n (fun v => f v ∧ ¬ v.testBit p = true) := by
  refine ⟨⟨h.1, by rw [Nat.zero_testBit]; decide⟩, fun x y hx hy fx fy => ⟨h.2 x y hx hy fx.1 fy.1, ?_⟩⟩
  have a := fx.2
  have b := fy.2
  rw [Nat.testBit_xor]
  revert a b
  cases x.testBit p <;> cases y.testBit p <;> decide
theorem lc_LC_punc {n : Nat} {f : Nat → Prop} (h : lc_LC n f) (m : Nat) : lc_LC n (fun y => ∃ v, v < 2 ^ n ∧ f v ∧ y = v &&& m) := by
  refine ⟨⟨0, Nat.two_pow_pos n, h.1, (Nat.zero_and m).symm⟩, fun x y hx hy fx fy => ?_⟩
  obtain ⟨a, ha, fa, rfl⟩ := fx
  obtain ⟨b, hb, fb, rfl⟩ := fy
  exact ⟨a ^^^ b, lc_xl ha hb, h.2 a b ha hb fa fb, (lc_and_xor a b m).symm⟩
theorem lc_LC_meet {n : Nat} {f g : Nat → Prop} (h : lc_LC n f) (k : lc_LC n g) : lc_LC n (fun v => f v ∧ g v) :=
  ⟨⟨h.1, k.1⟩, fun x y hx hy fx fy => ⟨h.2 x y hx hy fx.1 fy.1, k.2 x y hx hy fx.2 fy.2⟩⟩
def lc_sw (i j x : Nat) : Nat := if x.testBit i = x.testBit j then x else (x ^^^ 2 ^ i) ^^^ 2 ^ j
def lc_pi (i j k : Nat) : Nat := if k = i then j else if k = j then i else k
theorem lc_sw_tb (i j x k : Nat) : (lc_sw i j x).testBit k = x.testBit (lc_pi i j k) := by
  unfold lc_sw lc_pi
  by_cases h : x.testBit i = x.testBit j
  · rw [if_pos h]
    by_cases hi : k = i
    · rw [if_pos hi, hi, h]
    · rw [if_neg hi]
      by_cases hj : k = j
      · rw [if_pos hj, hj, h]
      · rw [if_neg hj]
  · rw [if_neg h, Nat.testBit_xor, Nat.testBit_xor, Nat.testBit_two_pow, Nat.testBit_two_pow]
    have hij : i ≠ j := fun e => h (by rw [e])
    by_cases hi : k = i
    · rw [if_pos hi, hi, decide_eq_true rfl, decide_eq_false (fun e => hij e.symm)]
      revert h
      cases x.testBit i <;> cases x.testBit j <;> decide
    · rw [if_neg hi, decide_eq_false (fun e => hi e.symm)]
      by_cases hj : k = j
      · rw [if_pos hj, hj, decide_eq_true rfl]
        revert h
        cases x.testBit i <;> cases x.testBit j <;> decide
      · rw [if_neg hj, decide_eq_false (fun e => hj e.symm)]
        cases x.testBit k <;> rfl
theorem lc_pi_pi (i j k : Nat) : lc_pi i j (lc_pi i j k) = k := by
  unfold lc_pi
  by_cases hi : k = i
  · rw [if_pos hi]
    by_cases hj : j = i
    · rw [if_pos hj]; omega
    · rw [if_neg hj, if_pos rfl, hi]
  · rw [if_neg hi]
    by_cases hj : k = j
    · rw [if_pos hj, if_pos rfl, hj]
    · rw [if_neg hj, if_neg hi, if_neg hj]
theorem lc_sw_sw (i j x : Nat) : lc_sw i j (lc_sw i j x) = x := by
  apply Nat.eq_of_testBit_eq
  intro k
  rw [lc_sw_tb, lc_sw_tb, lc_pi_pi]
theorem lc_sw_xor (i j x y : Nat) : lc_sw i j (x ^^^ y) = lc_sw i j x ^^^ lc_sw i j y := by
  apply Nat.eq_of_testBit_eq
  intro k
  rw [lc_sw_tb, Nat.testBit_xor, Nat.testBit_xor, lc_sw_tb, lc_sw_tb]
theorem lc_sw_lt {n i j x : Nat} (hi : i < n) (hj : j < n) (hx : x < 2 ^ n) : lc_sw i j x < 2 ^ n := by
  unfold lc_sw
  split
  · exact hx
  · exact lc_xl (lc_xl hx (Nat.pow_lt_pow_right (by omega) hi)) (Nat.pow_lt_pow_right (by omega) hj)
theorem lc_LC_exch {n : Nat} {f : Nat → Prop} (h : lc_LC n f) {i j : Nat} (hi : i < n) (hj : j < n) : lc_LC n (fun v => f (lc_sw i j v)) := by
  refine ⟨?_, fun x y hx hy fx fy => ?_⟩
  · have e : lc_sw i j 0 = 0 := by unfold lc_sw; rw [Nat.zero_testBit, Nat.zero_testBit, if_pos rfl]
    dsimp only
    rw [e]
    exact h.1
  · dsimp only at fx fy ⊢
    rw [lc_sw_xor]
    exact h.2 _ _ (lc_sw_lt hi hj hx) (lc_sw_lt hi hj hy) fx fy
/-! tables -/
noncomputable def lc_em (T : Nat → Prop) : Nat → Int32 := fun j => nI (lc_b (T j))
def lc_cd (T : Nat → Prop) (c x : Nat) : Prop := T (c * 1024 + x)
def lc_put (T : Nat → Prop) (c : Nat) (g : Nat → Prop) (m : Nat) : Nat → Prop := fun j => (c * 1024 ≤ j ∧ j < c * 1024 + m ∧ g (j - c * 1024)) ∨ (¬ (c * 1024 ≤ j ∧ j < c * 1024 + m) ∧ T j)
theorem lc_put_0 (T : Nat → Prop) (c : Nat) (g : Nat → Prop) : lc_put T c g 0 = T := by
  funext j
  apply propext
  unfold lc_put
  constructor
  · rintro (h | h)
    · omega
    · exact h.2
  · intro h
    exact Or.inr ⟨by omega, h⟩
theorem lc_put_s (T : Nat → Prop) (c : Nat) (g : Nat → Prop) (m : Nat) : upd (lc_em (lc_put T c g m)) (c * 1024 + m) (nI (lc_b (g m))) = lc_em (lc_put T c g (m + 1)) := by
  funext j
  by_cases h : j = c * 1024 + m
  · rw [h, pk_us]
    unfold lc_em lc_put
    refine congrArg nI (lc_b_c ?_)
    rw [Nat.add_sub_cancel_left]
    constructor
    · intro k
      exact Or.inl ⟨by omega, by omega, k⟩
    · rintro (k | k)
      · exact k.2.2
      · omega
  · rw [pk_un h]
    unfold lc_em lc_put
    refine congrArg nI (lc_b_c ?_)
    constructor
    · rintro (k | k)
      · exact Or.inl ⟨k.1, by omega, k.2.2⟩
      · exact Or.inr ⟨by omega, k.2⟩
    · rintro (k | k)
      · exact Or.inl ⟨k.1, by omega, k.2.2⟩
      · exact Or.inr ⟨by omega, k.2⟩
theorem lc_cd_put {T : Nat → Prop} {c : Nat} {g : Nat → Prop} {m x : Nat} (hx : x < m) : lc_cd (lc_put T c g m) c x ↔ g x := by
  unfold lc_cd lc_put
  rw [Nat.add_sub_cancel_left]
  constructor
  · rintro (k | k)
    · exact k.2.2
    · omega
  · intro k
    exact Or.inl ⟨by omega, by omega, k⟩
theorem lc_cd_put' {T : Nat → Prop} {c c' : Nat} {g : Nat → Prop} {m x : Nat} (hm : m ≤ 1024) (hx : x < 1024) (hc : c ≠ c') : lc_cd (lc_put T c g m) c' x ↔ lc_cd T c' x := by
  unfold lc_cd lc_put
  constructor
  · rintro (k | k)
    · omega
    · exact k.2
  · intro k
    exact Or.inr ⟨by omega, k⟩
theorem lc_W {n : Nat} (hn : n ≤ 10) : 2 ^ n ≤ 1024 := lc_p2 hn
theorem lc_LC_put {n : Nat} (hn : n ≤ 10) {T : Nat → Prop} (h : ∀ c, c ≤ 1 → lc_LC n (lc_cd T c)) {g : Nat → Prop} (hg : lc_LC n g) (c : Nat) : ∀ c', c' ≤ 1 → lc_LC n (lc_cd (lc_put T c g (2 ^ n)) c') := by
  intro c' hc'
  have hW := lc_W hn
  by_cases e : c = c'
  · subst e
    exact lc_LC_c hg (fun x hx => (lc_cd_put hx).symm)
  · exact lc_LC_c (h c' hc') (fun x hx => (lc_cd_put' hW (by omega) e).symm)
/-! leaders and distances -/
def lc_ldr (f : Nat → Prop) (v : Nat) : Prop := ∀ u, u < v → ¬ f (u ^^^ v)
theorem lc_ldr_ex {n : Nat} {f : Nat → Prop} (h : lc_LC n f) {x : Nat} (hx : x < 2 ^ n) (k : ¬ lc_ldr f x) : ∃ z, z < x ∧ lc_ldr f z ∧ f (z ^^^ x) := by
  have e : ∃ u, u < x ∧ f (u ^^^ x) := by
    by_cases q : ∃ u, u < x ∧ f (u ^^^ x)
    · exact q
    · exact absurd (fun u hu fu => q ⟨u, hu, fu⟩) k
  obtain ⟨z, ⟨hz, fz⟩, lz⟩ := pk_least (fun u => u < x ∧ f (u ^^^ x)) e
  refine ⟨z, hz, fun t ht ft => lz t ht ⟨by omega, ?_⟩, fz⟩
  have := h.2 _ _ (lc_xl (by omega) (by omega)) (lc_xl (by omega) hx) ft fz
  rw [Nat.xor_comm z x, lc_x4] at this
  exact this
def lc_isD (n : Nat) (f : Nat → Prop) (v k : Nat) : Prop := (∃ u, u < 2 ^ n ∧ f u ∧ lc_wt (u ^^^ v) = k) ∧ ∀ u, u < 2 ^ n → f u → k ≤ lc_wt (u ^^^ v)
theorem lc_isD_u {n : Nat} {f : Nat → Prop} {v k k' : Nat} (h : lc_isD n f v k) (h' : lc_isD n f v k') : k = k' := by
  obtain ⟨⟨u, hu, fu, e⟩, l⟩ := h
  obtain ⟨⟨u', hu', fu', e'⟩, l'⟩ := h'
  have a := l u' hu' fu'
  have b := l' u hu fu
  omega
noncomputable def lc_ds (n : Nat) (f : Nat → Prop) (v : Nat) : Nat := Classical.epsilon (lc_isD n f v)
theorem lc_ds_u {n : Nat} {f : Nat → Prop} {v k : Nat} (h : lc_isD n f v k) : lc_ds n f v = k := lc_isD_u (Classical.epsilon_spec ⟨k, h⟩) h
theorem lc_ds_s {n : Nat} {f : Nat → Prop} (h : f 0) (v : Nat) : lc_isD n f v (lc_ds n f v) := by
  have e : ∃ k, lc_isD n f v k := by
    obtain ⟨k, hk, l⟩ := pk_least (fun k => ∃ u, u < 2 ^ n ∧ f u ∧ lc_wt (u ^^^ v) = k) ⟨_, 0, Nat.two_pow_pos n, h, rfl⟩
    refine ⟨k, hk, fun u hu fu => ?_⟩
    by_cases q : k ≤ lc_wt (u ^^^ v)
    · exact q
    · exact absurd ⟨u, hu, fu, rfl⟩ (l _ (Nat.lt_of_not_le q))
  exact Classical.epsilon_spec e
theorem lc_ds_le {n : Nat} (hn : n ≤ 10) {f : Nat → Prop} (h : f 0) {v : Nat} (hv : v < 2 ^ n) : lc_ds n f v ≤ n := by
  have a := (lc_ds_s (n := n) h v).2 0 (Nat.two_pow_pos n) h
  rw [Nat.zero_xor] at a
  exact Nat.le_trans a (lc_wt_len hn hv)
