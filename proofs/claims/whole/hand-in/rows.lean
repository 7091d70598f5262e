section
theorem pk_us {f : Nat → Int32} {k : Nat} {x : Int32} : upd f k x k = x := if_pos rfl
theorem pk_un {f : Nat → Int32} {k j : Nat} {x : Int32} (h : j ≠ k) : upd f k x j = f j := if_neg h
theorem pk_sub {a b : Nat} (h : b ≤ a) : nI a - nI b = nI (a - b) := by
  obtain ⟨c, rfl⟩ : ∃ c, a = c + b := ⟨a - b, by omega⟩
  rw [← nI_add, Int32.add_sub_cancel, Nat.add_sub_cancel]
theorem pk_mul (a b : Nat) : nI a * nI b = nI (a * b) := (Int32.ofNat_mul a b).symm
theorem pk_div {a d : Nat} (ha : a < 2 ^ 31) (h0 : 0 < d) (hd : d < 2 ^ 31) : nI a / nI d = nI (a / d) := by
  apply Int32.toInt_inj.mp
  rw [lg_idiv_nonneg (by rw [nI_toInt ha]; omega) (by rw [nI_toInt hd]; omega), nI_toInt ha, nI_toInt hd, nI_toInt (Nat.lt_of_le_of_lt (Nat.div_le_self a d) ha)]
  first | rfl | exact (Int.natCast_ediv _ _).symm
theorem pk_rem {a d : Nat} (ha : a < 2 ^ 31) (h0 : 0 < d) (hd : d < 2 ^ 31) : nI a - nI a / nI d * nI d = nI (a % d) := by
  rw [pk_div ha h0 hd, pk_mul, pk_sub (Nat.div_mul_le_self a d)]
  exact congrArg nI (by have := Nat.div_add_mod' a d; omega)
theorem pk_ix (x : Int32) {n : Nat} (hn : n < 2 ^ 31) : x < 0 ∨ nI n ≤ x ∨ ∃ j : Nat, j < n ∧ x = nI j := by
  by_cases h : x < 0
  · exact Or.inl h
  · obtain ⟨j, hj, rfl⟩ := nI_of h
    by_cases h2 : j < n
    · exact Or.inr (Or.inr ⟨j, h2, rfl⟩)
    · exact Or.inr (Or.inl (nI_le (by omega) hj))
theorem pk_le {x y : Int32} {A B : Prop} (a b : Nat) (f : a ≤ b → A) (g : b < a → B) (hx : x = nI a := by rfl) (hy : y = nI b := by rfl) (ha : a < 2 ^ 31 := by omega) (hb : b < 2 ^ 31 := by omega) : (x ≤ y → A) ∧ (¬ x ≤ y → B) := by
  subst hx hy
  rw [nI_leI ha hb]
  exact ⟨f, fun z => g (by omega)⟩
theorem pk_lt {x y : Int32} {A B : Prop} (a b : Nat) (f : a < b → A) (g : b ≤ a → B) (hx : x = nI a := by rfl) (hy : y = nI b := by rfl) (ha : a < 2 ^ 31 := by omega) (hb : b < 2 ^ 31 := by omega) : (x < y → A) ∧ (¬ x < y → B) := by
  subst hx hy
  rw [nI_ltI ha hb]
  exact ⟨f, fun z => g (by omega)⟩
theorem pk_eq {x y : Int32} {A B : Prop} (a b : Nat) (f : a = b → A) (g : a ≠ b → B) (hx : x = nI a := by rfl) (hy : y = nI b := by rfl) (ha : a < 2 ^ 31 := by omega) (hb : b < 2 ^ 31 := by omega) : (x = y → A) ∧ (¬ x = y → B) := by
  subst hx hy
  rw [nI_eq ha hb]
  exact ⟨f, g⟩
theorem pk_in {x : Int32} (n N : Nat) (h : n < N) (hx : x = nI n := by rfl) (hN : N < 2 ^ 31 := by omega) : vp_in x N := by
  subst hx
  exact vp_in_nI h hN
theorem pk_cl {x : Int32} (n : Nat) (hx : x = nI n := by rfl) (h : n < 2 ^ 31 := by omega) : x.toNatClampNeg = n := by
  subst hx
  exact nI_clamp h
theorem pk_tn {n : Nat} (h : n < 2 ^ 32) : (nI n).toBitVec.toNat = n := Nat.mod_eq_of_lt h
theorem pk_shl (a s : Int32) (k : Nat) (hs : (s.toBitVec.smod 32).toNat = k) : (a <<< s).toBitVec.toNat = a.toBitVec.toNat * 2 ^ k % 2 ^ 32 := by
  show (a.toBitVec <<< (s.toBitVec.smod 32).toNat).toNat = _
  rw [hs, BitVec.toNat_shiftLeft, Nat.shiftLeft_eq]
theorem pk_shlN {n : Nat} (s : Int32) (k : Nat) (hs : (s.toBitVec.smod 32).toNat = k) (h : n * 2 ^ k < 2 ^ 32) : nI n <<< s = nI (n * 2 ^ k) := by
  apply Int32.toBitVec_inj.mp
  apply BitVec.eq_of_toNat_eq
  have hn : n < 2 ^ 32 := Nat.lt_of_le_of_lt (Nat.le_mul_of_pos_right n (Nat.two_pow_pos k)) h
  rw [pk_shl _ _ k hs, pk_tn hn, pk_tn h, Nat.mod_eq_of_lt h]
theorem pk_shr (a s : Int32) (k : Nat) (hs : (s.toBitVec.smod 32).toNat = k) : (a >>> s).toInt = a.toInt >>> k := by
  show (a.toBitVec.sshiftRight (s.toBitVec.smod 32).toNat).toInt = _
  rw [hs, BitVec.toInt_sshiftRight]
  rfl
theorem pk_shrN {n : Nat} (h : n < 2 ^ 31) (s : Int32) (k : Nat) (hs : (s.toBitVec.smod 32).toNat = k) : nI n >>> s = nI (n / 2 ^ k) := by
  apply Int32.toInt_inj.mp
  have h2 : n / 2 ^ k ≤ n := Nat.div_le_self _ _
  rw [pk_shr _ _ k hs, nI_toInt h, nI_toInt (by omega), Int.shiftRight_eq_div_pow]
  rfl
theorem pk_loop {σ : Type} (W : Nat → Nat → σ → Prop) (I : Nat → σ → Prop) (e i0 : Nat) (s : σ) (hi : i0 ≤ e) (h0 : I i0 s) (hx : ∀ n s, I e s → W (n + 1) e s)
    (hs : ∀ n i s, i < e → I i s → (∀ s', I (i + 1) s' → W n (i + 1) s') → W (n + 1) i s) : ∃ n, W n i0 s :=
  ⟨e + 1, loop_i W I e hx hs (e + 1) i0 s hi (by omega) h0⟩
theorem pk_least (P : Nat → Prop) (h : ∃ k, P k) : ∃ k, P k ∧ ∀ j, j < k → ¬ P j := by
  obtain ⟨k, hk⟩ := h
  induction k using Nat.strongRecOn with
  | ind k ih =>
    by_cases e : ∃ j, j < k ∧ P j
    · obtain ⟨j, hj, pj⟩ := e
      exact ih j hj pj
    · exact ⟨k, hk, fun j hj pj => e ⟨j, hj, pj⟩⟩
theorem s_l : ∀ n, n < 32 → ((nI n &&& 31).toBitVec.smod 32).toNat = n := by decide +kernel
theorem nx_and (a b : Nat) : nI a &&& nI b = nI (a &&& b) := by
  apply Int32.toBitVec_inj.1
  show BitVec.ofNat 32 a &&& BitVec.ofNat 32 b = BitVec.ofNat 32 (a &&& b)
  apply BitVec.eq_of_getLsbD_eq
  intro i hi
  simp [hi]
theorem nx_xor (a b : Nat) : nI a ^^^ nI b = nI (a ^^^ b) := by
  apply Int32.toBitVec_inj.1
  show BitVec.ofNat 32 a ^^^ BitVec.ofNat 32 b = BitVec.ofNat 32 (a ^^^ b)
  apply BitVec.eq_of_getLsbD_eq
  intro i hi
  simp [hi]
end
section
noncomputable def lc_b (P : Prop) : Nat := @ite Nat P (Classical.propDecidable P) 1 0
theorem lc_b_t {P : Prop} (h : P) : lc_b P = 1 := if_pos h
theorem lc_b_f {P : Prop} (h : ¬ P) : lc_b P = 0 := if_neg h
theorem lc_b_le (P : Prop) : lc_b P ≤ 1 := by
  by_cases h : P
  · rw [lc_b_t h]; omega
  · rw [lc_b_f h]; omega
theorem lc_b_c {P Q : Prop} (h : P ↔ Q) : lc_b P = lc_b Q := by rw [propext h]
theorem lc_b_i {P : Prop} (h : lc_b P = 1) : P := by
  by_cases k : P
  · exact k
  · rw [lc_b_f k] at h; omega
noncomputable def lc_cnt (f : Nat → Prop) : Nat → Nat
  | 0 => 0
  | m + 1 => lc_cnt f m + lc_b (f m)
theorem lc_cnt_s (f : Nat → Prop) (m : Nat) : lc_cnt f (m + 1) = lc_cnt f m + lc_b (f m) := rfl
theorem lc_cnt_t {f : Nat → Prop} {m : Nat} (h : f m) : lc_cnt f (m + 1) = lc_cnt f m + 1 := by rw [lc_cnt_s, lc_b_t h]
theorem lc_cnt_f {f : Nat → Prop} {m : Nat} (h : ¬ f m) : lc_cnt f (m + 1) = lc_cnt f m := by rw [lc_cnt_s, lc_b_f h]; rfl
theorem lc_cnt_le (f : Nat → Prop) (m : Nat) : lc_cnt f m ≤ m := by
  induction m with
  | zero => exact Nat.le_refl 0
  | succ m ih => have := lc_b_le (f m); rw [lc_cnt_s]; omega
theorem lc_cnt_mono (f : Nat → Prop) {a b : Nat} (h : a ≤ b) : lc_cnt f a ≤ lc_cnt f b := by
  induction b with
  | zero => have e : a = 0 := by omega
            rw [e]; exact Nat.le_refl _
  | succ b ih =>
    by_cases e : a = b + 1
    · rw [e]; exact Nat.le_refl _
    · have := ih (by omega)
      rw [lc_cnt_s]; omega
theorem lc_cnt_lt {f : Nat → Prop} {x m : Nat} (hx : x < m) (h : f x) : lc_cnt f x < lc_cnt f m := by
  have := lc_cnt_mono f (a := x + 1) (b := m) (by omega)
  rw [lc_cnt_t h] at this
  omega
theorem lc_cnt_c {f g : Nat → Prop} {m : Nat} (h : ∀ x, x < m → (f x ↔ g x)) : lc_cnt f m = lc_cnt g m := by
  induction m with
  | zero => rfl
  | succ m ih => rw [lc_cnt_s, lc_cnt_s, ih (fun x hx => h x (by omega)), lc_b_c (h m (by omega))]
theorem lc_cnt_0 {f : Nat → Prop} {m : Nat} (h : ∀ x, x < m → ¬ f x) : lc_cnt f m = 0 := by
  induction m with
  | zero => rfl
  | succ m ih => rw [lc_cnt_s, ih (fun x hx => h x (by omega)), lc_b_f (h m (by omega))]
theorem lc_cnt_add (f : Nat → Prop) (a b : Nat) : lc_cnt f (a + b) = lc_cnt f a + lc_cnt (fun x => f (a + x)) b := by
  induction b with
  | zero => rfl
  | succ b ih =>
    rw [← Nat.add_assoc, lc_cnt_s, lc_cnt_s, ih]
    omega
theorem lc_cnt_at {f : Nat → Prop} {m i : Nat} (h : i < lc_cnt f m) : ∃ x, x < m ∧ f x ∧ lc_cnt f x = i := by
  induction m with
  | zero => exact absurd h (Nat.not_lt_zero _)
  | succ m ih =>
    by_cases hi : i < lc_cnt f m
    · obtain ⟨x, hx, fx, e⟩ := ih hi
      exact ⟨x, by omega, fx, e⟩
    · by_cases fm : f m
      · rw [lc_cnt_t fm] at h
        exact ⟨m, by omega, fm, by omega⟩
      · rw [lc_cnt_f fm] at h
        omega
theorem lc_cnt_pos {f : Nat → Prop} {m : Nat} : 0 < lc_cnt f m ↔ ∃ x, x < m ∧ f x := by
  constructor
  · intro h
    obtain ⟨x, hx, fx, _⟩ := lc_cnt_at h
    exact ⟨x, hx, fx⟩
  · rintro ⟨x, hx, fx⟩
    have := lc_cnt_lt hx fx
    omega
theorem lc_dm_ex (m : Nat) : ∃ k, m ≤ 2 ^ k ∧ ∀ j, j < k → ¬ m ≤ 2 ^ j := pk_least (fun k => m ≤ 2 ^ k) ⟨m, Nat.le_of_lt Nat.lt_two_pow_self⟩
noncomputable def lc_dm (m : Nat) : Nat := Classical.choose (lc_dm_ex m)
theorem lc_dm_1 (m : Nat) : m ≤ 2 ^ lc_dm m := (Classical.choose_spec (lc_dm_ex m)).1
theorem lc_dm_2 {m j : Nat} (h : j < lc_dm m) : ¬ m ≤ 2 ^ j := (Classical.choose_spec (lc_dm_ex m)).2 j h
theorem lc_dm_le {m n : Nat} (h : m ≤ 2 ^ n) : lc_dm m ≤ n := by
  by_cases k : n < lc_dm m
  · exact absurd h (lc_dm_2 k)
  · omega
theorem lc_dm_pow (k : Nat) : lc_dm (2 ^ k) = k := by
  have h1 := lc_dm_le (Nat.le_refl (2 ^ k))
  have h2 := lc_dm_1 (2 ^ k)
  by_cases h : lc_dm (2 ^ k) < k
  · have := Nat.pow_lt_pow_right (a := 2) (by omega) h
    omega
  · omega
noncomputable def lc_wt (x : Nat) : Nat := lc_cnt (fun i => x.testBit i = true) 10
theorem lc_wt_le (x : Nat) : lc_wt x ≤ 10 := lc_cnt_le _ _
theorem lc_tb {x i : Nat} (h : x < 2 ^ i) : x.testBit i = false := Nat.testBit_lt_two_pow h
theorem lc_p2 {a b : Nat} (h : a ≤ b) : 2 ^ a ≤ 2 ^ b := Nat.pow_le_pow_right (by omega) h
theorem lc_wt_n {n x : Nat} (hn : n ≤ 10) (hx : x < 2 ^ n) : lc_cnt (fun i => x.testBit i = true) n = lc_wt x := by
  have e : (10 : Nat) = n + (10 - n) := by omega
  unfold lc_wt
  rw [e, lc_cnt_add, lc_cnt_0 (m := 10 - n)]
  · rfl
  · intro i _ h
    have := lc_tb (Nat.lt_of_lt_of_le hx (lc_p2 (a := n) (b := n + i) (by omega)))
    rw [this] at h
    exact absurd h (by decide)
theorem lc_wt_len {n x : Nat} (hn : n ≤ 10) (hx : x < 2 ^ n) : lc_wt x ≤ n := by
  rw [← lc_wt_n hn hx]
  exact lc_cnt_le _ _
def lc_od (x y : Nat) : Prop := lc_wt (x &&& y) % 2 = 1
theorem lc_od_comm (x y : Nat) : lc_od x y ↔ lc_od y x := by unfold lc_od; rw [Nat.and_comm]
theorem lc_cnt_xor (f g : Nat → Prop) (m : Nat) : lc_cnt (fun i => ¬ (f i ↔ g i)) m % 2 = (lc_cnt f m + lc_cnt g m) % 2 := by
  induction m with
  | zero => rfl
  | succ m ih =>
    rw [lc_cnt_s, lc_cnt_s, lc_cnt_s]
    by_cases hf : f m
    · by_cases hg : g m
      · rw [lc_b_t hf, lc_b_t hg, lc_b_f (P := ¬ (f m ↔ g m)) (fun h => h ⟨fun _ => hg, fun _ => hf⟩)]; omega
      · rw [lc_b_t hf, lc_b_f hg, lc_b_t (P := ¬ (f m ↔ g m)) (fun h => hg (h.mp hf))]; omega
    · by_cases hg : g m
      · rw [lc_b_f hf, lc_b_t hg, lc_b_t (P := ¬ (f m ↔ g m)) (fun h => hf (h.mpr hg))]; omega
      · rw [lc_b_f hf, lc_b_f hg, lc_b_f (P := ¬ (f m ↔ g m)) (fun h => h ⟨fun z => absurd z hf, fun z => absurd z hg⟩)]; omega
theorem lc_wt_xor (x y : Nat) : lc_wt (x ^^^ y) % 2 = (lc_wt x + lc_wt y) % 2 := by
  unfold lc_wt
  rw [← lc_cnt_xor]
  congr 1
  apply lc_cnt_c
  intro i _
  rw [Nat.testBit_xor]
  cases x.testBit i <;> cases y.testBit i <;> decide
theorem lc_and_xor (x y z : Nat) : (x ^^^ y) &&& z = (x &&& z) ^^^ (y &&& z) := by
  apply Nat.eq_of_testBit_eq
  intro i
  rw [Nat.testBit_and, Nat.testBit_xor, Nat.testBit_xor, Nat.testBit_and, Nat.testBit_and]
  cases x.testBit i <;> cases y.testBit i <;> cases z.testBit i <;> rfl
theorem lc_od_xor (x y z : Nat) (hx : ¬ lc_od x z) (hy : ¬ lc_od y z) : ¬ lc_od (x ^^^ y) z := by
  unfold lc_od at *
  rw [lc_and_xor, lc_wt_xor]
  omega
theorem lc_xx (x y : Nat) : (x ^^^ y) ^^^ y = x := by
  rw [Nat.xor_assoc, Nat.xor_self, Nat.xor_zero]
theorem lc_x4 (x y z : Nat) : (x ^^^ z) ^^^ (y ^^^ z) = x ^^^ y := by
  rw [Nat.xor_comm y z, ← Nat.xor_assoc, lc_xx]
theorem lc_xl {x y n : Nat} (hx : x < 2 ^ n) (hy : y < 2 ^ n) : x ^^^ y < 2 ^ n := Nat.xor_lt_two_pow hx hy
theorem lc_al {x y n : Nat} (hx : x < 2 ^ n) : x &&& y < 2 ^ n := Nat.lt_of_le_of_lt Nat.and_le_left hx
theorem lc_add_xor {m x : Nat} (h : x < 2 ^ m) : 2 ^ m + x = 2 ^ m ^^^ x := by
  apply Nat.eq_of_testBit_eq
  intro i
  rw [Nat.testBit_xor, Nat.testBit_two_pow]
  rcases Nat.lt_trichotomy i m with hi | hi | hi
  · rw [Nat.testBit_two_pow_add_gt hi, decide_eq_false (by omega)]
    cases x.testBit i <;> rfl
  · subst hi
    rw [Nat.testBit_two_pow_add_eq, decide_eq_true rfl, lc_tb h]
    rfl
  · have e : 2 ^ m + x < 2 ^ i := by
      have := lc_p2 (a := m + 1) (b := i) (by omega)
      have e2 : 2 ^ (m + 1) = 2 ^ m * 2 := Nat.pow_succ ..
      omega
    rw [lc_tb e, lc_tb (x := x) (by omega), decide_eq_false (by omega)]
    rfl
theorem lc_sh : ∀ (m : Nat) (f : Nat → Prop) (w : Nat), w < 2 ^ m → lc_cnt (fun x => f (x ^^^ w)) (2 ^ m) = lc_cnt f (2 ^ m) := by
  intro m
  induction m with
  | zero =>
    intro f w hw
    have e : w = 0 := by omega
    subst e
    exact lc_cnt_c (fun x _ => by rw [Nat.xor_zero])
  | succ m ih =>
    intro f w hw
    have e2 : 2 ^ (m + 1) = 2 ^ m + 2 ^ m := by rw [Nat.pow_succ]; omega
    rw [e2, lc_cnt_add, lc_cnt_add]
    by_cases h : w < 2 ^ m
    · rw [ih f w h, ← ih (fun x => f (2 ^ m + x)) w h]
      congr 1
      apply lc_cnt_c
      intro x hx
      rw [lc_add_xor hx, lc_add_xor (lc_xl hx h), Nat.xor_assoc]
    · obtain ⟨v, rfl⟩ : ∃ v, w = 2 ^ m + v := ⟨w - 2 ^ m, by omega⟩
      have hv : v < 2 ^ m := by omega
      have a1 : lc_cnt (fun x => f (x ^^^ (2 ^ m + v))) (2 ^ m) = lc_cnt (fun x => f (2 ^ m + x)) (2 ^ m) := by
        rw [← ih (fun x => f (2 ^ m + x)) v hv]
        apply lc_cnt_c
        intro x hx
        rw [lc_add_xor hv, lc_add_xor (lc_xl hx hv), Nat.xor_comm (2 ^ m) v, ← Nat.xor_assoc, Nat.xor_comm (2 ^ m)]
      have a2 : lc_cnt (fun x => f ((2 ^ m + x) ^^^ (2 ^ m + v))) (2 ^ m) = lc_cnt f (2 ^ m) := by
        rw [← ih f v hv]
        apply lc_cnt_c
        intro x hx
        rw [lc_add_xor hv, lc_add_xor hx, Nat.xor_comm (2 ^ m) x, Nat.xor_comm (2 ^ m) v, lc_x4]
      rw [a1, a2, Nat.add_comm]
end
section
/-- a code of words of n bits that has 0 and is closed under sums -/
def lc_LC (n : Nat) (f : Nat → Prop) : Prop := f 0 ∧ ∀ x y, x < 2 ^ n → y < 2 ^ n → f x → f y → f (x ^^^ y)
theorem lc_pow : ∀ (n : Nat) (f : Nat → Prop), lc_LC n f → ∃ k, lc_cnt f (2 ^ n) = 2 ^ k := by
  intro n
  induction n with
  | zero =>
    intro f h
    exact ⟨0, lc_cnt_t (m := 0) h.1⟩
  | succ m ih =>
    intro f h
    have e2 : 2 ^ (m + 1) = 2 ^ m + 2 ^ m := by rw [Nat.pow_succ]; omega
    obtain ⟨k, hk⟩ := ih f ⟨h.1, fun x y hx hy => h.2 x y (by omega) (by omega)⟩
    rw [e2, lc_cnt_add]
    by_cases hw : ∃ w, w < 2 ^ m ∧ f (2 ^ m + w)
    · obtain ⟨w, hw, fw⟩ := hw
      have e : lc_cnt (fun x => f (2 ^ m + x)) (2 ^ m) = lc_cnt f (2 ^ m) := by
        rw [← lc_sh m f w hw]
        apply lc_cnt_c
        intro x hx
        constructor
        · intro fx
          have := h.2 _ _ (by omega) (by omega) fx fw
          rw [lc_add_xor hx, lc_add_xor hw, Nat.xor_comm (2 ^ m) x, Nat.xor_comm (2 ^ m) w, lc_x4] at this
          exact this
        · intro fx
          have hl := lc_xl hx hw
          have := h.2 _ _ (by omega) (by omega) fx fw
          rw [lc_add_xor hw, lc_x4, Nat.xor_comm x, ← lc_add_xor hx] at this
          exact this
      refine ⟨k + 1, ?_⟩
      rw [e, hk, Nat.pow_succ]
      omega
    · refine ⟨k, ?_⟩
      rw [lc_cnt_0 (m := 2 ^ m) (f := fun x => f (2 ^ m + x)) (fun x hx fx => hw ⟨x, hx, fx⟩), hk]
      rfl
theorem lc_LC_c {n : Nat} {f g : Nat → Prop} (h : lc_LC n f) (e : ∀ x, x < 2 ^ n → (f x ↔ g x)) : lc_LC n g :=
  ⟨(e 0 (Nat.two_pow_pos n)).mp h.1, fun x y hx hy gx gy => (e _ (lc_xl hx hy)).mp (h.2 x y hx hy ((e x hx).mpr gx) ((e y hy).mpr gy))⟩
theorem lc_LC_add {n : Nat} {f : Nat → Prop} (h : lc_LC n f) {w : Nat} (hw : w < 2 ^ n) : lc_LC n (fun v => f v ∨ f (v ^^^ w)) := by
  refine ⟨Or.inl h.1, fun x y hx hy fx fy => ?_⟩
  have hxw := lc_xl hx hw
  have hyw := lc_xl hy hw
  rcases fx with fx | fx
  · rcases fy with fy | fy
    · exact Or.inl (h.2 x y hx hy fx fy)
    · right
      have := h.2 _ _ hx hyw fx fy
      rw [← Nat.xor_assoc] at this
      exact this
  · rcases fy with fy | fy
    · right
      have := h.2 _ _ hxw hy fx fy
      rw [Nat.xor_assoc, Nat.xor_comm w y, ← Nat.xor_assoc] at this
      exact this
    · left
      have := h.2 _ _ hxw hyw fx fy
      rw [lc_x4] at this
      exact this
theorem lc_LC_clear (n : Nat) : lc_LC n (fun v => v = 0) := by
  refine ⟨rfl, fun x y _ _ hx hy => ?_⟩
  dsimp only at hx hy ⊢
  rw [hx, hy]
  rfl
def lc_dual (n : Nat) (f : Nat → Prop) (v : Nat) : Prop := ∀ x, x < 2 ^ n → f x → ¬ lc_od x v
theorem lc_wt0 : lc_wt 0 = 0 := lc_cnt_0 (fun i _ h => by rw [Nat.zero_testBit] at h; exact absurd h (by decide))
theorem lc_LC_dual (n : Nat) (f : Nat → Prop) : lc_LC n (lc_dual n f) := by
  refine ⟨fun x _ _ h => ?_, fun x y _ _ fx fy z hz fz => ?_⟩
  · unfold lc_od at h
    rw [Nat.and_zero, lc_wt0] at h
    omega
  · rw [lc_od_comm]
    exact lc_od_xor x y z (fun k => fx z hz fz ((lc_od_comm _ _).mp k)) (fun k => fy z hz fz ((lc_od_comm _ _).mp k))
theorem lc_LC_short {n : Nat} {f : Nat → Prop} (h : lc_LC n f) (p : Nat) : lc_LC n (fun v => f v ∧ ¬ v.testBit p = true) := by
  refine ⟨⟨h.1, by rw [Nat.zero_testBit]; decide⟩, fun x y hx hy fx fy => ⟨h.2 x y hx hy fx.1 fy.1, ?_⟩⟩
  have a := fx.2
  have b := fy.2
  rw [Nat.testBit_xor]
  revert a b
  cases x.testBit p <;> cases y.testBit p <;> decide
theorem lc_LC_punc {n : Nat} {f : Nat → Prop} (h : lc_LC n f) (m : Nat) : lc_LC n (fun y => ∃ v, v < 2 ^ n ∧ f v ∧ y = v &&& m) := by
  refine ⟨⟨0, Nat.two_pow_pos n, h.1, (Nat.zero_and m).symm⟩, fun x y hx hy fx fy => ?_⟩
  obtain ⟨a, ha, fa, rfl⟩ := fx
  obtain ⟨b, hb, fb, rfl⟩ := fy
  exact ⟨a ^^^ b, lc_xl ha hb, h.2 a b ha hb fa fb, (lc_and_xor a b m).symm⟩
theorem lc_LC_meet {n : Nat} {f g : Nat → Prop} (h : lc_LC n f) (k : lc_LC n g) : lc_LC n (fun v => f v ∧ g v) :=
  ⟨⟨h.1, k.1⟩, fun x y hx hy fx fy => ⟨h.2 x y hx hy fx.1 fy.1, k.2 x y hx hy fx.2 fy.2⟩⟩
def lc_sw (i j x : Nat) : Nat := if x.testBit i = x.testBit j then x else (x ^^^ 2 ^ i) ^^^ 2 ^ j
def lc_pi (i j k : Nat) : Nat := if k = i then j else if k = j then i else k
theorem lc_sw_tb (i j x k : Nat) : (lc_sw i j x).testBit k = x.testBit (lc_pi i j k) := by
  unfold lc_sw lc_pi
  by_cases h : x.testBit i = x.testBit j
  · rw [if_pos h]
    by_cases hi : k = i
    · rw [if_pos hi, hi, h]
    · rw [if_neg hi]
      by_cases hj : k = j
      · rw [if_pos hj, hj, h]
      · rw [if_neg hj]
  · rw [if_neg h, Nat.testBit_xor, Nat.testBit_xor, Nat.testBit_two_pow, Nat.testBit_two_pow]
    have hij : i ≠ j := fun e => h (by rw [e])
    by_cases hi : k = i
    · rw [if_pos hi, hi, decide_eq_true rfl, decide_eq_false (fun e => hij e.symm)]
      revert h
      cases x.testBit i <;> cases x.testBit j <;> decide
    · rw [if_neg hi, decide_eq_false (fun e => hi e.symm)]
      by_cases hj : k = j
      · rw [if_pos hj, hj, decide_eq_true rfl]
        revert h
        cases x.testBit i <;> cases x.testBit j <;> decide
      · rw [if_neg hj, decide_eq_false (fun e => hj e.symm)]
        cases x.testBit k <;> rfl
theorem lc_pi_pi (i j k : Nat) : lc_pi i j (lc_pi i j k) = k := by
  unfold lc_pi
  by_cases hi : k = i
  · rw [if_pos hi]
    by_cases hj : j = i
    · rw [if_pos hj]; omega
    · rw [if_neg hj, if_pos rfl, hi]
  · rw [if_neg hi]
    by_cases hj : k = j
    · rw [if_pos hj, if_pos rfl, hj]
    · rw [if_neg hj, if_neg hi, if_neg hj]
theorem lc_sw_sw (i j x : Nat) : lc_sw i j (lc_sw i j x) = x := by
  apply Nat.eq_of_testBit_eq
  intro k
  rw [lc_sw_tb, lc_sw_tb, lc_pi_pi]
theorem lc_sw_xor (i j x y : Nat) : lc_sw i j (x ^^^ y) = lc_sw i j x ^^^ lc_sw i j y := by
  apply Nat.eq_of_testBit_eq
  intro k
  rw [lc_sw_tb, Nat.testBit_xor, Nat.testBit_xor, lc_sw_tb, lc_sw_tb]
theorem lc_sw_lt {n i j x : Nat} (hi : i < n) (hj : j < n) (hx : x < 2 ^ n) : lc_sw i j x < 2 ^ n := by
  unfold lc_sw
  split
  · exact hx
  · exact lc_xl (lc_xl hx (Nat.pow_lt_pow_right (by omega) hi)) (Nat.pow_lt_pow_right (by omega) hj)
theorem lc_LC_exch {n : Nat} {f : Nat → Prop} (h : lc_LC n f) {i j : Nat} (hi : i < n) (hj : j < n) : lc_LC n (fun v => f (lc_sw i j v)) := by
  refine ⟨?_, fun x y hx hy fx fy => ?_⟩
  · have e : lc_sw i j 0 = 0 := by unfold lc_sw; rw [Nat.zero_testBit, Nat.zero_testBit, if_pos rfl]
    dsimp only
    rw [e]
    exact h.1
  · dsimp only at fx fy ⊢
    rw [lc_sw_xor]
    exact h.2 _ _ (lc_sw_lt hi hj hx) (lc_sw_lt hi hj hy) fx fy
/-! tables -/
noncomputable def lc_em (T : Nat → Prop) : Nat → Int32 := fun j => nI (lc_b (T j))
def lc_cd (T : Nat → Prop) (c x : Nat) : Prop := T (c * 1024 + x)
def lc_put (T : Nat → Prop) (c : Nat) (g : Nat → Prop) (m : Nat) : Nat → Prop := fun j => (c * 1024 ≤ j ∧ j < c * 1024 + m ∧ g (j - c * 1024)) ∨ (¬ (c * 1024 ≤ j ∧ j < c * 1024 + m) ∧ T j)
theorem lc_put_0 (T : Nat → Prop) (c : Nat) (g : Nat → Prop) : lc_put T c g 0 = T := by
  funext j
  apply propext
  unfold lc_put
  constructor
  · rintro (h | h)
    · omega
    · exact h.2
  · intro h
    exact Or.inr ⟨by omega, h⟩
theorem lc_put_s (T : Nat → Prop) (c : Nat) (g : Nat → Prop) (m : Nat) : upd (lc_em (lc_put T c g m)) (c * 1024 + m) (nI (lc_b (g m))) = lc_em (lc_put T c g (m + 1)) := by
  funext j
  by_cases h : j = c * 1024 + m
  · rw [h, pk_us]
    unfold lc_em lc_put
    refine congrArg nI (lc_b_c ?_)
    rw [Nat.add_sub_cancel_left]
    constructor
    · intro k
      exact Or.inl ⟨by omega, by omega, k⟩
    · rintro (k | k)
      · exact k.2.2
      · omega
  · rw [pk_un h]
    unfold lc_em lc_put
    refine congrArg nI (lc_b_c ?_)
    constructor
    · rintro (k | k)
      · exact Or.inl ⟨k.1, by omega, k.2.2⟩
      · exact Or.inr ⟨by omega, k.2⟩
    · rintro (k | k)
      · exact Or.inl ⟨k.1, by omega, k.2.2⟩
      · exact Or.inr ⟨by omega, k.2⟩
theorem lc_cd_put {T : Nat → Prop} {c : Nat} {g : Nat → Prop} {m x : Nat} (hx : x < m) : lc_cd (lc_put T c g m) c x ↔ g x := by
  unfold lc_cd lc_put
  rw [Nat.add_sub_cancel_left]
  constructor
  · rintro (k | k)
    · exact k.2.2
    · omega
  · intro k
    exact Or.inl ⟨by omega, by omega, k⟩
theorem lc_cd_put' {T : Nat → Prop} {c c' : Nat} {g : Nat → Prop} {m x : Nat} (hm : m ≤ 1024) (hx : x < 1024) (hc : c ≠ c') : lc_cd (lc_put T c g m) c' x ↔ lc_cd T c' x := by
  unfold lc_cd lc_put
  constructor
  · rintro (k | k)
    · omega
    · exact k.2
  · intro k
    exact Or.inr ⟨by omega, k⟩
theorem lc_W {n : Nat} (hn : n ≤ 10) : 2 ^ n ≤ 1024 := lc_p2 hn
theorem lc_LC_put {n : Nat} (hn : n ≤ 10) {T : Nat → Prop} (h : ∀ c, c ≤ 1 → lc_LC n (lc_cd T c)) {g : Nat → Prop} (hg : lc_LC n g) (c : Nat) : ∀ c', c' ≤ 1 → lc_LC n (lc_cd (lc_put T c g (2 ^ n)) c') := by
  intro c' hc'
  have hW := lc_W hn
  by_cases e : c = c'
  · subst e
    exact lc_LC_c hg (fun x hx => (lc_cd_put hx).symm)
  · exact lc_LC_c (h c' hc') (fun x hx => (lc_cd_put' hW (by omega) e).symm)
/-! leaders and distances -/
def lc_ldr (f : Nat → Prop) (v : Nat) : Prop := ∀ u, u < v → ¬ f (u ^^^ v)
theorem lc_ldr_ex {n : Nat} {f : Nat → Prop} (h : lc_LC n f) {x : Nat} (hx : x < 2 ^ n) (k : ¬ lc_ldr f x) : ∃ z, z < x ∧ lc_ldr f z ∧ f (z ^^^ x) := by
  have e : ∃ u, u < x ∧ f (u ^^^ x) := by
    by_cases q : ∃ u, u < x ∧ f (u ^^^ x)
    · exact q
    · exact absurd (fun u hu fu => q ⟨u, hu, fu⟩) k
  obtain ⟨z, ⟨hz, fz⟩, lz⟩ := pk_least (fun u => u < x ∧ f (u ^^^ x)) e
  refine ⟨z, hz, fun t ht ft => lz t ht ⟨by omega, ?_⟩, fz⟩
  have := h.2 _ _ (lc_xl (by omega) (by omega)) (lc_xl (by omega) hx) ft fz
  rw [Nat.xor_comm z x, lc_x4] at this
  exact this
def lc_isD (n : Nat) (f : Nat → Prop) (v k : Nat) : Prop := (∃ u, u < 2 ^ n ∧ f u ∧ lc_wt (u ^^^ v) = k) ∧ ∀ u, u < 2 ^ n → f u → k ≤ lc_wt (u ^^^ v)
theorem lc_isD_u {n : Nat} {f : Nat → Prop} {v k k' : Nat} (h : lc_isD n f v k) (h' : lc_isD n f v k') : k = k' := by
  obtain ⟨⟨u, hu, fu, e⟩, l⟩ := h
  obtain ⟨⟨u', hu', fu', e'⟩, l'⟩ := h'
  have a := l u' hu' fu'
  have b := l' u hu fu
  omega
noncomputable def lc_ds (n : Nat) (f : Nat → Prop) (v : Nat) : Nat := Classical.epsilon (lc_isD n f v)
theorem lc_ds_u {n : Nat} {f : Nat → Prop} {v k : Nat} (h : lc_isD n f v k) : lc_ds n f v = k := lc_isD_u (Classical.epsilon_spec ⟨k, h⟩) h
theorem lc_ds_s {n : Nat} {f : Nat → Prop} (h : f 0) (v : Nat) : lc_isD n f v (lc_ds n f v) := by
  have e : ∃ k, lc_isD n f v k := by
    obtain ⟨k, hk, l⟩ := pk_least (fun k => ∃ u, u < 2 ^ n ∧ f u ∧ lc_wt (u ^^^ v) = k) ⟨_, 0, Nat.two_pow_pos n, h, rfl⟩
    refine ⟨k, hk, fun u hu fu => ?_⟩
    by_cases q : k ≤ lc_wt (u ^^^ v)
    · exact q
    · exact absurd ⟨u, hu, fu, rfl⟩ (l _ (Nat.lt_of_not_le q))
  exact Classical.epsilon_spec e
theorem lc_ds_le {n : Nat} (hn : n ≤ 10) {f : Nat → Prop} (h : f 0) {v : Nat} (hv : v < 2 ^ n) : lc_ds n f v ≤ n := by
  have a := (lc_ds_s (n := n) h v).2 0 (Nat.two_pow_pos n) h
  rw [Nat.zero_xor] at a
  exact Nat.le_trans a (lc_wt_len hn hv)
end
section
/-! loops over a list of the words that a table has -/
theorem lc_yl {σ : Type} (W : Nat → Nat → σ → Prop) (I : Nat → σ → Prop) (f : Nat → Prop) (e x0 i0 : Nat) (s : σ) (hi : lc_cnt f x0 = i0) (hx0 : x0 ≤ e) (h0 : I x0 s)
    (hx : ∀ n s, I e s → W (n + 1) (lc_cnt f e) s) (hk : ∀ x s, x < e → ¬ f x → I x s → I (x + 1) s)
    (hs : ∀ n x s, x < e → f x → I x s → (∀ s', I (x + 1) s' → W n (lc_cnt f x + 1) s') → W (n + 1) (lc_cnt f x) s) : ∃ n, W n i0 s := by
  have key : ∀ d x s n, x + d = e → d < n → I x s → W n (lc_cnt f x) s := by
    intro d
    induction d with
    | zero =>
      intro x s n hx' hn hI
      obtain ⟨m, rfl⟩ : ∃ m, n = m + 1 := ⟨n - 1, by omega⟩
      have ex : x = e := by omega
      subst ex
      exact hx m s hI
    | succ d ih =>
      intro x s n hx' hn hI
      by_cases fx : f x
      · obtain ⟨m, rfl⟩ : ∃ m, n = m + 1 := ⟨n - 1, by omega⟩
        refine hs m x s (by omega) fx hI (fun s' hI' => ?_)
        rw [← lc_cnt_t fx]
        exact ih (x + 1) s' m (by omega) (by omega) hI'
      · rw [← lc_cnt_f fx]
        exact ih (x + 1) s n (by omega) (by omega) (hk x s (by omega) fx hI)
  rw [← hi]
  exact ⟨e - x0 + 1, key (e - x0) x0 s _ (by omega) (by omega) h0⟩
/-! bits and flags -/
theorem lc_1n0 : ¬ (1 : Int32) = 0 := by decide
theorem lc_bb {P A B : Prop} (f : P → B) (g : ¬ P → A) : (nI (lc_b P) = 0 → A) ∧ (¬ nI (lc_b P) = 0 → B) := by
  by_cases h : P
  · rw [lc_b_t h]
    exact br_f lc_1n0 (f h)
  · rw [lc_b_f h]
    exact br_t rfl (g h)
theorem lc_nar (P : Prop) : vp_nar .boolean (nI (lc_b P)) = nI (lc_b P) := by
  by_cases h : P
  · rw [lc_b_t h]; decide
  · rw [lc_b_f h]; decide
theorem lc_nar1 : vp_nar .boolean 1 = nI 1 := by decide
theorem lc_nar0 : vp_nar .boolean 0 = nI 0 := by decide
theorem lc_narrow (P : Prop) : narrow .boolean (.int (nI (lc_b P))) = .int (nI (lc_b P)) := by
  by_cases h : P
  · rw [lc_b_t h]; rfl
  · rw [lc_b_f h]; rfl
theorem lc_ix (c x : Nat) : nI c * 1024 + nI x = nI (c * 1024 + x) := by
  rw [show (1024 : Int32) = nI 1024 from rfl, pk_mul, nI_add]
theorem lc_ix' (c x : Nat) : 1024 * nI c + nI x = nI (c * 1024 + x) := by
  rw [show (1024 : Int32) = nI 1024 from rfl, pk_mul, nI_add, Nat.mul_comm]
theorem lc_bit {x p : Nat} (hx : x < 2 ^ 31) (hp : p < 32) : (nI x >>> (nI p &&& 31)) &&& 1 = nI (lc_b (x.testBit p = true)) := by
  rw [pk_shrN hx _ p (s_l p hp), show (1 : Int32) = nI 1 from rfl, nx_and, Nat.and_one_is_mod, Nat.testBit_eq_decide_div_mod_eq]
  by_cases h : x / 2 ^ p % 2 = 1
  · rw [h, lc_b_t (by decide)]
  · have e : x / 2 ^ p % 2 = 0 := by omega
    rw [e, lc_b_f (by decide)]
theorem lc_shl {p : Nat} (hp : p < 32) : (1 : Int32) <<< (nI p &&& 31) = nI (2 ^ p) := by
  rw [show (1 : Int32) = nI 1 from rfl, pk_shlN (nI p &&& 31) p (s_l p hp) (by rw [Nat.one_mul]; exact Nat.pow_lt_pow_right (by omega) hp), Nat.one_mul]
theorem lc_and1 {k : Nat} : nI k &&& 1 = nI (k % 2) := by
  rw [show (1 : Int32) = nI 1 from rfl, nx_and, Nat.and_one_is_mod]
theorem lc_mod2 {k : Nat} (h : k < 2 ^ 31) : nI k - nI k / 2 * 2 = nI (k % 2) := pk_rem (d := 2) h (by omega) (by omega)
theorem lc_eq {a b : Nat} (ha : a < 2 ^ 31) (hb : b < 2 ^ 31) : nI a = nI b ↔ a = b := nI_eq ha hb
/-! the states -/
noncomputable abbrev lc_X (n : Nat) (T : Nat → Prop) (B : Nat → Int32) : SX := (nI n, nI (2 ^ n), lc_em T, B)
noncomputable abbrev lc_Y (n : Nat) (T : Nat → Prop) (ct : Int32) (M L S D : Nat → Int32) : SY := (nI n, nI (2 ^ n), ct, lc_em T, M, L, S, D)
theorem lc_em_c (T : Nat → Prop) (c x : Nat) : lc_em T (c * 1024 + x) = nI (lc_b (lc_cd T c x)) := rfl
/-! X: small calls -/
theorem lc_xc {post : Int32 → Prop} {c : Nat} (hc : c ≤ 1) (h : post 1) : wpX_isCode post (nI c) := by
  unfold wpX_isCode
  by_cases e : c = 0
  · subst e
    exact br_t rfl h
  · have e1 : c = 1 := by omega
    subst e1
    exact br_f lc_1n0 (br_t rfl h)
theorem lc_xc' {post : Int32 → Prop} {c : Int32} (h0 : ¬ c = 0) (h1 : ¬ c = 1) (h : post 0) : wpX_isCode post c := by
  unfold wpX_isCode
  exact br_f h0 (br_f h1 h)
theorem lc_xword {post : Int32 → Prop} {n x : Nat} {T : Nat → Prop} {B : Nat → Int32} (hn : n ≤ 10) (hx : x < 2 ^ n) (h : post 1) : wpX_isWord post (lc_X n T B) (nI x) := by
  have hW := lc_W hn
  unfold wpX_isWord
  exact br_f (nI_pos (by omega)) (br_f (nI_ge hx (by omega)) h)
theorem lc_xword' {post : Int32 → Prop} {n : Nat} {x : Int32} {T : Nat → Prop} {B : Nat → Int32} (hx : x < 0 ∨ nI (2 ^ n) ≤ x) (h : post 0) : wpX_isWord post (lc_X n T B) x := by
  unfold wpX_isWord
  exact br_c (fun _ => h) (fun k => br_t (hx.resolve_left k) h)
theorem lc_xplace {post : Int32 → Prop} {n x : Nat} {T : Nat → Prop} {B : Nat → Int32} (hn : n ≤ 10) (hx : x < n) (h : post 1) : wpX_isPlace post (lc_X n T B) (nI x) := by
  unfold wpX_isPlace
  exact br_f (nI_pos (by omega)) (br_f (nI_ge hx (by omega)) h)
theorem lc_xplace' {post : Int32 → Prop} {n : Nat} {x : Int32} {T : Nat → Prop} {B : Nat → Int32} (hx : x < 0 ∨ nI n ≤ x) (h : post 0) : wpX_isPlace post (lc_X n T B) x := by
  unfold wpX_isPlace
  exact br_c (fun _ => h) (fun k => br_t (hx.resolve_left k) h)
theorem lc_xholds {post : Int32 → Prop} {n c x : Nat} {T : Nat → Prop} {B : Nat → Int32} (hn : n ≤ 10) (hc : c ≤ 1) (hx : x < 2 ^ n) (h : post (nI (lc_b (lc_cd T c x)))) : wpX_holds post (lc_X n T B) (nI c) (nI x) := by
  have hW := lc_W hn
  unfold wpX_holds
  dsimp only
  rw [lc_ix, nI_clamp (by omega)]
  exact ⟨vp_in_nI (by omega) (by omega), lc_narrow _, h⟩
theorem lc_xw {post : Int32 → Prop} {x : Nat} (hx : x < 2 ^ 31) (h : post (nI (lc_wt x))) : wpX_weightOf post (nI x) := by
  unfold wpX_weightOf
  refine loop_0 (fun n i s => wX_weightOf_4 post (nI x) n s (nI i)) (fun i s => s = nI (lc_cnt (fun i => x.testBit i = true) i)) 10 0 rfl ?_ ?_
  · intro n s e
    subst e
    exact br_t (nI_le (a := 10) (by omega) (by omega)) h
  · intro n i s hi e ih
    subst e
    refine br_f (nI_ge (b := 10) hi (by omega)) ?_
    refine nm_r (e' := nI (lc_cnt (fun i => x.testBit i = true) (i + 1))) ?_ (nm_r (nI_1 i) (ih _ rfl))
    rw [lc_bit hx (by omega), nI_add]
    rfl
/-! Y: small calls -/
theorem lc_yc {post : Int32 → Prop} {c : Nat} {v : SY} (hc : c ≤ 1) (h : post 0) : wpY_bad post v (nI c) := by
  unfold wpY_bad
  exact br_f (nI_pos (by omega)) (br_t (nI_le (b := 1) hc (by omega)) h)
theorem lc_yc' {post : Int32 → Prop} {c : Int32} {v : SY} (hc : c < 0 ∨ ¬ c ≤ 1) (h : post 1) : wpY_bad post v c := by
  unfold wpY_bad
  exact br_c (fun _ => h) (fun k => br_f (hc.resolve_left k) h)
theorem lc_yword {post : Int32 → Prop} {n x : Nat} {T : Nat → Prop} {ct : Int32} {M L S D : Nat → Int32} (hn : n ≤ 10) (hx : x < 2 ^ n) (h : post 0) : wpY_noWord post (lc_Y n T ct M L S D) (nI x) := by
  have hW := lc_W hn
  unfold wpY_noWord
  exact br_f (nI_pos (by omega)) (br_t (nI_lt hx (by omega)) h)
theorem lc_yword' {post : Int32 → Prop} {n : Nat} {x : Int32} {T : Nat → Prop} {ct : Int32} {M L S D : Nat → Int32} (hx : x < 0 ∨ nI (2 ^ n) ≤ x) (h : post 1) : wpY_noWord post (lc_Y n T ct M L S D) x := by
  unfold wpY_noWord
  exact br_c (fun _ => h) (fun k => br_f (Int32.not_lt.mpr (hx.resolve_left k)) h)
theorem lc_yplace {post : Int32 → Prop} {n x : Nat} {T : Nat → Prop} {ct : Int32} {M L S D : Nat → Int32} (hn : n ≤ 10) (hx : x < n) (h : post 0) : wpY_noPlace post (lc_Y n T ct M L S D) (nI x) := by
  unfold wpY_noPlace
  exact br_f (nI_pos (by omega)) (br_t (nI_lt hx (by omega)) h)
theorem lc_yplace' {post : Int32 → Prop} {n : Nat} {x : Int32} {T : Nat → Prop} {ct : Int32} {M L S D : Nat → Int32} (hx : x < 0 ∨ nI n ≤ x) (h : post 1) : wpY_noPlace post (lc_Y n T ct M L S D) x := by
  unfold wpY_noPlace
  exact br_c (fun _ => h) (fun k => br_f (Int32.not_lt.mpr (hx.resolve_left k)) h)
theorem lc_yw {post : Int32 → Prop} {n x : Nat} {T : Nat → Prop} {ct : Int32} {M L S D : Nat → Int32} (hn : n ≤ 10) (hx : x < 2 ^ n) (h : post (nI (lc_wt x))) : wpY_weight post (lc_Y n T ct M L S D) (nI x) := by
  have hW := lc_W hn
  unfold wpY_weight
  refine loop_0 (fun k i s => wY_weight_4 post (nI x) (nI n) (nI (2 ^ n)) ct (lc_em T) M L S D k s (nI i)) (fun i s => s = nI (lc_cnt (fun i => x.testBit i = true) i)) n 0 rfl ?_ ?_
  · intro k s e
    subst e
    rw [lc_wt_n hn hx]
    exact br_t (nI_le (Nat.le_refl n) (by omega)) h
  · intro k i s hi e ih
    subst e
    refine br_f (nI_ge hi (by omega)) ?_
    refine nm_r (e' := nI (lc_cnt (fun i => x.testBit i = true) (i + 1))) ?_ (nm_r (nI_1 i) (ih _ rfl))
    rw [lc_bit (by omega) (by omega), nI_add]
    rfl
end
section
theorem lc_bbv {P A B : Prop} {v : Int32} (e : v = nI (lc_b P)) (f : P → B) (g : ¬ P → A) : (v = 0 → A) ∧ (¬ v = 0 → B) := by
  rw [e]
  exact lc_bb f g
theorem lc_p1 {P : Prop} {post : Int32 → Prop} (h : post (nI (lc_b P))) (p : P) : post 1 := by
  rw [lc_b_t p] at h
  exact h
theorem lc_p0 {P : Prop} {post : Int32 → Prop} (h : post (nI (lc_b P))) (p : ¬ P) : post 0 := by
  rw [lc_b_f p] at h
  exact h
theorem lc_xtake {post : SX → Prop} {n c : Nat} {T : Nat → Prop} {B : Nat → Int32} (g : Nat → Prop) (hn : n ≤ 10) (hc : c ≤ 1) (hB : ∀ v, v < 2 ^ n → B v = nI (lc_b (g v)))
    (h : post (lc_X n (lc_put T c g (2 ^ n)) B)) : wpX_takeBuilt post (lc_X n T B) (nI c) := by
  have hW := lc_W hn
  unfold wpX_takeBuilt
  refine loop_0 (fun k i s => wX_takeBuilt_2 post (nI c) (nI n) (nI (2 ^ n)) k (nI i) s B) (fun i s => s = lc_em (lc_put T c g i)) (2 ^ n) (lc_em T) (by rw [lc_put_0]) ?_ ?_
  · intro k s e
    subst e
    exact br_t (nI_le (Nat.le_refl _) (by omega)) h
  · intro k i s hi e ih
    subst e
    refine br_f (nI_ge hi (by omega)) ⟨vp_in_nI (by omega) (by omega), by rw [lc_ix]; exact vp_in_nI (by omega) (by omega), ?_⟩
    refine nm_r (e' := lc_em (lc_put T c g (i + 1))) ?_ (nm_r (nI_1 i) (ih _ rfl))
    rw [lc_ix, nI_clamp (by omega), nI_clamp (by omega), hB i hi, lc_nar, lc_put_s]
theorem lc_xempty {post : SX → Prop} {n : Nat} {T : Nat → Prop} {B : Nat → Int32} (hn : n ≤ 10) (h : ∀ B', (∀ v, v < 2 ^ n → B' v = nI 0) → post (lc_X n T B')) : wpX_emptyBuilt post (lc_X n T B) := by
  have hW := lc_W hn
  unfold wpX_emptyBuilt
  refine loop_0 (fun k i s => wX_emptyBuilt_2 post (nI n) (nI (2 ^ n)) k (nI i) (lc_em T) s) (fun i s => ∀ v, v < i → s v = nI 0) (2 ^ n) B (fun v hv => by omega) ?_ ?_
  · intro k s e
    exact br_t (nI_le (Nat.le_refl _) (by omega)) (h s e)
  · intro k i s hi e ih
    refine br_f (nI_ge hi (by omega)) ⟨vp_in_nI (by omega) (by omega), ?_⟩
    refine nm_r (e' := upd s i (nI 0)) ?_ (nm_r (nI_1 i) (ih _ ?_))
    · rw [nI_clamp (by omega), lc_nar0]
    · intro v hv
      by_cases q : v = i
      · rw [q, pk_us]
      · rw [pk_un q]
        exact e v (by omega)
theorem lc_xdim {post : Int32 → Prop} {n c : Nat} {T : Nat → Prop} {B : Nat → Int32} (hn : n ≤ 10) (hc : c ≤ 1) (h : post (nI (lc_dm (lc_cnt (lc_cd T c) (2 ^ n))))) : wpX_dimensionOf post (lc_X n T B) (nI c) := by
  have hW := lc_W hn
  unfold wpX_dimensionOf
  refine loop_0 (fun k i s => wX_dimensionOf_4 post (nI c) (nI n) (nI (2 ^ n)) (lc_em T) B k s (nI i)) (fun i s => s = nI (lc_cnt (lc_cd T c) i)) (2 ^ n) 0 rfl ?_ ?_
  · intro k s e
    subst e
    refine br_t (nI_le (Nat.le_refl _) (by omega)) ?_
    have hm := lc_cnt_le (lc_cd T c) (2 ^ n)
    revert h hm
    generalize lc_cnt (lc_cd T c) (2 ^ n) = m
    intro h hm
    have hd := lc_dm_le hm
    have h1 := lc_dm_1 m
    refine loop_0 (fun k i (_ : Unit) => wX_dimensionOf_32 post (nI m) (nI n) (nI (2 ^ n)) (lc_em T) B k (nI i)) (fun i _ => i ≤ lc_dm m) (lc_dm m) () (Nat.zero_le _) ?_ ?_
    · intro k _ _
      refine br_c (fun _ => h) (fun _ => br_t ?_ h)
      rw [lc_shl (by omega)]
      have := lc_p2 (a := lc_dm m) (b := 10) (by omega)
      exact nI_le h1 (by omega)
    · intro k i _ hi _ ih
      refine br_f (nI_ge (by omega) (by omega)) (br_f ?_ (nm_r (nI_1 i) (ih () (by omega))))
      rw [lc_shl (by omega)]
      exact nI_ge (Nat.lt_of_not_le (lc_dm_2 hi)) (by omega)
  · intro k i s hi e ih
    subst e
    refine br_f (nI_ge hi (by omega)) (lc_xholds hn hc hi (lc_bb (fun p => ?_) (fun p => ?_)))
    · exact nm_r (nI_1 _) (nm_r (nI_1 i) (ih _ (by rw [lc_cnt_t p])))
    · exact nm_r (nI_1 i) (ih _ (by rw [lc_cnt_f p]))
theorem lc_xdual {post : Int32 → Prop} {n c w : Nat} {T : Nat → Prop} {B : Nat → Int32} (hn : n ≤ 10) (hc : c ≤ 1) (hw : w < 2 ^ n) (h : post (nI (lc_b (lc_dual n (lc_cd T c) w)))) : wpX_isInDual post (lc_X n T B) (nI c) (nI w) := by
  have hW := lc_W hn
  unfold wpX_isInDual
  refine loop_0 (fun k i (_ : Unit) => wX_isInDual_2 post (nI c) (nI w) (nI n) (nI (2 ^ n)) (lc_em T) B k (nI i)) (fun i _ => ∀ x, x < i → lc_cd T c x → ¬ lc_od x w) (2 ^ n) () (fun x hx => by omega) ?_ ?_
  · intro k _ e
    exact br_t (nI_le (Nat.le_refl _) (by omega)) (lc_p1 h e)
  · intro k i _ hi e ih
    refine br_f (nI_ge hi (by omega)) (lc_xholds hn hc hi (lc_bb (fun p => ?_) (fun p => ?_)))
    · rw [nx_and]
      have hl := lc_al (y := w) hi
      have hwt := lc_wt_le (i &&& w)
      refine lc_xw (by omega) (pk_eq (lc_wt (i &&& w) % 2) 1 (fun q => ?_) (fun q => ?_) lc_and1)
      · exact lc_p0 h (fun d => d i hi p q)
      · refine nm_r (nI_1 i) (ih () (fun x hx fx => ?_))
        by_cases z : x = i
        · subst z; exact q
        · exact e x (by omega) fx
    · refine nm_r (nI_1 i) (ih () (fun x hx fx => ?_))
      by_cases z : x = i
      · subst z; exact absurd fx p
      · exact e x (by omega) fx
def lc_apart (n : Nat) (f : Nat → Prop) (w : Nat) : Prop := ∀ x, 1 ≤ x → x < 2 ^ n → f x → ¬ x &&& w = 0
theorem lc_xapart {post : Int32 → Prop} {n c w : Nat} {T : Nat → Prop} {B : Nat → Int32} (hn : n ≤ 10) (hc : c ≤ 1) (hw : w < 2 ^ n) (h : post (nI (lc_b (lc_apart n (lc_cd T c) w)))) : wpX_tellsWordsApart post (lc_X n T B) (nI c) (nI w) := by
  have hW := lc_W hn
  unfold wpX_tellsWordsApart
  refine pk_loop (fun k i (_ : Unit) => wX_tellsWordsApart_2 post (nI c) (nI w) (nI n) (nI (2 ^ n)) (lc_em T) B k (nI i)) (fun i _ => 1 ≤ i ∧ ∀ x, 1 ≤ x → x < i → lc_cd T c x → ¬ x &&& w = 0) (2 ^ n) 1 () (Nat.two_pow_pos n) ⟨Nat.le_refl 1, fun x hx hy => by omega⟩ ?_ ?_
  · intro k _ e
    exact br_t (nI_le (Nat.le_refl _) (by omega)) (lc_p1 h e.2)
  · intro k i _ hi e0 ih
    obtain ⟨i1, e⟩ := e0
    refine br_f (nI_ge hi (by omega)) (lc_xholds hn hc hi (lc_bb (fun p => ?_) (fun p => ?_)))
    · have hl := lc_al (y := w) hi
      refine pk_eq (i &&& w) 0 (fun q => ?_) (fun q => ?_) (nx_and i w)
      · exact lc_p0 h (fun d => d i i1 hi p q)
      · refine nm_r (nI_1 i) (ih () ⟨by omega, fun x hx hx2 fx => ?_⟩)
        by_cases z : x = i
        · subst z; exact q
        · exact e x hx (by omega) fx
    · refine nm_r (nI_1 i) (ih () ⟨by omega, fun x hx hx2 fx => ?_⟩)
      by_cases z : x = i
      · subst z; exact absurd fx p
      · exact e x hx (by omega) fx
theorem lc_xldr {post : Int32 → Prop} {n c w : Nat} {T : Nat → Prop} {B : Nat → Int32} (hn : n ≤ 10) (hc : c ≤ 1) (hw : w < 2 ^ n) (h : post (nI (lc_b (lc_ldr (lc_cd T c) w)))) : wpX_isLeastOfCoset post (lc_X n T B) (nI c) (nI w) := by
  have hW := lc_W hn
  unfold wpX_isLeastOfCoset
  refine loop_0 (fun k i (_ : Unit) => wX_isLeastOfCoset_2 post (nI c) (nI w) (nI n) (nI (2 ^ n)) (lc_em T) B k (nI i)) (fun i _ => ∀ x, x < i → ¬ lc_cd T c (x ^^^ w)) w () (fun x hx => by omega) ?_ ?_
  · intro k _ e
    exact br_t (nI_le (Nat.le_refl _) (by omega)) (lc_p1 h e)
  · intro k i _ hi e ih
    refine br_f (nI_ge hi (by omega)) ?_
    rw [nx_xor]
    refine lc_xholds hn hc (lc_xl (by omega) hw) (lc_bb (fun p => ?_) (fun p => ?_))
    · exact lc_p0 h (fun d => d i hi p)
    · refine nm_r (nI_1 i) (ih () (fun x hx => ?_))
      by_cases z : x = i
      · subst z; exact p
      · exact e x (by omega)
/-- b is the nearest to w of the words below m -/
def lc_nr (f : Nat → Prop) (w m b : Nat) : Prop := b < m ∧ f b ∧ (∀ v, v < b → f v → lc_wt (b ^^^ w) < lc_wt (v ^^^ w)) ∧ ∀ v, v < m → f v → lc_wt (b ^^^ w) ≤ lc_wt (v ^^^ w)
theorem lc_nr_u {f : Nat → Prop} {w m b b' : Nat} (h : lc_nr f w m b) (h' : lc_nr f w m b') : b = b' := by
  obtain ⟨a1, a2, a3, a4⟩ := h
  obtain ⟨c1, c2, c3, c4⟩ := h'
  rcases Nat.lt_trichotomy b b' with q | q | q
  · have x := c3 b q a2
    have y := a4 b' c1 c2
    omega
  · exact q
  · have x := a3 b' q c2
    have y := c4 b a1 a2
    omega
theorem lc_nr_keep {f : Nat → Prop} {w m b : Nat} (h : lc_nr f w m b) (k : f m → lc_wt (b ^^^ w) ≤ lc_wt (m ^^^ w)) : lc_nr f w (m + 1) b := by
  obtain ⟨a1, a2, a3, a4⟩ := h
  refine ⟨by omega, a2, a3, fun v hv fv => ?_⟩
  by_cases q : v = m
  · subst q; exact k fv
  · exact a4 v (by omega) fv
theorem lc_nr_new {f : Nat → Prop} {w m b : Nat} (h : lc_nr f w m b) (fm : f m) (k : lc_wt (m ^^^ w) < lc_wt (b ^^^ w)) : lc_nr f w (m + 1) m := by
  obtain ⟨a1, a2, a3, a4⟩ := h
  refine ⟨by omega, fm, fun v hv fv => ?_, fun v hv fv => ?_⟩
  · have := a4 v hv fv
    omega
  · by_cases q : v = m
    · subst q; exact Nat.le_refl _
    · have := a4 v (by omega) fv
      omega
theorem lc_nr_1 {f : Nat → Prop} (h : f 0) (w : Nat) : lc_nr f w 1 0 := by
  refine ⟨by omega, h, fun v hv => by omega, fun v hv _ => ?_⟩
  have e : v = 0 := by omega
  subst e
  exact Nat.le_refl _
theorem lc_nr_D {n : Nat} {f : Nat → Prop} {w b : Nat} (h : lc_nr f w (2 ^ n) b) : lc_isD n f w (lc_wt (b ^^^ w)) := ⟨⟨b, h.1, h.2.1, rfl⟩, h.2.2.2⟩
theorem lc_xnear {post : Int32 → Prop} {n c w : Nat} {T : Nat → Prop} {B : Nat → Int32} (hn : n ≤ 10) (hc : c ≤ 1) (hw : w < 2 ^ n) (h0 : lc_cd T c 0) (h : ∀ b, lc_nr (lc_cd T c) w (2 ^ n) b → post (nI b)) : wpX_nearestWord post (lc_X n T B) (nI c) (nI w) := by
  have hW := lc_W hn
  unfold wpX_nearestWord
  refine lc_xw (by omega) ?_
  have q := pk_loop (fun k i b => wX_nearestWord_11 post (nI c) (nI w) (nI n) (nI (2 ^ n)) (lc_em T) B k (nI b) (nI (lc_wt (b ^^^ w))) (nI i)) (fun i b => lc_nr (lc_cd T c) w i b) (2 ^ n) 1 0 (Nat.two_pow_pos n) (lc_nr_1 h0 w) ?_ ?_
  · rw [Nat.zero_xor] at q
    exact q
  · intro k b e
    exact br_t (nI_le (Nat.le_refl _) (by omega)) (h b e)
  · intro k i b hi e ih
    refine br_f (nI_ge hi (by omega)) (lc_xholds hn hc hi (lc_bb (fun p => ?_) (fun p => ?_)))
    · rw [nx_xor]
      have hl := lc_xl hi hw
      have w1 := lc_wt_le (i ^^^ w)
      have w2 := lc_wt_le (b ^^^ w)
      refine lc_xw (by omega) (pk_le (lc_wt (b ^^^ w)) (lc_wt (i ^^^ w)) (fun q => ?_) (fun q => ?_))
      · exact nm_r (nI_1 i) (ih b (lc_nr_keep e (fun _ => q)))
      · exact nm_r (nI_1 i) (ih i (lc_nr_new e p q))
    · exact nm_r (nI_1 i) (ih b (lc_nr_keep e (fun z => absurd z p)))
theorem lc_xdist {post : Int32 → Prop} {n c w : Nat} {T : Nat → Prop} {B : Nat → Int32} (hn : n ≤ 10) (hc : c ≤ 1) (hw : w < 2 ^ n) (h0 : lc_cd T c 0) (h : post (nI (lc_ds n (lc_cd T c) w))) : wpX_distanceFromCode post (lc_X n T B) (nI c) (nI w) := by
  have hW := lc_W hn
  unfold wpX_distanceFromCode
  refine lc_xnear hn hc hw h0 (fun b hb => ?_)
  have hl := lc_xl hb.1 hw
  rw [nx_xor]
  refine lc_xw (by omega) ?_
  rw [← lc_ds_u (lc_nr_D hb)]
  exact h
theorem lc_xexch {post : Int32 → Prop} {n x i j : Nat} (hn : n ≤ 10) (hx : x < 2 ^ n) (hi : i < n) (hj : j < n) (h : post (nI (lc_sw i j x))) : wpX_withExchangedBits post (nI x) (nI i) (nI j) := by
  have hW := lc_W hn
  unfold wpX_withExchangedBits wpX_bitAt
  rw [lc_bit (by omega) (by omega), lc_bit (by omega) (by omega), lc_shl (by omega), lc_shl (by omega), nx_xor, nx_xor]
  unfold lc_sw at h
  have b1 := lc_b_le (x.testBit i = true)
  have b2 := lc_b_le (x.testBit j = true)
  refine pk_eq (lc_b (x.testBit i = true)) (lc_b (x.testBit j = true)) (fun q => ?_) (fun q => ?_)
  · rw [if_pos] at h
    · exact h
    · revert q
      cases x.testBit i <;> cases x.testBit j
      · intro _; rfl
      · rw [lc_b_f (by decide), lc_b_t rfl]; omega
      · rw [lc_b_f (P := false = true) (by decide), lc_b_t rfl]; omega
      · intro _; rfl
  · rw [if_neg] at h
    · exact h
    · intro z
      rw [z] at q
      exact q rfl
end
section
def lc_isL (n : Nat) (f : Nat → Prop) (L : Nat → Int32) : Prop := ∀ x, x < 2 ^ n → f x → L (lc_cnt f x) = nI x
theorem lc_ytake {post : SY → Prop} {n c : Nat} {T : Nat → Prop} {ct : Int32} {M L S D : Nat → Int32} (hn : n ≤ 10) (hc : c ≤ 1)
    (h : ∀ L', lc_isL n (lc_cd T c) L' → post (lc_Y n T (nI (lc_cnt (lc_cd T c) (2 ^ n))) M L' S D)) : wpY_take post (lc_Y n T ct M L S D) (nI c) := by
  have hW := lc_W hn
  unfold wpY_take
  refine loop_0 (σ := Int32 × (Nat → Int32)) (fun k i s => wY_take_7 post (nI c) (nI n) (nI (2 ^ n)) k (nI i) s.1 (lc_em T) M s.2 S D) (fun i s => s.1 = nI (lc_cnt (lc_cd T c) i) ∧ ∀ x, x < i → lc_cd T c x → s.2 (lc_cnt (lc_cd T c) x) = nI x) (2 ^ n) (0, L) ⟨rfl, fun x hx => by omega⟩ ?_ ?_
  · intro k s e
    obtain ⟨a, b⟩ := s
    obtain ⟨e1, e2⟩ := e
    dsimp only at e1 e2
    subst e1
    exact br_t (nI_le (Nat.le_refl _) (by omega)) (h b e2)
  · intro k i s hi e ih
    obtain ⟨a, b⟩ := s
    obtain ⟨e1, e2⟩ := e
    dsimp only at e1 e2
    subst e1
    have hcn := lc_cnt_le (lc_cd T c) i
    refine br_f (nI_ge hi (by omega)) ⟨by rw [lc_ix']; exact vp_in_nI (by omega) (by omega), ?_⟩
    refine lc_bbv (P := lc_cd T c i) (by rw [lc_ix', nI_clamp (by omega)]; rfl) (fun p => ?_) (fun p => ?_)
    · refine ⟨vp_in_nI (by omega) (by omega), ?_⟩
      refine nm_r (e' := upd b (lc_cnt (lc_cd T c) i) (nI i)) (by rw [nI_clamp (by omega)]) (nm_r (nI_1 _) (nm_r (nI_1 i) (ih (nI (lc_cnt (lc_cd T c) i + 1), upd b (lc_cnt (lc_cd T c) i) (nI i)) ⟨?_, fun x hx fx => ?_⟩)))
      · dsimp only
        rw [lc_cnt_t p]
      · dsimp only
        by_cases z : x = i
        · subst z
          rw [pk_us]
        · have := lc_cnt_lt (f := lc_cd T c) (x := x) (m := i) (by omega) fx
          rw [pk_un (by omega)]
          exact e2 x (by omega) fx
    · refine nm_r (nI_1 i) (ih (nI (lc_cnt (lc_cd T c) i), b) ⟨?_, fun x hx fx => ?_⟩)
      · dsimp only
        rw [lc_cnt_f p]
      · dsimp only
        by_cases z : x = i
        · subst z
          exact absurd fx p
        · exact e2 x (by omega) fx
theorem lc_ybegin {post : SY → Prop} {n : Nat} {T : Nat → Prop} {ct : Int32} {M L S D : Nat → Int32} (hn : n ≤ 10) (h : ∀ M', (∀ v, v < 2 ^ n → M' v = nI 0) → post (lc_Y n T ct M' L S D)) : wpY_begin post (lc_Y n T ct M L S D) := by
  have hW := lc_W hn
  unfold wpY_begin
  refine loop_0 (fun k i s => wY_begin_2 post (nI n) (nI (2 ^ n)) ct k (nI i) (lc_em T) s L S D) (fun i s => ∀ v, v < i → s v = nI 0) (2 ^ n) M (fun v hv => by omega) ?_ ?_
  · intro k s e
    exact br_t (nI_le (Nat.le_refl _) (by omega)) (h s e)
  · intro k i s hi e ih
    refine br_f (nI_ge hi (by omega)) ⟨vp_in_nI (by omega) (by omega), ?_⟩
    refine nm_r (e' := upd s i (nI 0)) ?_ (nm_r (nI_1 i) (ih _ ?_))
    · rw [nI_clamp (by omega), lc_nar0]
    · intro v hv
      by_cases q : v = i
      · rw [q, pk_us]
      · rw [pk_un q]
        exact e v (by omega)
theorem lc_ydim {post : Int32 → SY → Prop} {n c : Nat} {T : Nat → Prop} {ct : Int32} {M L S D : Nat → Int32} (hn : n ≤ 10) (hc : c ≤ 1)
    (h : ∀ ct' L', post (nI (lc_dm (lc_cnt (lc_cd T c) (2 ^ n)))) (lc_Y n T ct' M L' S D)) : wpY_dimension post (lc_Y n T ct M L S D) (nI c) := by
  have hW := lc_W hn
  unfold wpY_dimension
  refine lc_yc hc (br_t rfl (lc_ytake hn hc (fun L' _ => ?_)))
  have hm := lc_cnt_le (lc_cd T c) (2 ^ n)
  have h' := h (nI (lc_cnt (lc_cd T c) (2 ^ n))) L'
  revert h' hm
  generalize lc_cnt (lc_cd T c) (2 ^ n) = m
  intro hm h'
  have hd := lc_dm_le hm
  have h1 := lc_dm_1 m
  refine loop_0 (fun k i (_ : Unit) => wY_dimension_17 post (nI n) (nI (2 ^ n)) (nI m) (lc_em T) M L' S D k (nI i)) (fun i _ => i ≤ lc_dm m) (lc_dm m) () (Nat.zero_le _) ?_ ?_
  · intro k _ _
    refine br_t ?_ h'
    rw [lc_shl (by omega)]
    have := lc_p2 (a := lc_dm m) (b := 10) (by omega)
    exact nI_le h1 (by omega)
  · intro k i _ hi _ ih
    refine br_f ?_ (nm_r (nI_1 i) (ih () (by omega)))
    rw [lc_shl (by omega)]
    exact nI_ge (Nat.lt_of_not_le (lc_dm_2 hi)) (by omega)
theorem lc_ykeep {post : Int32 → SY → Prop} {n c : Nat} {T : Nat → Prop} {ct : Int32} {M L S D : Nat → Int32} (g : Nat → Prop) (hn : n ≤ 10) (hc : c ≤ 1) (hM : ∀ v, v < 2 ^ n → M v = nI (lc_b (g v)))
    (h : ∀ ct' L', post (nI (lc_dm (lc_cnt (lc_cd (lc_put T c g (2 ^ n)) c) (2 ^ n)))) (lc_Y n (lc_put T c g (2 ^ n)) ct' M L' S D)) : wpY_keep post (lc_Y n T ct M L S D) (nI c) := by
  have hW := lc_W hn
  unfold wpY_keep
  refine loop_0 (fun k i s => wY_keep_2 post (nI c) (nI n) (nI (2 ^ n)) ct k (nI i) s M L S D) (fun i s => s = lc_em (lc_put T c g i)) (2 ^ n) (lc_em T) (by rw [lc_put_0]) ?_ ?_
  · intro k s e
    subst e
    exact br_t (nI_le (Nat.le_refl _) (by omega)) (lc_ydim hn hc (fun ct' L' => h ct' L'))
  · intro k i s hi e ih
    subst e
    refine br_f (nI_ge hi (by omega)) ⟨vp_in_nI (by omega) (by omega), by rw [lc_ix']; exact vp_in_nI (by omega) (by omega), ?_⟩
    refine nm_r (e' := lc_em (lc_put T c g (i + 1))) ?_ (nm_r (nI_1 i) (ih _ rfl))
    rw [lc_ix', nI_clamp (by omega), nI_clamp (by omega), hM i hi, lc_nar, lc_put_s]
theorem lc_cb {n : Nat} {f : Nat → Prop} (hn : n ≤ 10) {x : Nat} (hx : x < 2 ^ n) (fx : f x) : lc_cnt f x < lc_cnt f (2 ^ n) ∧ lc_cnt f (2 ^ n) ≤ 1024 := by
  have hW := lc_W hn
  have := lc_cnt_le f (2 ^ n)
  exact ⟨lc_cnt_lt hx fx, by omega⟩
theorem lc_cW {n : Nat} (f : Nat → Prop) (hn : n ≤ 10) : lc_cnt f (2 ^ n) ≤ 1024 := Nat.le_trans (lc_cnt_le f _) (lc_W hn)
theorem lc_ydual {post : Int32 → Prop} {n w : Nat} {T f : Nat → Prop} {M L S D : Nat → Int32} (hn : n ≤ 10) (hw : w < 2 ^ n) (hL : lc_isL n f L) (h : post (nI (lc_b (lc_dual n f w)))) : wpY_isDual post (lc_Y n T (nI (lc_cnt f (2 ^ n))) M L S D) (nI w) := by
  have hW := lc_W hn
  have hC := lc_cW f hn
  unfold wpY_isDual
  refine lc_yl (fun k i (_ : Unit) => wY_isDual_2 post (nI w) (nI n) (nI (2 ^ n)) (nI (lc_cnt f (2 ^ n))) (lc_em T) M L S D k (nI i)) (fun i _ => ∀ x, x < i → f x → ¬ lc_od x w) f (2 ^ n) 0 0 () rfl (Nat.zero_le _) (fun x hx => by omega) ?_ ?_ ?_
  · intro k _ e
    exact br_t (nI_le (Nat.le_refl _) (by omega)) (lc_p1 h e)
  · intro i _ hi p e x hx fx
    by_cases z : x = i
    · subst z; exact absurd fx p
    · exact e x (by omega) fx
  · intro k i _ hi p e ih
    have hcb := lc_cb hn hi p
    refine br_f (nI_ge hcb.1 (by omega)) ⟨vp_in_nI (by omega) (by omega), ?_⟩
    rw [nI_clamp (by omega), hL i hi p, nx_and]
    have hwt := lc_wt_le (w &&& i)
    refine lc_yw hn (lc_al hw) ⟨by decide, pk_eq (lc_wt (w &&& i) % 2) 1 (fun q => ?_) (fun q => ?_) (lc_mod2 (by omega))⟩
    · refine lc_p0 h (fun d => d i hi p ?_)
      rw [lc_od_comm]
      exact q
    · refine nm_r (nI_1 _) (ih () (fun x hx fx => ?_))
      by_cases z : x = i
      · subst z
        rw [lc_od_comm]
        exact q
      · exact e x (by omega) fx
theorem lc_yinf {post : Int32 → Prop} {n w : Nat} {T f : Nat → Prop} {M L S D : Nat → Int32} (hn : n ≤ 10) (hw : w < 2 ^ n) (f0 : f 0) (hL : lc_isL n f L) (h : post (nI (lc_b (lc_cnt f (2 ^ n) = 2 ^ lc_wt w ∧ lc_apart n f w)))) : wpY_informs post (lc_Y n T (nI (lc_cnt f (2 ^ n))) M L S D) (nI w) := by
  have hW := lc_W hn
  have hC := lc_cW f hn
  have hwt := lc_wt_le w
  have hp := lc_p2 hwt
  unfold wpY_informs
  refine lc_yw hn hw (pk_eq (lc_cnt f (2 ^ n)) (2 ^ lc_wt w) (fun q => ?_) (fun q => ?_) rfl (lc_shl (by omega)))
  · refine lc_yl (fun k i (_ : Unit) => wY_informs_18 post (nI w) (nI n) (nI (2 ^ n)) (nI (lc_cnt f (2 ^ n))) (lc_em T) M L S D k (nI i)) (fun i _ => 1 ≤ i ∧ ∀ x, 1 ≤ x → x < i → f x → ¬ x &&& w = 0) f (2 ^ n) 1 1 () (lc_cnt_t (m := 0) f0) (Nat.two_pow_pos n) ⟨Nat.le_refl 1, fun x hx hy => by omega⟩ ?_ ?_ ?_
    · intro k _ e
      exact br_t (nI_le (Nat.le_refl _) (by omega)) (lc_p1 h ⟨q, e.2⟩)
    · intro i _ hi p e
      refine ⟨by omega, fun x hx hx2 fx => ?_⟩
      by_cases z : x = i
      · subst z; exact absurd fx p
      · exact e.2 x hx (by omega) fx
    · intro k i _ hi p e ih
      have hcb := lc_cb hn hi p
      refine br_f (nI_ge hcb.1 (by omega)) ⟨vp_in_nI (by omega) (by omega), ?_⟩
      have hl := lc_al (y := w) hi
      refine pk_eq (i &&& w) 0 (fun q2 => ?_) (fun q2 => ?_) (by rw [nI_clamp (by omega), hL i hi p, nx_and])
      · exact lc_p0 h (fun d => d.2 i e.1 hi p q2)
      · refine nm_r (nI_1 _) (ih () ⟨by omega, fun x hx hx2 fx => ?_⟩)
        by_cases z : x = i
        · subst z; exact q2
        · exact e.2 x hx (by omega) fx
  · exact lc_p0 h (fun d => q d.1)
theorem lc_yinner {post : SY → Prop} {J : Int32 → (Nat → Int32) → (Nat → Int32) → (Nat → Int32) → (Nat → Int32) → (Nat → Int32) → Prop} {n x : Nat} {T f P : Nat → Prop} {M L S D : Nat → Int32} (hn : n ≤ 10) (hx : x < 2 ^ n) (f0 : f 0) (hL : lc_isL n f L)
    (hS : ∀ y, y < 2 ^ n → S y = nI (lc_b (P y)))
    (h : ∀ S' d, d ≤ 10 → lc_isD n f x d → (∀ y, y < 2 ^ n → S' y = nI (lc_b (P y ∨ f (x ^^^ y)))) → J (nI (x + 1)) (lc_em T) M L S' (upd D d (D d + 1))) :
    ∃ k, wY_findLeaders_68 post J (nI x) (nI n) (nI (2 ^ n)) (nI (lc_cnt f (2 ^ n))) k 11 0 (lc_em T) M L S D := by
  have hW := lc_W hn
  have hC := lc_cW f hn
  refine lc_yl (σ := Nat × (Nat → Int32)) (fun k i s => wY_findLeaders_68 post J (nI x) (nI n) (nI (2 ^ n)) (nI (lc_cnt f (2 ^ n))) k (nI s.1) (nI i) (lc_em T) M L s.2 D)
    (fun v s => s.1 ≤ 11 ∧ (∀ u, u < v → f u → s.1 ≤ lc_wt (u ^^^ x)) ∧ (s.1 = 11 ∨ ∃ u, u < v ∧ f u ∧ lc_wt (u ^^^ x) = s.1) ∧ ∀ y, y < 2 ^ n → s.2 y = nI (lc_b (P y ∨ ∃ u, u < v ∧ f u ∧ y = x ^^^ u))) f (2 ^ n) 0 0 (11, S) rfl (Nat.zero_le _) ?_ ?_ ?_ ?_
  · refine ⟨Nat.le_refl 11, fun u hu => by omega, Or.inl rfl, fun y hy => ?_⟩
    dsimp only
    rw [hS y hy]
    refine congrArg nI (lc_b_c ⟨Or.inl, ?_⟩)
    rintro (k | ⟨u, hu, _⟩)
    · exact k
    · omega
  · intro k s e
    obtain ⟨d, S'⟩ := s
    obtain ⟨e1, e2, e3, e4⟩ := e
    dsimp only at e1 e2 e3 e4 ⊢
    have q0 := e2 0 (Nat.two_pow_pos n) f0
    have q1 := lc_wt_le (0 ^^^ x)
    have hd : d ≤ 10 := by omega
    refine br_t (nI_le (Nat.le_refl _) (by omega)) ⟨vp_in_nI (by omega) (by omega), vp_in_nI (by omega) (by omega), ?_⟩
    refine nm_r (e' := upd D d (D d + 1)) (by rw [nI_clamp (by omega)]) (nm_r (nI_1 x) (h S' d hd ⟨e3.resolve_left (by omega), e2⟩ (fun y hy => ?_)))
    rw [e4 y hy]
    refine congrArg nI (lc_b_c (or_congr Iff.rfl ⟨?_, fun fy => ?_⟩))
    · rintro ⟨u, hu, fu, rfl⟩
      rw [← Nat.xor_assoc, Nat.xor_self, Nat.zero_xor]
      exact fu
    · refine ⟨x ^^^ y, lc_xl hx hy, fy, ?_⟩
      rw [← Nat.xor_assoc, Nat.xor_self, Nat.zero_xor]
  · intro v s hv p e
    obtain ⟨e1, e2, e3, e4⟩ := e
    refine ⟨e1, fun u hu fu => ?_, ?_, fun y hy => ?_⟩
    · by_cases z : u = v
      · subst z; exact absurd fu p
      · exact e2 u (by omega) fu
    · rcases e3 with q | ⟨u, hu, q⟩
      · exact Or.inl q
      · exact Or.inr ⟨u, by omega, q⟩
    · rw [e4 y hy]
      refine congrArg nI (lc_b_c (or_congr Iff.rfl ⟨?_, ?_⟩))
      · rintro ⟨u, hu, q⟩
        exact ⟨u, by omega, q⟩
      · rintro ⟨u, hu, fu, q⟩
        refine ⟨u, ?_, fu, q⟩
        by_cases z : u = v
        · subst z; exact absurd fu p
        · omega
  · intro k v s hv p e ih
    obtain ⟨d, S'⟩ := s
    obtain ⟨e1, e2, e3, e4⟩ := e
    dsimp only at e1 e2 e3 e4 ⊢
    have hcb := lc_cb hn hv p
    have hl := lc_xl hx hv
    have hwt := lc_wt_le (x ^^^ v)
    have hS' : ∀ y, y < 2 ^ n → upd S' (x ^^^ v) (nI 1) y = nI (lc_b (P y ∨ ∃ u, u < v + 1 ∧ f u ∧ y = x ^^^ u)) := by
      intro y hy
      by_cases z : y = x ^^^ v
      · subst z
        rw [pk_us, lc_b_t (Or.inr ⟨v, by omega, p, rfl⟩)]
      · rw [pk_un z, e4 y hy]
        refine congrArg nI (lc_b_c (or_congr Iff.rfl ⟨?_, ?_⟩))
        · rintro ⟨u, hu, q⟩
          exact ⟨u, by omega, q⟩
        · rintro ⟨u, hu, fu, q⟩
          refine ⟨u, ?_, fu, q⟩
          by_cases z2 : u = v
          · subst z2; exact absurd q z
          · omega
    refine br_f (nI_ge hcb.1 (by omega)) ⟨vp_in_nI (by omega) (by omega), ?_⟩
    refine nm_r (e' := nI (x ^^^ v)) (by rw [nI_clamp (by omega), hL v hv p, nx_xor]) ?_
    refine lc_yw hn hl ⟨vp_in_nI (by omega) (by omega), ?_⟩
    refine nm_r (e' := upd S' (x ^^^ v) (nI 1)) (by rw [nI_clamp (by omega), lc_nar1]) ?_
    refine pk_le d (lc_wt (x ^^^ v)) (fun q => ?_) (fun q => ?_)
    · refine nm_r (nI_1 _) (ih (d, upd S' (x ^^^ v) (nI 1)) ⟨e1, fun u hu fu => ?_, ?_, hS'⟩)
      · by_cases z : u = v
        · subst z
          dsimp only
          rw [Nat.xor_comm u x]
          exact q
        · exact e2 u (by omega) fu
      · rcases e3 with q | ⟨u, hu, q⟩
        · exact Or.inl q
        · exact Or.inr ⟨u, by omega, q⟩
    · refine nm_r (nI_1 _) (ih (lc_wt (x ^^^ v), upd S' (x ^^^ v) (nI 1)) ⟨by dsimp only; omega, fun u hu fu => ?_, Or.inr ⟨v, by omega, p, by rw [Nat.xor_comm]⟩, hS'⟩)
      dsimp only
      by_cases z : u = v
      · subst z
        rw [Nat.xor_comm]
        exact Nat.le_refl _
      · have := e2 u (by omega) fu
        omega
theorem lc_yfind {post : SY → Prop} {n : Nat} {T f : Nat → Prop} {M L S D : Nat → Int32} (hn : n ≤ 10) (hf : lc_LC n f) (hL : lc_isL n f L)
    (h : ∀ S' D', (∀ d, d ≤ 10 → D' d = nI (lc_cnt (fun v => lc_ldr f v ∧ lc_ds n f v = d) (2 ^ n))) → post (lc_Y n T (nI (lc_cnt f (2 ^ n))) M L S' D')) :
    wpY_findLeaders post (lc_Y n T (nI (lc_cnt f (2 ^ n))) M L S D) := by
  have hW := lc_W hn
  have hC := lc_cW f hn
  unfold wpY_findLeaders
  refine loop_0 (fun k i s => wY_findLeaders_2 post (nI n) (nI (2 ^ n)) (nI (lc_cnt f (2 ^ n))) k (nI i) (lc_em T) M L S s) (fun i s => ∀ d, d < i → s d = nI 0) 11 D (fun d hd => by omega) ?_ ?_
  · intro k D1 hD1
    refine br_t (nI_lt (a := 10) (by omega) (by omega)) ?_
    refine loop_0 (fun k i s => wY_findLeaders_23 post (nI n) (nI (2 ^ n)) (nI (lc_cnt f (2 ^ n))) k (nI i) (lc_em T) M L s D1) (fun i s => ∀ y, y < i → s y = nI 0) (2 ^ n) S (fun d hd => by omega) ?_ ?_
    · intro k S1 hS1
      refine br_t (nI_le (Nat.le_refl _) (by omega)) ?_
      refine loop_0 (σ := (Nat → Int32) × (Nat → Int32)) (fun k i s => wY_findLeaders_46 post (nI n) (nI (2 ^ n)) (nI (lc_cnt f (2 ^ n))) k (nI i) (lc_em T) M L s.1 s.2)
        (fun x s => (∀ y, y < 2 ^ n → s.1 y = nI (lc_b (∃ z, z < x ∧ lc_ldr f z ∧ f (z ^^^ y)))) ∧ ∀ d, d ≤ 10 → s.2 d = nI (lc_cnt (fun v => lc_ldr f v ∧ lc_ds n f v = d) x)) (2 ^ n) (S1, D1) ⟨fun y hy => ?_, fun d hd => ?_⟩ ?_ ?_
      · dsimp only
        rw [hS1 y hy, lc_b_f]
        rintro ⟨z, hz, _⟩
        omega
      · exact hD1 d (by omega)
      · intro k s e
        exact br_t (nI_le (Nat.le_refl _) (by omega)) (h s.1 s.2 e.2)
      · intro k x s hx e ih
        obtain ⟨S2, D2⟩ := s
        obtain ⟨e1, e2⟩ := e
        dsimp only at e1 e2 ⊢
        refine br_f (nI_ge hx (by omega)) ⟨vp_in_nI (by omega) (by omega), ?_⟩
        refine lc_bbv (P := ∃ z, z < x ∧ lc_ldr f z ∧ f (z ^^^ x)) (by rw [nI_clamp (by omega)]; exact e1 x hx) (fun p => ?_) (fun p => ?_)
        · have nl : ¬ lc_ldr f x := by
            obtain ⟨z, hz, _, fz⟩ := p
            exact fun l => l z hz fz
          refine nm_r (nI_1 x) (ih (S2, D2) ⟨fun y hy => ?_, fun d hd => ?_⟩)
          · dsimp only
            rw [e1 y hy]
            refine congrArg nI (lc_b_c ⟨?_, ?_⟩)
            · rintro ⟨z, hz, q⟩
              exact ⟨z, by omega, q⟩
            · rintro ⟨z, hz, lz, q⟩
              refine ⟨z, ?_, lz, q⟩
              by_cases zz : z = x
              · subst zz; exact absurd lz nl
              · omega
          · dsimp only
            rw [e2 d hd, lc_cnt_f (fun q => nl q.1)]
        · have l : lc_ldr f x := by
            by_cases l : lc_ldr f x
            · exact l
            · exact absurd (lc_ldr_ex hf hx l) p
          refine lc_yinner hn hx hf.1 hL e1 (fun S' d hd hD hS' => ih (S', upd D2 d (D2 d + 1)) ⟨fun y hy => ?_, fun d' hd' => ?_⟩)
          · dsimp only
            rw [hS' y hy]
            refine congrArg nI (lc_b_c ⟨?_, ?_⟩)
            · rintro (⟨z, hz, q⟩ | q)
              · exact ⟨z, by omega, q⟩
              · exact ⟨x, by omega, l, q⟩
            · rintro ⟨z, hz, lz, q⟩
              by_cases zz : z = x
              · subst zz; exact Or.inr q
              · exact Or.inl ⟨z, by omega, lz, q⟩
          · dsimp only
            have ed := lc_ds_u hD
            by_cases zz : d' = d
            · subst zz
              rw [pk_us, e2 d' hd', lc_cnt_t ⟨l, ed⟩, nI_1]
            · rw [pk_un zz, e2 d' hd', lc_cnt_f (fun q => zz (q.2.symm.trans ed))]
    · intro k i s hi e ih
      refine br_f (nI_ge hi (by omega)) ⟨vp_in_nI (by omega) (by omega), ?_⟩
      refine nm_r (e' := upd s i (nI 0)) ?_ (nm_r (nI_1 i) (ih _ ?_))
      · rw [nI_clamp (by omega), lc_nar0]
      · intro v hv
        by_cases q : v = i
        · rw [q, pk_us]
        · rw [pk_un q]
          exact e v (by omega)
  · intro k i s hi e ih
    refine br_f ?_ ⟨vp_in_nI (by omega) (by omega), ?_⟩
    · exact nI_nlt (a := 10) (b := i) (by omega) (by omega)
    refine nm_r (e' := upd s i (nI 0)) ?_ (nm_r (nI_1 i) (ih _ ?_))
    · rw [nI_clamp (by omega)]
      rfl
    · intro v hv
      by_cases q : v = i
      · rw [q, pk_us]
      · rw [pk_un q]
        exact e v (by omega)
end
section
/-! stores -/
theorem lc_st1 (s : Nat → Int32) {i : Nat} (h : i < 2 ^ 31) : upd s (nI i).toNatClampNeg (vp_nar .boolean 1) = upd s i (nI 1) := by rw [nI_clamp h, lc_nar1]
theorem lc_st0 (s : Nat → Int32) {i : Nat} (h : i < 2 ^ 31) : upd s (nI i).toNatClampNeg (vp_nar .boolean 0) = upd s i (nI 0) := by rw [nI_clamp h, lc_nar0]
theorem lc_stb (s : Nat → Int32) {i : Nat} (P : Prop) (h : i < 2 ^ 31) : upd s (nI i).toNatClampNeg (vp_nar .boolean (nI (lc_b P))) = upd s i (nI (lc_b P)) := by rw [nI_clamp h, lc_nar]
theorem lc_ext {s : Nat → Int32} {g : Nat → Prop} {i : Nat} {x : Int32} (h : ∀ v, v < i → s v = nI (lc_b (g v))) (e : x = nI (lc_b (g i))) : ∀ v, v < i + 1 → upd s i x v = nI (lc_b (g v)) := by
  intro v hv
  by_cases q : v = i
  · rw [q, pk_us, e]
  · rw [pk_un q]
    exact h v (by omega)
theorem lc_ext1 {s : Nat → Int32} {g : Nat → Prop} {i : Nat} (h : ∀ v, v < i → s v = nI (lc_b (g v))) (p : g i) : ∀ v, v < i + 1 → upd s i (nI 1) v = nI (lc_b (g v)) := lc_ext h (by rw [lc_b_t p])
theorem lc_ext0 {s : Nat → Int32} {g : Nat → Prop} {i : Nat} (h : ∀ v, v < i → s v = nI (lc_b (g v))) (p : ¬ g i) : ∀ v, v < i + 1 → upd s i (nI 0) v = nI (lc_b (g v)) := lc_ext h (by rw [lc_b_f p])
theorem lc_mk0 {m : Nat} {s : Nat → Int32} (Q : Nat → Nat → Prop) (h : ∀ y, y < m → s y = nI 0) : ∀ y, y < m → s y = nI (lc_b (∃ v, v < 0 ∧ Q v y)) := by
  intro y hy
  rw [h y hy, lc_b_f]
  rintro ⟨v, hv, _⟩
  omega
theorem lc_mks {m x : Nat} {s : Nat → Int32} {Q : Nat → Nat → Prop} (h : ∀ y, y < m → s y = nI (lc_b (∃ v, v < x ∧ Q v y))) (k : ∀ y, ¬ Q x y) : ∀ y, y < m → s y = nI (lc_b (∃ v, v < x + 1 ∧ Q v y)) := by
  intro y hy
  rw [h y hy]
  refine congrArg nI (lc_b_c ⟨?_, ?_⟩)
  · rintro ⟨v, hv, q⟩
    exact ⟨v, by omega, q⟩
  · rintro ⟨v, hv, q⟩
    refine ⟨v, ?_, q⟩
    by_cases z : v = x
    · subst z; exact absurd q (k y)
    · omega
theorem lc_mk2 {m x z z' : Nat} {s : Nat → Int32} {Q : Nat → Nat → Prop} (h : ∀ y, y < m → s y = nI (lc_b (∃ v, v < x ∧ Q v y))) (k : ∀ y, Q x y ↔ (y = z ∨ y = z')) : ∀ y, y < m → upd (upd s z (nI 1)) z' (nI 1) y = nI (lc_b (∃ v, v < x + 1 ∧ Q v y)) := by
  intro y hy
  by_cases e' : y = z'
  · rw [e', pk_us, lc_b_t ⟨x, by omega, (k z').mpr (Or.inr rfl)⟩]
  · rw [pk_un e']
    by_cases e : y = z
    · rw [e, pk_us, lc_b_t ⟨x, by omega, (k z).mpr (Or.inl rfl)⟩]
    · rw [pk_un e, h y hy]
      refine congrArg nI (lc_b_c ⟨?_, ?_⟩)
      · rintro ⟨v, hv, q⟩
        exact ⟨v, by omega, q⟩
      · rintro ⟨v, hv, q⟩
        refine ⟨v, ?_, q⟩
        by_cases zz : v = x
        · subst zz
          rcases (k y).mp q with a | a
          · exact absurd a e
          · exact absurd a e'
        · omega
theorem lc_mk1 {m x z : Nat} {s : Nat → Int32} {Q : Nat → Nat → Prop} (h : ∀ y, y < m → s y = nI (lc_b (∃ v, v < x ∧ Q v y))) (k : ∀ y, Q x y ↔ y = z) : ∀ y, y < m → upd s z (nI 1) y = nI (lc_b (∃ v, v < x + 1 ∧ Q v y)) := by
  intro y hy
  by_cases e : y = z
  · rw [e, pk_us, lc_b_t ⟨x, by omega, (k z).mpr rfl⟩]
  · rw [pk_un e, h y hy]
    refine congrArg nI (lc_b_c ⟨?_, ?_⟩)
    · rintro ⟨v, hv, q⟩
      exact ⟨v, by omega, q⟩
    · rintro ⟨v, hv, q⟩
      refine ⟨v, ?_, q⟩
      by_cases zz : v = x
      · subst zz
        exact absurd ((k y).mp q) e
      · omega
def lc_mkp (p : Nat) : Nat := 2 ^ p ^^^ 4294967295
theorem lc_mask {p : Nat} (hp : p < 32) : ((1 : Int32) <<< (nI p &&& 31)) ^^^ (-1) = nI (lc_mkp p) := by
  rw [lc_shl hp, show (-1 : Int32) = nI 4294967295 from by decide, nx_xor]
  rfl
/-! X: the calls that change a code -/
def lc_gadd (T : Nat → Prop) (c w v : Nat) : Prop := lc_cd T c v ∨ lc_cd T c (v ^^^ w)
def lc_gshort (T : Nat → Prop) (c p v : Nat) : Prop := lc_cd T c v ∧ ¬ v.testBit p = true
def lc_gpunc (n : Nat) (T : Nat → Prop) (c m y : Nat) : Prop := ∃ v, v < 2 ^ n ∧ lc_cd T c v ∧ y = v &&& m
def lc_gexch (T : Nat → Prop) (c i j v : Nat) : Prop := lc_cd T c (lc_sw i j v)
def lc_gmeet (T : Nat → Prop) (v : Nat) : Prop := lc_cd T 0 v ∧ lc_cd T 1 v
/-- what a changing call answers, and the state that it leaves -/
def lc_XP (post : Int32 → SX → Prop) (n : Nat) (T : Nat → Prop) (c : Nat) (g : Nat → Prop) : Prop := ∀ B', post (nI (lc_dm (lc_cnt (lc_cd (lc_put T c g (2 ^ n)) c) (2 ^ n)))) (lc_X n (lc_put T c g (2 ^ n)) B')
theorem lc_xadd {post : Int32 → SX → Prop} {n c w : Nat} {T : Nat → Prop} {B : Nat → Int32} (hn : n ≤ 10) (hc : c ≤ 1) (hw : w < 2 ^ n) (h : lc_XP post n T c (lc_gadd T c w)) : wpX_add post (lc_X n T B) (nI c) (nI w) := by
  have hW := lc_W hn
  unfold wpX_add
  refine lc_xc hc (br_f lc_1n0 (lc_xword hn hw (br_f lc_1n0 ?_)))
  refine loop_0 (fun k i s => wX_add_19 post (nI c) (nI w) (nI n) (nI (2 ^ n)) k (nI i) (lc_em T) s) (fun i s => ∀ v, v < i → s v = nI (lc_b (lc_gadd T c w v))) (2 ^ n) B (fun v hv => by omega) ?_ ?_
  · intro k s e
    exact br_t (nI_le (Nat.le_refl _) (by omega)) (lc_xtake (lc_gadd T c w) hn hc e (lc_xdim hn hc (h s)))
  · intro k i s hi e ih
    refine br_f (nI_ge hi (by omega)) (lc_xholds hn hc hi (lc_bb (fun p => ⟨vp_in_nI (by omega) (by omega), ?_⟩) (fun p => ?_)))
    · exact nm_r (lc_st1 s (by omega)) (nm_r (nI_1 i) (ih _ (lc_ext1 e (Or.inl p))))
    · rw [nx_xor]
      refine lc_xholds hn hc (lc_xl hi hw) (lc_bb (fun q => ⟨vp_in_nI (by omega) (by omega), ?_⟩) (fun q => ⟨vp_in_nI (by omega) (by omega), ?_⟩))
      · exact nm_r (lc_st1 s (by omega)) (nm_r (nI_1 i) (ih _ (lc_ext1 e (Or.inr q))))
      · exact nm_r (lc_st0 s (by omega)) (nm_r (nI_1 i) (ih _ (lc_ext0 e (fun z => z.elim p q))))
theorem lc_xclear {post : Int32 → SX → Prop} {n c : Nat} {T : Nat → Prop} {B : Nat → Int32} (hn : n ≤ 10) (hc : c ≤ 1)
    (h : ∀ B', post (nI (lc_dm (lc_cnt (lc_cd T c) (2 ^ n)))) (lc_X n (lc_put T c (fun v => v = 0) (2 ^ n)) B')) : wpX_clear post (lc_X n T B) (nI c) := by
  unfold wpX_clear
  refine lc_xc hc (br_f lc_1n0 (lc_xdim hn hc (lc_xempty hn (fun B' hB => ?_))))
  refine nm_r (e' := upd B' 0 (nI 1)) (by rw [lc_nar1]) (lc_xtake (fun v => v = 0) hn hc (fun v hv => ?_) (h _))
  by_cases q : v = 0
  · rw [lc_b_t q, q, pk_us]
  · rw [lc_b_f q, pk_un q, hB v hv]
theorem lc_xdualize {post : Int32 → SX → Prop} {n c : Nat} {T : Nat → Prop} {B : Nat → Int32} (hn : n ≤ 10) (hc : c ≤ 1) (h : lc_XP post n T c (lc_dual n (lc_cd T c))) : wpX_dualize post (lc_X n T B) (nI c) := by
  have hW := lc_W hn
  unfold wpX_dualize
  refine lc_xc hc (br_f lc_1n0 ?_)
  refine loop_0 (fun k i s => wX_dualize_11 post (nI c) (nI n) (nI (2 ^ n)) k (nI i) (lc_em T) s) (fun i s => ∀ v, v < i → s v = nI (lc_b (lc_dual n (lc_cd T c) v))) (2 ^ n) B (fun v hv => by omega) ?_ ?_
  · intro k s e
    exact br_t (nI_le (Nat.le_refl _) (by omega)) (lc_xtake (lc_dual n (lc_cd T c)) hn hc e (lc_xdim hn hc (h s)))
  · intro k i s hi e ih
    refine br_f (nI_ge hi (by omega)) (lc_xdual hn hc hi ⟨vp_in_nI (by omega) (by omega), ?_⟩)
    exact nm_r (lc_stb s _ (by omega)) (nm_r (nI_1 i) (ih _ (lc_ext e rfl)))
theorem lc_xshorten {post : Int32 → SX → Prop} {n c p : Nat} {T : Nat → Prop} {B : Nat → Int32} (hn : n ≤ 10) (hc : c ≤ 1) (hp : p < n) (h : lc_XP post n T c (lc_gshort T c p)) : wpX_shorten post (lc_X n T B) (nI c) (nI p) := by
  have hW := lc_W hn
  unfold wpX_shorten
  refine lc_xc hc (br_f lc_1n0 (lc_xplace hn hp (br_f lc_1n0 ?_)))
  refine loop_0 (fun k i s => wX_shorten_19 post (nI c) (nI p) (nI n) (nI (2 ^ n)) k (nI i) (lc_em T) s) (fun i s => ∀ v, v < i → s v = nI (lc_b (lc_gshort T c p v))) (2 ^ n) B (fun v hv => by omega) ?_ ?_
  · intro k s e
    exact br_t (nI_le (Nat.le_refl _) (by omega)) (lc_xtake (lc_gshort T c p) hn hc e (lc_xdim hn hc (h s)))
  · intro k i s hi e ih
    refine br_f (nI_ge hi (by omega)) (lc_xholds hn hc hi (lc_bb (fun q => ?_) (fun q => ⟨vp_in_nI (by omega) (by omega), ?_⟩)))
    · refine lc_bbv (P := i.testBit p = true) (lc_bit (by omega) (by omega)) (fun q2 => ⟨vp_in_nI (by omega) (by omega), ?_⟩) (fun q2 => ⟨vp_in_nI (by omega) (by omega), ?_⟩)
      · exact nm_r (lc_st0 s (by omega)) (nm_r (nI_1 i) (ih _ (lc_ext0 e (fun z => z.2 q2))))
      · exact nm_r (lc_st1 s (by omega)) (nm_r (nI_1 i) (ih _ (lc_ext1 e ⟨q, q2⟩)))
    · exact nm_r (lc_st0 s (by omega)) (nm_r (nI_1 i) (ih _ (lc_ext0 e (fun z => q z.1))))
theorem lc_xpuncture {post : Int32 → SX → Prop} {n c p : Nat} {T : Nat → Prop} {B : Nat → Int32} (hn : n ≤ 10) (hc : c ≤ 1) (hp : p < n) (h : lc_XP post n T c (lc_gpunc n T c (lc_mkp p))) : wpX_puncture post (lc_X n T B) (nI c) (nI p) := by
  have hW := lc_W hn
  unfold wpX_puncture
  refine lc_xc hc (br_f lc_1n0 (lc_xplace hn hp (br_f lc_1n0 (nm_r (lc_mask (by omega)) (lc_xempty hn (fun B' hB => ?_))))))
  refine loop_0 (fun k i s => wX_puncture_30 post (nI c) (nI (lc_mkp p)) (nI n) (nI (2 ^ n)) k (nI i) (lc_em T) s) (fun i s => ∀ y, y < 2 ^ n → s y = nI (lc_b (∃ v, v < i ∧ lc_cd T c v ∧ y = v &&& lc_mkp p))) (2 ^ n) B' (lc_mk0 (fun v y => lc_cd T c v ∧ y = v &&& lc_mkp p) hB) ?_ ?_
  · intro k s e
    exact br_t (nI_le (Nat.le_refl _) (by omega)) (lc_xtake (lc_gpunc n T c (lc_mkp p)) hn hc e (lc_xdim hn hc (h s)))
  · intro k i s hi e ih
    refine br_f (nI_ge hi (by omega)) (lc_xholds hn hc hi (lc_bb (fun q => ?_) (fun q => ?_)))
    · have hl := lc_al (y := lc_mkp p) hi
      rw [nx_and]
      exact ⟨vp_in_nI (by omega) (by omega), nm_r (lc_st1 s (by omega)) (nm_r (nI_1 i) (ih _ (lc_mk1 (Q := fun v y => lc_cd T c v ∧ y = v &&& lc_mkp p) e (fun y => ⟨fun z => z.2, fun z => ⟨q, z⟩⟩))))⟩
    · exact nm_r (nI_1 i) (ih _ (lc_mks (Q := fun v y => lc_cd T c v ∧ y = v &&& lc_mkp p) e (fun y z => q z.1)))
theorem lc_xexchange {post : Int32 → SX → Prop} {n c a b : Nat} {T : Nat → Prop} {B : Nat → Int32} (hn : n ≤ 10) (hc : c ≤ 1) (ha : a < n) (hb : b < n) (h : lc_XP post n T c (lc_gexch T c a b)) : wpX_exchange post (lc_X n T B) (nI c) (nI a) (nI b) := by
  have hW := lc_W hn
  unfold wpX_exchange
  refine lc_xc hc (br_f lc_1n0 (lc_xplace hn ha (br_f lc_1n0 (lc_xplace hn hb (br_f lc_1n0 ?_)))))
  refine loop_0 (fun k i s => wX_exchange_28 post (nI c) (nI a) (nI b) (nI n) (nI (2 ^ n)) k (nI i) (lc_em T) s) (fun i s => ∀ v, v < i → s v = nI (lc_b (lc_gexch T c a b v))) (2 ^ n) B (fun v hv => by omega) ?_ ?_
  · intro k s e
    exact br_t (nI_le (Nat.le_refl _) (by omega)) (lc_xtake (lc_gexch T c a b) hn hc e (lc_xdim hn hc (h s)))
  · intro k i s hi e ih
    refine br_f (nI_ge hi (by omega)) (lc_xexch hn hi ha hb (lc_xholds hn hc (lc_sw_lt ha hb hi) ⟨vp_in_nI (by omega) (by omega), ?_⟩))
    exact nm_r (lc_stb s _ (by omega)) (nm_r (nI_1 i) (ih _ (lc_ext e rfl)))
theorem lc_xmeet {post : Int32 → SX → Prop} {n : Nat} {T : Nat → Prop} {B : Nat → Int32} (hn : n ≤ 10) (h : lc_XP post n T 0 (lc_gmeet T)) : wpX_meet post (lc_X n T B) := by
  have hW := lc_W hn
  unfold wpX_meet
  refine loop_0 (fun k i s => wX_meet_2 post (nI n) (nI (2 ^ n)) k (nI i) (lc_em T) s) (fun i s => ∀ v, v < i → s v = nI (lc_b (lc_gmeet T v))) (2 ^ n) B (fun v hv => by omega) ?_ ?_
  · intro k s e
    exact br_t (nI_le (Nat.le_refl _) (by omega)) (lc_xtake (c := 0) (lc_gmeet T) hn (by omega) e (lc_xdim (c := 0) hn (by omega) (h s)))
  · intro k i s hi e ih
    refine br_f (nI_ge hi (by omega)) (lc_xholds (c := 0) hn (by omega) hi (lc_bb (fun p => ?_) (fun p => ⟨vp_in_nI (by omega) (by omega), ?_⟩)))
    · refine lc_xholds (c := 1) hn (by omega) hi (lc_bb (fun q => ⟨vp_in_nI (by omega) (by omega), ?_⟩) (fun q => ⟨vp_in_nI (by omega) (by omega), ?_⟩))
      · exact nm_r (lc_st1 s (by omega)) (nm_r (nI_1 i) (ih _ (lc_ext1 e ⟨p, q⟩)))
      · exact nm_r (lc_st0 s (by omega)) (nm_r (nI_1 i) (ih _ (lc_ext0 e (fun z => q z.2))))
    · exact nm_r (lc_st0 s (by omega)) (nm_r (nI_1 i) (ih _ (lc_ext0 e (fun z => p z.1))))
end
section
/-! X: the calls that only read -/
theorem lc_xhas {post : Int32 → Prop} {n c w : Nat} {T : Nat → Prop} {B : Nat → Int32} (hn : n ≤ 10) (hc : c ≤ 1) (hw : w < 2 ^ n) (h : post (nI (lc_b (lc_cd T c w)))) : wpX_has post (lc_X n T B) (nI c) (nI w) := by
  unfold wpX_has
  exact lc_xc hc (br_f lc_1n0 (lc_xword hn hw (br_f lc_1n0 (lc_xholds hn hc hw (lc_bb (fun p => lc_p1 h p) (fun p => lc_p0 h p))))))
theorem lc_xdimension {post : Int32 → Prop} {n c : Nat} {T : Nat → Prop} {B : Nat → Int32} (hn : n ≤ 10) (hc : c ≤ 1) (h : post (nI (lc_dm (lc_cnt (lc_cd T c) (2 ^ n))))) : wpX_dimension post (lc_X n T B) (nI c) := by
  unfold wpX_dimension
  exact lc_xc hc (br_f lc_1n0 (lc_xdim hn hc h))
/-- what wordAt answers -/
def lc_wa (n : Nat) (f : Nat → Prop) (i r : Int32) : Prop := (∃ x, x < 2 ^ n ∧ f x ∧ nI (lc_cnt f x) = i ∧ r = nI x) ∨ ((∀ x, x < 2 ^ n → f x → ¬ nI (lc_cnt f x) = i) ∧ r = -4)
theorem lc_wa_u {n : Nat} (hn : n ≤ 10) {f : Nat → Prop} {i r r' : Int32} (h : lc_wa n f i r) (h' : lc_wa n f i r') : r' = r := by
  have hW := lc_W hn
  rcases h with ⟨x, hx, fx, e, rfl⟩ | ⟨e, rfl⟩
  · rcases h' with ⟨x', hx', fx', e', rfl⟩ | ⟨e', rfl⟩
    · have a1 := lc_cnt_le f x
      have a2 := lc_cnt_le f x'
      have q := (nI_eq (by omega) (by omega)).mp (e.trans e'.symm)
      rcases Nat.lt_trichotomy x x' with z | z | z
      · have := lc_cnt_lt z fx
        omega
      · rw [z]
      · have := lc_cnt_lt z fx'
        omega
    · exact absurd e (e' x hx fx)
  · rcases h' with ⟨x', hx', fx', e', rfl⟩ | ⟨e', rfl⟩
    · exact absurd e' (e x' hx' fx')
    · rfl
theorem lc_xwordAt {post : Int32 → Prop} {n c : Nat} {i : Int32} {T : Nat → Prop} {B : Nat → Int32} (hn : n ≤ 10) (hc : c ≤ 1) (h : ∀ r, lc_wa n (lc_cd T c) i r → post r) : wpX_wordAt post (lc_X n T B) (nI c) i := by
  have hW := lc_W hn
  unfold wpX_wordAt
  refine lc_xc hc (br_f lc_1n0 ?_)
  refine loop_0 (fun k v s => wX_wordAt_14 post (nI c) i (nI n) (nI (2 ^ n)) (lc_em T) B k s (nI v)) (fun v s => s = nI (lc_cnt (lc_cd T c) v) ∧ ∀ x, x < v → lc_cd T c x → ¬ nI (lc_cnt (lc_cd T c) x) = i) (2 ^ n) 0 ⟨rfl, fun x hx => by omega⟩ ?_ ?_
  · intro k s e
    exact br_t (nI_le (Nat.le_refl _) (by omega)) (h _ (Or.inr ⟨e.2, rfl⟩))
  · intro k v s hv e ih
    obtain ⟨rfl, e⟩ := e
    refine br_f (nI_ge hv (by omega)) (lc_xholds hn hc hv (lc_bb (fun p => ?_) (fun p => ?_)))
    · by_cases q : nI (lc_cnt (lc_cd T c) v) = i
      · exact br_t q (h _ (Or.inl ⟨v, hv, p, q, rfl⟩))
      · refine br_f q (nm_r (nI_1 _) (nm_r (nI_1 v) (ih _ ⟨by rw [lc_cnt_t p], fun x hx fx => ?_⟩)))
        by_cases z : x = v
        · subst z; exact q
        · exact e x (by omega) fx
    · refine nm_r (nI_1 v) (ih _ ⟨by rw [lc_cnt_f p], fun x hx fx => ?_⟩)
      by_cases z : x = v
      · subst z; exact absurd fx p
      · exact e x (by omega) fx
theorem lc_xweights {post : Int32 → Prop} {n c : Nat} {w : Int32} {T : Nat → Prop} {B : Nat → Int32} (hn : n ≤ 10) (hc : c ≤ 1) (h : post (nI (lc_cnt (fun v => lc_cd T c v ∧ nI (lc_wt v) = w) (2 ^ n)))) : wpX_weights post (lc_X n T B) (nI c) w := by
  have hW := lc_W hn
  unfold wpX_weights
  refine lc_xc hc (br_f lc_1n0 ?_)
  refine loop_0 (fun k v s => wX_weights_14 post (nI c) w (nI n) (nI (2 ^ n)) (lc_em T) B k s (nI v)) (fun v s => s = nI (lc_cnt (fun v => lc_cd T c v ∧ nI (lc_wt v) = w) v)) (2 ^ n) 0 rfl ?_ ?_
  · intro k s e
    subst e
    exact br_t (nI_le (Nat.le_refl _) (by omega)) h
  · intro k v s hv e ih
    subst e
    refine br_f (nI_ge hv (by omega)) (lc_xholds hn hc hv (lc_bb (fun p => lc_xw (by omega) ?_) (fun p => ?_)))
    · by_cases q : nI (lc_wt v) = w
      · exact br_t q (nm_r (nI_1 _) (nm_r (nI_1 v) (ih _ (by rw [lc_cnt_t ⟨p, q⟩]))))
      · exact br_f q (nm_r (nI_1 v) (ih _ (by rw [lc_cnt_f (fun z => q z.2)])))
    · exact nm_r (nI_1 v) (ih _ (by rw [lc_cnt_f (fun z => p z.1)]))
theorem lc_xdualWeights {post : Int32 → Prop} {n c : Nat} {w : Int32} {T : Nat → Prop} {B : Nat → Int32} (hn : n ≤ 10) (hc : c ≤ 1) (h : post (nI (lc_cnt (fun v => nI (lc_wt v) = w ∧ lc_dual n (lc_cd T c) v) (2 ^ n)))) : wpX_dualWeights post (lc_X n T B) (nI c) w := by
  have hW := lc_W hn
  unfold wpX_dualWeights
  refine lc_xc hc (br_f lc_1n0 ?_)
  refine loop_0 (fun k v s => wX_dualWeights_14 post (nI c) w (nI n) (nI (2 ^ n)) (lc_em T) B k s (nI v)) (fun v s => s = nI (lc_cnt (fun v => nI (lc_wt v) = w ∧ lc_dual n (lc_cd T c) v) v)) (2 ^ n) 0 rfl ?_ ?_
  · intro k s e
    subst e
    exact br_t (nI_le (Nat.le_refl _) (by omega)) h
  · intro k v s hv e ih
    subst e
    refine br_f (nI_ge hv (by omega)) (lc_xw (by omega) ?_)
    by_cases q : nI (lc_wt v) = w
    · refine br_t q (lc_xdual hn hc hv (lc_bb (fun p => ?_) (fun p => ?_)))
      · exact nm_r (nI_1 _) (nm_r (nI_1 v) (ih _ (by rw [lc_cnt_t ⟨q, p⟩])))
      · exact nm_r (nI_1 v) (ih _ (by rw [lc_cnt_f (fun z => p z.2)]))
    · exact br_f q (nm_r (nI_1 v) (ih _ (by rw [lc_cnt_f (fun z => q z.1)])))
/-- the least weight of the words from 1 to m - 1, or -4 -/
def lc_lw (f : Nat → Prop) (m : Nat) (r : Int32) : Prop := (r = -4 ∧ ∀ v, 1 ≤ v → v < m → ¬ f v) ∨ (∃ k, k ≤ 10 ∧ r = nI k ∧ (∃ v, 1 ≤ v ∧ v < m ∧ f v ∧ lc_wt v = k) ∧ ∀ v, 1 ≤ v → v < m → f v → k ≤ lc_wt v)
theorem lc_lw_u {f : Nat → Prop} {m : Nat} {r r' : Int32} (h : lc_lw f m r) (h' : lc_lw f m r') : r' = r := by
  rcases h with ⟨rfl, e⟩ | ⟨k, _, rfl, ⟨v, v1, vm, fv, e⟩, l⟩
  · rcases h' with ⟨rfl, e'⟩ | ⟨k', _, rfl, ⟨v', v1', vm', fv', e'⟩, l'⟩
    · rfl
    · exact absurd fv' (e v' v1' vm')
  · rcases h' with ⟨rfl, e'⟩ | ⟨k', _, rfl, ⟨v', v1', vm', fv', e'⟩, l'⟩
    · exact absurd fv (e' v v1 vm)
    · have a := l v' v1' vm' fv'
      have b := l' v v1 vm fv
      have q : k' = k := by omega
      rw [q]
theorem lc_lw_skip {f : Nat → Prop} {m : Nat} {r : Int32} (h : lc_lw f m r) (p : ¬ f m) : lc_lw f (m + 1) r := by
  rcases h with ⟨rfl, e⟩ | ⟨k, hk, rfl, ⟨v, v1, vm, fv, e⟩, l⟩
  · refine Or.inl ⟨rfl, fun v hv hm fv => ?_⟩
    by_cases z : v = m
    · subst z; exact p fv
    · exact e v hv (by omega) fv
  · refine Or.inr ⟨k, hk, rfl, ⟨v, v1, by omega, fv, e⟩, fun v hv hm fv => ?_⟩
    by_cases z : v = m
    · subst z; exact absurd fv p
    · exact l v hv (by omega) fv
theorem lc_lw_first {f : Nat → Prop} {m : Nat} (hm : 1 ≤ m) (h : lc_lw f m (-4)) (p : f m) : lc_lw f (m + 1) (nI (lc_wt m)) := by
  have e : ∀ v, 1 ≤ v → v < m → ¬ f v := by
    rcases h with ⟨_, e⟩ | ⟨k, hk, q, _⟩
    · exact e
    · exfalso
      have a := congrArg Int32.toInt q
      rw [nI_toInt (by omega)] at a
      have b : (-4 : Int32).toInt = -4 := by decide
      omega
  refine Or.inr ⟨lc_wt m, lc_wt_le m, rfl, ⟨m, hm, by omega, p, rfl⟩, fun v hv hm fv => ?_⟩
  by_cases z : v = m
  · subst z; exact Nat.le_refl _
  · exact absurd fv (e v hv (by omega))
theorem lc_lw_keep {f : Nat → Prop} {m k : Nat} (hk : k ≤ 10) (h : lc_lw f m (nI k)) (q : k ≤ lc_wt m) : lc_lw f (m + 1) (nI k) := by
  rcases h with ⟨e, _⟩ | ⟨k', hk', e, ⟨v, v1, vm, fv, e'⟩, l⟩
  · exfalso
    have a := congrArg Int32.toInt e
    rw [nI_toInt (by omega)] at a
    have b : (-4 : Int32).toInt = -4 := by decide
    omega
  · have z := (nI_eq (by omega) (by omega)).mp e
    subst z
    refine Or.inr ⟨k, hk, rfl, ⟨v, v1, by omega, fv, e'⟩, fun v hv hm fv => ?_⟩
    by_cases z : v = m
    · subst z; exact q
    · exact l v hv (by omega) fv
theorem lc_lw_new {f : Nat → Prop} {m k : Nat} (hm : 1 ≤ m) (hk : k ≤ 10) (h : lc_lw f m (nI k)) (p : f m) (q : lc_wt m < k) : lc_lw f (m + 1) (nI (lc_wt m)) := by
  rcases h with ⟨e, _⟩ | ⟨k', hk', e, ⟨v, v1, vm, fv, e'⟩, l⟩
  · exfalso
    have a := congrArg Int32.toInt e
    rw [nI_toInt (by omega)] at a
    have b : (-4 : Int32).toInt = -4 := by decide
    omega
  · have z := (nI_eq (by omega) (by omega)).mp e
    subst z
    refine Or.inr ⟨lc_wt m, lc_wt_le m, rfl, ⟨m, hm, by omega, p, rfl⟩, fun v hv hm fv => ?_⟩
    by_cases z : v = m
    · subst z; exact Nat.le_refl _
    · have := l v hv (by omega) fv
      omega
theorem lc_lw_c {f : Nat → Prop} {m : Nat} {r : Int32} (h : lc_lw f m r) : r = -4 ∨ ∃ k, k ≤ 10 ∧ r = nI k := by
  rcases h with ⟨rfl, e⟩ | ⟨k, hk, rfl, _⟩
  · exact Or.inl rfl
  · exact Or.inr ⟨k, hk, rfl⟩
theorem lc_n4 {k : Nat} (hk : k ≤ 10) : ¬ nI k = -4 := by
  intro e
  have a := congrArg Int32.toInt e
  rw [nI_toInt (by omega)] at a
  have b : (-4 : Int32).toInt = -4 := by decide
  omega
theorem lc_xleast {post : Int32 → Prop} {n c : Nat} {T : Nat → Prop} {B : Nat → Int32} (hn : n ≤ 10) (hc : c ≤ 1) (h : ∀ r, lc_lw (lc_cd T c) (2 ^ n) r → post r) : wpX_leastWeight post (lc_X n T B) (nI c) := by
  have hW := lc_W hn
  unfold wpX_leastWeight
  refine lc_xc hc (br_f lc_1n0 ?_)
  refine pk_loop (fun k v s => wX_leastWeight_14 post (nI c) (nI n) (nI (2 ^ n)) (lc_em T) B k s (nI v)) (fun v s => 1 ≤ v ∧ lc_lw (lc_cd T c) v s) (2 ^ n) 1 (-4) (Nat.two_pow_pos n) ⟨Nat.le_refl 1, Or.inl ⟨rfl, fun v h1 h2 => by omega⟩⟩ ?_ ?_
  · intro k s e
    exact br_t (nI_le (Nat.le_refl _) (by omega)) (h s e.2)
  · intro k v s hv e ih
    obtain ⟨v1, e⟩ := e
    refine br_f (nI_ge hv (by omega)) (lc_xholds hn hc hv (lc_bb (fun p => lc_xw (by omega) ?_) (fun p => ?_)))
    · have hwt := lc_wt_le v
      rcases lc_lw_c e with rfl | ⟨q, hq, rfl⟩
      · exact br_t rfl (nm_r (nI_1 v) (ih _ ⟨by omega, lc_lw_first v1 e p⟩))
      · refine br_f (lc_n4 hq) (pk_le q (lc_wt v) (fun z => ?_) (fun z => ?_))
        · exact nm_r (nI_1 v) (ih _ ⟨by omega, lc_lw_keep hq e z⟩)
        · exact nm_r (nI_1 v) (ih _ ⟨by omega, lc_lw_new v1 hq e p z⟩)
    · exact nm_r (nI_1 v) (ih _ ⟨by omega, lc_lw_skip e p⟩)
theorem lc_xnearest {post : Int32 → Prop} {n c w : Nat} {T : Nat → Prop} {B : Nat → Int32} (hn : n ≤ 10) (hc : c ≤ 1) (hw : w < 2 ^ n) (h0 : lc_cd T c 0) (h : ∀ b, lc_nr (lc_cd T c) w (2 ^ n) b → post (nI b)) : wpX_nearest post (lc_X n T B) (nI c) (nI w) := by
  unfold wpX_nearest
  exact lc_xc hc (br_f lc_1n0 (lc_xword hn hw (br_f lc_1n0 (lc_xnear hn hc hw h0 h))))
theorem lc_xcosets {post : Int32 → Prop} {n c : Nat} {d : Int32} {T : Nat → Prop} {B : Nat → Int32} (hn : n ≤ 10) (hc : c ≤ 1) (h0 : lc_cd T c 0) (h : post (nI (lc_cnt (fun v => lc_ldr (lc_cd T c) v ∧ nI (lc_ds n (lc_cd T c) v) = d) (2 ^ n)))) : wpX_cosets post (lc_X n T B) (nI c) d := by
  have hW := lc_W hn
  unfold wpX_cosets
  refine lc_xc hc (br_f lc_1n0 ?_)
  refine loop_0 (fun k v s => wX_cosets_14 post (nI c) d (nI n) (nI (2 ^ n)) (lc_em T) B k s (nI v)) (fun v s => s = nI (lc_cnt (fun v => lc_ldr (lc_cd T c) v ∧ nI (lc_ds n (lc_cd T c) v) = d) v)) (2 ^ n) 0 rfl ?_ ?_
  · intro k s e
    subst e
    exact br_t (nI_le (Nat.le_refl _) (by omega)) h
  · intro k v s hv e ih
    subst e
    refine br_f (nI_ge hv (by omega)) (lc_xldr hn hc hv (lc_bb (fun p => lc_xdist hn hc hv h0 ?_) (fun p => ?_)))
    · by_cases q : nI (lc_ds n (lc_cd T c) v) = d
      · exact br_t q (nm_r (nI_1 _) (nm_r (nI_1 v) (ih _ (by rw [lc_cnt_t ⟨p, q⟩]))))
      · exact br_f q (nm_r (nI_1 v) (ih _ (by rw [lc_cnt_f (fun z => q z.2)])))
    · exact nm_r (nI_1 v) (ih _ (by rw [lc_cnt_f (fun z => p z.1)]))
/-- g is the greatest distance of the leaders below m -/
def lc_rd (n : Nat) (f : Nat → Prop) (m g : Nat) : Prop := (∀ v, v < m → lc_ldr f v → lc_ds n f v ≤ g) ∧ (g = 0 ∨ ∃ v, v < m ∧ lc_ldr f v ∧ lc_ds n f v = g)
theorem lc_rd_u {n : Nat} {f : Nat → Prop} {m g g' : Nat} (h : lc_rd n f m g) (h' : lc_rd n f m g') : g' = g := by
  obtain ⟨a, b⟩ := h
  obtain ⟨a', b'⟩ := h'
  rcases b with b | ⟨v, hv, lv, e⟩
  · rcases b' with b' | ⟨v', hv', lv', e'⟩
    · omega
    · have := a v' hv' lv'
      omega
  · have x := a' v hv lv
    rcases b' with b' | ⟨v', hv', lv', e'⟩
    · omega
    · have := a v' hv' lv'
      omega
theorem lc_xradius {post : Int32 → Prop} {n c : Nat} {T : Nat → Prop} {B : Nat → Int32} (hn : n ≤ 10) (hc : c ≤ 1) (h0 : lc_cd T c 0) (h : ∀ g, lc_rd n (lc_cd T c) (2 ^ n) g → post (nI g)) : wpX_radius post (lc_X n T B) (nI c) := by
  have hW := lc_W hn
  unfold wpX_radius
  refine lc_xc hc (br_f lc_1n0 ?_)
  refine loop_0 (σ := Nat) (fun k v s => wX_radius_13 post (nI c) (nI n) (nI (2 ^ n)) (lc_em T) B k (nI s) (nI v)) (fun v s => s ≤ 10 ∧ lc_rd n (lc_cd T c) v s) (2 ^ n) 0 ⟨by omega, fun v hv => by omega, Or.inl rfl⟩ ?_ ?_
  · intro k s e
    exact br_t (nI_le (Nat.le_refl _) (by omega)) (h s e.2)
  · intro k v s hv e ih
    obtain ⟨s10, e1, e2⟩ := e
    refine br_f (nI_ge hv (by omega)) (lc_xldr hn hc hv (lc_bb (fun p => lc_xdist hn hc hv h0 ?_) (fun p => ?_)))
    · have hd := lc_ds_le hn h0 hv
      refine pk_le (lc_ds n (lc_cd T c) v) s (fun q => ?_) (fun q => ?_)
      · refine nm_r (nI_1 v) (ih s ⟨s10, fun u hu lu => ?_, ?_⟩)
        · by_cases z : u = v
          · subst z; exact q
          · exact e1 u (by omega) lu
        · rcases e2 with e2 | ⟨u, hu, e2⟩
          · exact Or.inl e2
          · exact Or.inr ⟨u, by omega, e2⟩
      · refine nm_r (nI_1 v) (ih (lc_ds n (lc_cd T c) v) ⟨by omega, fun u hu lu => ?_, Or.inr ⟨v, by omega, p, rfl⟩⟩)
        by_cases z : u = v
        · subst z; exact Nat.le_refl _
        · have := e1 u (by omega) lu
          omega
    · refine nm_r (nI_1 v) (ih s ⟨s10, fun u hu lu => ?_, ?_⟩)
      · by_cases z : u = v
        · subst z; exact absurd lu p
        · exact e1 u (by omega) lu
      · rcases e2 with e2 | ⟨u, hu, e2⟩
        · exact Or.inl e2
        · exact Or.inr ⟨u, by omega, e2⟩
def lc_info (n : Nat) (f : Nat → Prop) (w : Nat) : Prop := lc_wt w = lc_dm (lc_cnt f (2 ^ n)) ∧ lc_apart n f w
theorem lc_dmb {n : Nat} (hn : n ≤ 10) (f : Nat → Prop) : lc_dm (lc_cnt f (2 ^ n)) ≤ 10 := Nat.le_trans (lc_dm_le (lc_cnt_le f (2 ^ n))) hn
theorem lc_xisInf {post : Int32 → Prop} {n c w : Nat} {T : Nat → Prop} {B : Nat → Int32} (hn : n ≤ 10) (hc : c ≤ 1) (hw : w < 2 ^ n) (h : post (nI (lc_b (lc_info n (lc_cd T c) w)))) : wpX_isInformation post (lc_X n T B) (nI c) (nI w) := by
  have hW := lc_W hn
  have hd := lc_dmb hn (lc_cd T c)
  have hwt := lc_wt_le w
  unfold wpX_isInformation
  refine lc_xc hc (br_f lc_1n0 (lc_xword hn hw (br_f lc_1n0 (lc_xdim hn hc (lc_xw (by omega) ?_)))))
  refine pk_eq (lc_wt w) (lc_dm (lc_cnt (lc_cd T c) (2 ^ n))) (fun q => ?_) (fun q => ?_)
  · exact lc_xapart hn hc hw (lc_bb (fun p => lc_p1 h ⟨q, p⟩) (fun p => lc_p0 h (fun z => p z.2)))
  · exact lc_p0 h (fun z => q z.1)
theorem lc_xinfSets {post : Int32 → Prop} {n c : Nat} {T : Nat → Prop} {B : Nat → Int32} (hn : n ≤ 10) (hc : c ≤ 1) (h : post (nI (lc_cnt (lc_info n (lc_cd T c)) (2 ^ n)))) : wpX_informationSets post (lc_X n T B) (nI c) := by
  have hW := lc_W hn
  have hd := lc_dmb hn (lc_cd T c)
  unfold wpX_informationSets
  refine lc_xc hc (br_f lc_1n0 (lc_xdim hn hc ?_))
  refine loop_0 (fun k v s => wX_informationSets_20 post (nI c) (nI (lc_dm (lc_cnt (lc_cd T c) (2 ^ n)))) (nI n) (nI (2 ^ n)) (lc_em T) B k s (nI v)) (fun v s => s = nI (lc_cnt (lc_info n (lc_cd T c)) v)) (2 ^ n) 0 rfl ?_ ?_
  · intro k s e
    subst e
    exact br_t (nI_le (Nat.le_refl _) (by omega)) h
  · intro k v s hv e ih
    subst e
    have hwt := lc_wt_le v
    refine br_f (nI_ge hv (by omega)) (lc_xw (by omega) ?_)
    refine pk_eq (lc_wt v) (lc_dm (lc_cnt (lc_cd T c) (2 ^ n))) (fun q => ?_) (fun q => ?_)
    · refine lc_xapart hn hc hv (lc_bb (fun p => ?_) (fun p => ?_))
      · exact nm_r (nI_1 _) (nm_r (nI_1 v) (ih _ (by rw [lc_cnt_t ⟨q, p⟩])))
      · exact nm_r (nI_1 v) (ih _ (by rw [lc_cnt_f (fun z => p z.2)]))
    · exact nm_r (nI_1 v) (ih _ (by rw [lc_cnt_f (fun z => q z.1)]))
def lc_orth (n : Nat) (f g : Nat → Prop) : Prop := ∀ v, v < 2 ^ n → f v → lc_dual n g v
theorem lc_xorth {post : Int32 → Prop} {n : Nat} {T : Nat → Prop} {B : Nat → Int32} (hn : n ≤ 10) (h : post (nI (lc_b (lc_orth n (lc_cd T 0) (lc_cd T 1))))) : wpX_orthogonal post (lc_X n T B) := by
  have hW := lc_W hn
  unfold wpX_orthogonal
  refine loop_0 (fun k v (_ : Unit) => wX_orthogonal_2 post (nI n) (nI (2 ^ n)) (lc_em T) B k (nI v)) (fun v _ => ∀ x, x < v → lc_cd T 0 x → lc_dual n (lc_cd T 1) x) (2 ^ n) () (fun x hx => by omega) ?_ ?_
  · intro k _ e
    exact br_t (nI_le (Nat.le_refl _) (by omega)) (lc_p1 h e)
  · intro k v _ hv e ih
    refine br_f (nI_ge hv (by omega)) (lc_xholds (c := 0) hn (by omega) hv (lc_bb (fun p => ?_) (fun p => ?_)))
    · refine lc_xdual (c := 1) hn (by omega) hv (lc_bb (fun q => ?_) (fun q => ?_))
      · refine nm_r (nI_1 v) (ih () (fun x hx fx => ?_))
        by_cases z : x = v
        · subst z; exact q
        · exact e x (by omega) fx
      · exact lc_p0 h (fun z => q (z v hv p))
    · refine nm_r (nI_1 v) (ih () (fun x hx fx => ?_))
      by_cases z : x = v
      · subst z; exact absurd fx p
      · exact e x (by omega) fx
end
section
/-! Y: the calls that change a code -/
def lc_YP (post : Int32 → SY → Prop) (n : Nat) (T : Nat → Prop) (c : Nat) (g : Nat → Prop) : Prop := ∀ ct M L S D, post (nI (lc_dm (lc_cnt (lc_cd (lc_put T c g (2 ^ n)) c) (2 ^ n)))) (lc_Y n (lc_put T c g (2 ^ n)) ct M L S D)
theorem lc_yadd {post : Int32 → SY → Prop} {n c w : Nat} {T : Nat → Prop} {ct : Int32} {M L S D : Nat → Int32} (hn : n ≤ 10) (hc : c ≤ 1) (hw : w < 2 ^ n) (h : lc_YP post n T c (lc_gadd T c w)) : wpY_add post (lc_Y n T ct M L S D) (nI c) (nI w) := by
  have hW := lc_W hn
  have hC := lc_cW (lc_cd T c) hn
  unfold wpY_add
  refine lc_yc hc (br_t rfl (lc_yword hn hw (br_t rfl (lc_ytake hn hc (fun L' hL => lc_ybegin hn (fun M' hM => ?_))))))
  refine lc_yl (fun k i s => wY_add_29 post (nI c) (nI w) (nI n) (nI (2 ^ n)) (nI (lc_cnt (lc_cd T c) (2 ^ n))) k (nI i) (lc_em T) s L' S D) (fun x s => ∀ y, y < 2 ^ n → s y = nI (lc_b (∃ v, v < x ∧ lc_cd T c v ∧ (y = v ∨ y = v ^^^ w)))) (lc_cd T c) (2 ^ n) 0 0 M' rfl (Nat.zero_le _) (lc_mk0 (fun v y => lc_cd T c v ∧ (y = v ∨ y = v ^^^ w)) hM) ?_ ?_ ?_
  · intro k s e
    refine br_t (nI_le (Nat.le_refl _) (by omega)) (lc_ykeep (lc_gadd T c w) hn hc (fun y hy => ?_) (fun ct' L2 => h _ _ _ _ _))
    rw [e y hy]
    refine congrArg nI (lc_b_c ⟨?_, ?_⟩)
    · rintro ⟨v, hv, fv, rfl | rfl⟩
      · exact Or.inl fv
      · refine Or.inr ?_
        rw [lc_xx]
        exact fv
    · rintro (fy | fy)
      · exact ⟨y, hy, fy, Or.inl rfl⟩
      · exact ⟨y ^^^ w, lc_xl hy hw, fy, Or.inr (lc_xx y w).symm⟩
  · intro x s hx p e
    exact lc_mks (Q := fun v y => lc_cd T c v ∧ (y = v ∨ y = v ^^^ w)) e (fun y z => p z.1)
  · intro k x s hx p e ih
    have hcb := lc_cb hn hx p
    have hl := lc_xl hx hw
    have eL : L' (nI (lc_cnt (lc_cd T c) x)).toNatClampNeg = nI x := by rw [nI_clamp (by omega), hL x hx p]
    refine br_f (nI_ge hcb.1 (by omega)) ⟨vp_in_nI (by omega) (by omega), ?_⟩
    rw [eL, nx_xor]
    refine ⟨vp_in_nI (by omega) (by omega), nm_r (lc_st1 s (by omega)) ⟨vp_in_nI (by omega) (by omega), vp_in_nI (by omega) (by omega), nm_r (lc_st1 _ (by omega)) (nm_r (nI_1 _) (ih _ ?_))⟩⟩
    exact lc_mk2 (Q := fun v y => lc_cd T c v ∧ (y = v ∨ y = v ^^^ w)) e (fun y => ⟨fun z => z.2, fun z => ⟨p, z⟩⟩)
theorem lc_yclear {post : Int32 → SY → Prop} {n c : Nat} {T : Nat → Prop} {ct : Int32} {M L S D : Nat → Int32} (hn : n ≤ 10) (hc : c ≤ 1)
    (h : ∀ ct M L S D, post (nI (lc_dm (lc_cnt (lc_cd T c) (2 ^ n)))) (lc_Y n (lc_put T c (fun v => v = 0) (2 ^ n)) ct M L S D)) : wpY_clear post (lc_Y n T ct M L S D) (nI c) := by
  unfold wpY_clear
  refine lc_yc hc (br_t rfl (lc_ydim hn hc (fun ct' L' => lc_ybegin hn (fun M' hM => ?_))))
  refine nm_r (e' := upd M' 0 (nI 1)) (by rw [lc_nar1]) (lc_ykeep (fun v => v = 0) hn hc (fun v hv => ?_) (fun ct2 L2 => h _ _ _ _ _))
  by_cases q : v = 0
  · rw [lc_b_t q, q, pk_us]
  · rw [lc_b_f q, pk_un q, hM v hv]
theorem lc_ydualize {post : Int32 → SY → Prop} {n c : Nat} {T : Nat → Prop} {ct : Int32} {M L S D : Nat → Int32} (hn : n ≤ 10) (hc : c ≤ 1) (h : lc_YP post n T c (lc_dual n (lc_cd T c))) : wpY_dualize post (lc_Y n T ct M L S D) (nI c) := by
  have hW := lc_W hn
  unfold wpY_dualize
  refine lc_yc hc (br_t rfl (lc_ytake hn hc (fun L' hL => ?_)))
  refine loop_0 (fun k i s => wY_dualize_17 post (nI c) (nI n) (nI (2 ^ n)) (nI (lc_cnt (lc_cd T c) (2 ^ n))) k (nI i) (lc_em T) s L' S D) (fun i s => ∀ v, v < i → s v = nI (lc_b (lc_dual n (lc_cd T c) v))) (2 ^ n) M (fun v hv => by omega) ?_ ?_
  · intro k s e
    exact br_t (nI_le (Nat.le_refl _) (by omega)) (lc_ykeep (lc_dual n (lc_cd T c)) hn hc e (fun ct' L2 => h _ _ _ _ _))
  · intro k i s hi e ih
    refine br_f (nI_ge hi (by omega)) (lc_ydual hn hi hL ⟨vp_in_nI (by omega) (by omega), ?_⟩)
    exact nm_r (lc_stb s _ (by omega)) (nm_r (nI_1 i) (ih _ (lc_ext e rfl)))
theorem lc_yshorten {post : Int32 → SY → Prop} {n c p : Nat} {T : Nat → Prop} {ct : Int32} {M L S D : Nat → Int32} (hn : n ≤ 10) (hc : c ≤ 1) (hp : p < n) (h : lc_YP post n T c (lc_gshort T c p)) : wpY_shorten post (lc_Y n T ct M L S D) (nI c) (nI p) := by
  have hW := lc_W hn
  have hC := lc_cW (lc_cd T c) hn
  unfold wpY_shorten
  refine lc_yc hc (br_t rfl (lc_yplace hn hp (br_t rfl (lc_ytake hn hc (fun L' hL => lc_ybegin hn (fun M' hM => ?_))))))
  refine lc_yl (fun k i s => wY_shorten_29 post (nI c) (nI p) (nI n) (nI (2 ^ n)) (nI (lc_cnt (lc_cd T c) (2 ^ n))) k (nI i) (lc_em T) s L' S D) (fun x s => ∀ y, y < 2 ^ n → s y = nI (lc_b (∃ v, v < x ∧ lc_gshort T c p v ∧ y = v))) (lc_cd T c) (2 ^ n) 0 0 M' rfl (Nat.zero_le _) (lc_mk0 (fun v y => lc_gshort T c p v ∧ y = v) hM) ?_ ?_ ?_
  · intro k s e
    refine br_t (nI_le (Nat.le_refl _) (by omega)) (lc_ykeep (lc_gshort T c p) hn hc (fun y hy => ?_) (fun ct' L2 => h _ _ _ _ _))
    rw [e y hy]
    refine congrArg nI (lc_b_c ⟨?_, fun fy => ⟨y, hy, fy, rfl⟩⟩)
    rintro ⟨v, hv, fv, rfl⟩
    exact fv
  · intro x s hx q e
    exact lc_mks (Q := fun v y => lc_gshort T c p v ∧ y = v) e (fun y z => q z.1.1)
  · intro k x s hx q e ih
    have hcb := lc_cb hn hx q
    have eL : L' (nI (lc_cnt (lc_cd T c) x)).toNatClampNeg = nI x := by rw [nI_clamp (by omega), hL x hx q]
    refine br_f (nI_ge hcb.1 (by omega)) ⟨vp_in_nI (by omega) (by omega), ?_⟩
    rw [eL]
    refine lc_bbv (P := x.testBit p = true) (lc_bit (by omega) (by omega)) (fun q2 => ?_) (fun q2 => ?_)
    · exact nm_r (nI_1 _) (ih _ (lc_mks (Q := fun v y => lc_gshort T c p v ∧ y = v) e (fun y z => z.1.2 q2)))
    · refine ⟨vp_in_nI (by omega) (by omega), vp_in_nI (by omega) (by omega), nm_r (lc_st1 s (by omega)) (nm_r (nI_1 _) (ih _ ?_))⟩
      exact lc_mk1 (Q := fun v y => lc_gshort T c p v ∧ y = v) e (fun y => ⟨fun z => z.2, fun z => ⟨⟨q, q2⟩, z⟩⟩)
theorem lc_ypuncture {post : Int32 → SY → Prop} {n c p : Nat} {T : Nat → Prop} {ct : Int32} {M L S D : Nat → Int32} (hn : n ≤ 10) (hc : c ≤ 1) (hp : p < n) (h : lc_YP post n T c (lc_gpunc n T c (lc_mkp p))) : wpY_puncture post (lc_Y n T ct M L S D) (nI c) (nI p) := by
  have hW := lc_W hn
  have hC := lc_cW (lc_cd T c) hn
  unfold wpY_puncture
  refine lc_yc hc (br_t rfl (lc_yplace hn hp (br_t rfl (lc_ytake hn hc (fun L' hL => lc_ybegin hn (fun M' hM => ?_))))))
  refine lc_yl (fun k i s => wY_puncture_29 post (nI c) (nI p) (nI n) (nI (2 ^ n)) (nI (lc_cnt (lc_cd T c) (2 ^ n))) k (nI i) (lc_em T) s L' S D) (fun x s => ∀ y, y < 2 ^ n → s y = nI (lc_b (∃ v, v < x ∧ lc_cd T c v ∧ y = v &&& lc_mkp p))) (lc_cd T c) (2 ^ n) 0 0 M' rfl (Nat.zero_le _) (lc_mk0 (fun v y => lc_cd T c v ∧ y = v &&& lc_mkp p) hM) ?_ ?_ ?_
  · intro k s e
    exact br_t (nI_le (Nat.le_refl _) (by omega)) (lc_ykeep (lc_gpunc n T c (lc_mkp p)) hn hc e (fun ct' L2 => h _ _ _ _ _))
  · intro x s hx q e
    exact lc_mks (Q := fun v y => lc_cd T c v ∧ y = v &&& lc_mkp p) e (fun y z => q z.1)
  · intro k x s hx q e ih
    have hcb := lc_cb hn hx q
    have hl := lc_al (y := lc_mkp p) hx
    have eL : L' (nI (lc_cnt (lc_cd T c) x)).toNatClampNeg = nI x := by rw [nI_clamp (by omega), hL x hx q]
    refine br_f (nI_ge hcb.1 (by omega)) ⟨vp_in_nI (by omega) (by omega), ?_⟩
    rw [eL, lc_mask (by omega), nx_and]
    refine ⟨vp_in_nI (by omega) (by omega), nm_r (lc_st1 s (by omega)) (nm_r (nI_1 _) (ih _ ?_))⟩
    exact lc_mk1 (Q := fun v y => lc_cd T c v ∧ y = v &&& lc_mkp p) e (fun y => ⟨fun z => z.2, fun z => ⟨q, z⟩⟩)
theorem lc_yexchange {post : Int32 → SY → Prop} {n c a b : Nat} {T : Nat → Prop} {ct : Int32} {M L S D : Nat → Int32} (hn : n ≤ 10) (hc : c ≤ 1) (ha : a < n) (hb : b < n) (h : lc_YP post n T c (lc_gexch T c a b)) : wpY_exchange post (lc_Y n T ct M L S D) (nI c) (nI a) (nI b) := by
  have hW := lc_W hn
  have hC := lc_cW (lc_cd T c) hn
  unfold wpY_exchange
  refine lc_yc hc (br_t rfl (lc_yplace hn ha (br_t rfl (lc_yplace hn hb (br_t rfl (lc_ytake hn hc (fun L' hL => lc_ybegin hn (fun M' hM => ?_))))))))
  refine lc_yl (fun k i s => wY_exchange_38 post (nI c) (nI a) (nI b) (nI n) (nI (2 ^ n)) (nI (lc_cnt (lc_cd T c) (2 ^ n))) k (nI i) (lc_em T) s L' S D) (fun x s => ∀ y, y < 2 ^ n → s y = nI (lc_b (∃ v, v < x ∧ lc_cd T c v ∧ y = lc_sw a b v))) (lc_cd T c) (2 ^ n) 0 0 M' rfl (Nat.zero_le _) (lc_mk0 (fun v y => lc_cd T c v ∧ y = lc_sw a b v) hM) ?_ ?_ ?_
  · intro k s e
    refine br_t (nI_le (Nat.le_refl _) (by omega)) (lc_ykeep (lc_gexch T c a b) hn hc (fun y hy => ?_) (fun ct' L2 => h _ _ _ _ _))
    rw [e y hy]
    refine congrArg nI (lc_b_c ⟨?_, fun fy => ⟨lc_sw a b y, lc_sw_lt ha hb hy, fy, (lc_sw_sw a b y).symm⟩⟩)
    rintro ⟨v, hv, fv, rfl⟩
    unfold lc_gexch
    rw [lc_sw_sw]
    exact fv
  · intro x s hx q e
    exact lc_mks (Q := fun v y => lc_cd T c v ∧ y = lc_sw a b v) e (fun y z => q z.1)
  · intro k x s hx q e ih
    have hcb := lc_cb hn hx q
    have hl := lc_sw_lt ha hb hx
    have mk := lc_mk1 (Q := fun v y => lc_cd T c v ∧ y = lc_sw a b v) e (fun y => ⟨fun z => z.2, fun z => ⟨q, z⟩⟩)
    refine br_f (nI_ge hcb.1 (by omega)) ⟨vp_in_nI (by omega) (by omega), ?_⟩
    refine nm_r (e' := nI x) (by rw [nI_clamp (by omega), hL x hx q]) (nm_r (lc_bit (by omega) (by omega)) (nm_r (lc_bit (by omega) (by omega)) ?_))
    have b1 := lc_b_le (x.testBit a = true)
    have b2 := lc_b_le (x.testBit b = true)
    refine pk_eq (lc_b (x.testBit a = true)) (lc_b (x.testBit b = true)) (fun z => ?_) (fun z => ?_)
    · have e1 : lc_sw a b x = x := by
        unfold lc_sw
        rw [if_pos]
        revert z
        cases x.testBit a <;> cases x.testBit b
        · intro _; rfl
        · rw [lc_b_f (by decide), lc_b_t rfl]; omega
        · rw [lc_b_f (P := false = true) (by decide), lc_b_t rfl]; omega
        · intro _; rfl
      rw [e1] at mk
      exact ⟨vp_in_nI (by omega) (by omega), nm_r (lc_st1 s (by omega)) (nm_r (nI_1 _) (ih _ mk))⟩
    · have e1 : lc_sw a b x = (x ^^^ 2 ^ a) ^^^ 2 ^ b := by
        unfold lc_sw
        rw [if_neg]
        intro q2
        rw [q2] at z
        exact z rfl
      rw [e1] at mk hl
      refine nm_r (e' := nI ((x ^^^ 2 ^ a) ^^^ 2 ^ b)) (by rw [lc_shl (by omega), lc_shl (by omega), nx_xor, nx_xor]) ?_
      exact ⟨vp_in_nI (by omega) (by omega), nm_r (lc_st1 s (by omega)) (nm_r (nI_1 _) (ih _ mk))⟩
theorem lc_ymeet {post : Int32 → SY → Prop} {n : Nat} {T : Nat → Prop} {ct : Int32} {M L S D : Nat → Int32} (hn : n ≤ 10) (h : lc_YP post n T 0 (lc_gmeet T)) : wpY_meet post (lc_Y n T ct M L S D) := by
  have hW := lc_W hn
  unfold wpY_meet
  refine loop_0 (fun k i s => wY_meet_2 post (nI n) (nI (2 ^ n)) ct k (nI i) (lc_em T) s L S D) (fun i s => ∀ v, v < i → s v = nI (lc_b (lc_gmeet T v))) (2 ^ n) M (fun v hv => by omega) ?_ ?_
  · intro k s e
    exact br_t (nI_le (Nat.le_refl _) (by omega)) (lc_ykeep (c := 0) (lc_gmeet T) hn (by omega) e (fun ct' L2 => h _ _ _ _ _))
  · intro k i s hi e ih
    have ea : lc_em T (nI i).toNatClampNeg = nI (lc_b (lc_cd T 0 i)) := by
      rw [nI_clamp (by omega)]
      unfold lc_cd lc_em
      rw [Nat.zero_mul, Nat.zero_add]
    have eb : (1024 : Int32) + nI i = nI (1024 + i) := nI_add 1024 i
    refine br_f (nI_ge hi (by omega)) ⟨vp_in_nI (by omega) (by omega), lc_bbv ea (fun p => ?_) (fun p => ⟨vp_in_nI (by omega) (by omega), ?_⟩)⟩
    · rw [eb]
      refine ⟨vp_in_nI (by omega) (by omega), lc_bbv (P := lc_cd T 1 i) (by rw [nI_clamp (by omega)]; rfl) (fun q => ⟨vp_in_nI (by omega) (by omega), ?_⟩) (fun q => ⟨vp_in_nI (by omega) (by omega), ?_⟩)⟩
      · exact nm_r (lc_st1 s (by omega)) (nm_r (nI_1 i) (ih _ (lc_ext1 e ⟨p, q⟩)))
      · exact nm_r (lc_st0 s (by omega)) (nm_r (nI_1 i) (ih _ (lc_ext0 e (fun z => q z.2))))
    · exact nm_r (lc_st0 s (by omega)) (nm_r (nI_1 i) (ih _ (lc_ext0 e (fun z => p z.1))))
end
section
/-! Y: the calls that only read -/
theorem lc_yhas {post : Int32 → Prop} {n c w : Nat} {T : Nat → Prop} {ct : Int32} {M L S D : Nat → Int32} (hn : n ≤ 10) (hc : c ≤ 1) (hw : w < 2 ^ n) (h : post (nI (lc_b (lc_cd T c w)))) : wpY_has post (lc_Y n T ct M L S D) (nI c) (nI w) := by
  have hW := lc_W hn
  unfold wpY_has
  refine lc_yc hc (br_t rfl (lc_yword hn hw (br_t rfl ?_)))
  rw [lc_ix']
  exact ⟨vp_in_nI (by omega) (by omega), lc_bbv (P := lc_cd T c w) (by rw [nI_clamp (by omega)]; rfl) (fun p => lc_p1 h p) (fun p => lc_p0 h p)⟩
/-- what a reading call may leave behind it -/
def lc_YR (post : Int32 → SY → Prop) (n : Nat) (T : Nat → Prop) (r : Int32) : Prop := ∀ ct M L S D, post r (lc_Y n T ct M L S D)
theorem lc_ywordAt {post : Int32 → SY → Prop} {n c : Nat} {i : Int32} {T : Nat → Prop} {ct : Int32} {M L S D : Nat → Int32} (hn : n ≤ 10) (hc : c ≤ 1) (h : ∀ r, lc_wa n (lc_cd T c) i r → lc_YR post n T r) : wpY_wordAt post (lc_Y n T ct M L S D) (nI c) i := by
  have hW := lc_W hn
  have hC := lc_cW (lc_cd T c) hn
  unfold wpY_wordAt
  refine lc_yc hc (br_t rfl (lc_ytake hn hc (fun L' hL => ?_)))
  refine br_c (fun q => ?_) (fun q => ?_)
  · refine h _ (Or.inr ⟨fun x hx fx e => ?_, rfl⟩) _ _ _ _ _
    have hcb := lc_cb hn hx fx
    subst e
    exact absurd q (nI_pos (by omega))
  · obtain ⟨j, hj, rfl⟩ := nI_of q
    refine pk_lt j (lc_cnt (lc_cd T c) (2 ^ n)) (fun z => ⟨vp_in_nI (by omega) (by omega), ?_⟩) (fun z => ?_)
    · obtain ⟨x, hx, fx, e⟩ := lc_cnt_at z
      refine h _ (Or.inl ⟨x, hx, fx, by rw [e], ?_⟩) _ _ _ _ _
      rw [nI_clamp hj, ← e, hL x hx fx]
    · refine h _ (Or.inr ⟨fun x hx fx e => ?_, rfl⟩) _ _ _ _ _
      have hcb := lc_cb hn hx fx
      have := (nI_eq (by omega) hj).mp e
      omega
theorem lc_yweights {post : Int32 → SY → Prop} {n c : Nat} {w : Int32} {T : Nat → Prop} {ct : Int32} {M L S D : Nat → Int32} (hn : n ≤ 10) (hc : c ≤ 1) (h : lc_YR post n T (nI (lc_cnt (fun v => lc_cd T c v ∧ nI (lc_wt v) = w) (2 ^ n)))) : wpY_weights post (lc_Y n T ct M L S D) (nI c) w := by
  have hW := lc_W hn
  have hC := lc_cW (lc_cd T c) hn
  unfold wpY_weights
  refine lc_yc hc (br_t rfl (lc_ytake hn hc (fun L' hL => ?_)))
  refine lc_yl (fun k i s => wY_weights_20 post w (nI n) (nI (2 ^ n)) (nI (lc_cnt (lc_cd T c) (2 ^ n))) (lc_em T) M L' S D k s (nI i)) (fun x s => s = nI (lc_cnt (fun v => lc_cd T c v ∧ nI (lc_wt v) = w) x)) (lc_cd T c) (2 ^ n) 0 0 0 rfl (Nat.zero_le _) rfl ?_ ?_ ?_
  · intro k s e
    subst e
    exact br_t (nI_le (Nat.le_refl _) (by omega)) (h _ _ _ _ _)
  · intro x s hx p e
    subst e
    rw [lc_cnt_f (fun z => p z.1)]
  · intro k x s hx p e ih
    subst e
    have hcb := lc_cb hn hx p
    refine br_f (nI_ge hcb.1 (by omega)) ⟨vp_in_nI (by omega) (by omega), ?_⟩
    rw [nI_clamp (by omega), hL x hx p]
    refine lc_yw hn hx ?_
    by_cases q : nI (lc_wt x) = w
    · exact br_t q (nm_r (nI_1 _) (nm_r (nI_1 _) (ih _ (by rw [lc_cnt_t (f := fun v => lc_cd T c v ∧ nI (lc_wt v) = w) ⟨p, q⟩]))))
    · exact br_f q (nm_r (nI_1 _) (ih _ (by rw [lc_cnt_f (f := fun v => lc_cd T c v ∧ nI (lc_wt v) = w) (fun z => q z.2)])))
theorem lc_ydualWeights {post : Int32 → SY → Prop} {n c : Nat} {w : Int32} {T : Nat → Prop} {ct : Int32} {M L S D : Nat → Int32} (hn : n ≤ 10) (hc : c ≤ 1) (h : lc_YR post n T (nI (lc_cnt (fun v => nI (lc_wt v) = w ∧ lc_dual n (lc_cd T c) v) (2 ^ n)))) : wpY_dualWeights post (lc_Y n T ct M L S D) (nI c) w := by
  have hW := lc_W hn
  unfold wpY_dualWeights
  refine lc_yc hc (br_t rfl (lc_ytake hn hc (fun L' hL => ?_)))
  refine loop_0 (fun k v s => wY_dualWeights_20 post w (nI n) (nI (2 ^ n)) (nI (lc_cnt (lc_cd T c) (2 ^ n))) (lc_em T) M L' S D k s (nI v)) (fun v s => s = nI (lc_cnt (fun v => nI (lc_wt v) = w ∧ lc_dual n (lc_cd T c) v) v)) (2 ^ n) 0 rfl ?_ ?_
  · intro k s e
    subst e
    exact br_t (nI_le (Nat.le_refl _) (by omega)) (h _ _ _ _ _)
  · intro k v s hv e ih
    subst e
    refine br_f (nI_ge hv (by omega)) (lc_yw hn hv ?_)
    by_cases q : nI (lc_wt v) = w
    · refine br_t q (lc_ydual hn hv hL (lc_bb (fun p => ?_) (fun p => ?_)))
      · exact nm_r (nI_1 _) (nm_r (nI_1 v) (ih _ (by rw [lc_cnt_t ⟨q, p⟩])))
      · exact nm_r (nI_1 v) (ih _ (by rw [lc_cnt_f (fun z => p z.2)]))
    · exact br_f q (nm_r (nI_1 v) (ih _ (by rw [lc_cnt_f (fun z => q z.1)])))
theorem lc_yleast {post : Int32 → SY → Prop} {n c : Nat} {T : Nat → Prop} {ct : Int32} {M L S D : Nat → Int32} (hn : n ≤ 10) (hc : c ≤ 1) (h0 : lc_cd T c 0) (h : ∀ r, lc_lw (lc_cd T c) (2 ^ n) r → lc_YR post n T r) : wpY_leastWeight post (lc_Y n T ct M L S D) (nI c) := by
  have hW := lc_W hn
  have hC := lc_cW (lc_cd T c) hn
  unfold wpY_leastWeight
  refine lc_yc hc (br_t rfl (lc_ytake hn hc (fun L' hL => ?_)))
  refine lc_yl (fun k i s => wY_leastWeight_20 post (nI n) (nI (2 ^ n)) (nI (lc_cnt (lc_cd T c) (2 ^ n))) (lc_em T) M L' S D k s (nI i)) (fun v s => 1 ≤ v ∧ lc_lw (lc_cd T c) v s) (lc_cd T c) (2 ^ n) 1 1 (-4) (lc_cnt_t (m := 0) h0) (Nat.two_pow_pos n) ⟨Nat.le_refl 1, Or.inl ⟨rfl, fun v h1 h2 => by omega⟩⟩ ?_ ?_ ?_
  · intro k s e
    exact br_t (nI_le (Nat.le_refl _) (by omega)) (h s e.2 _ _ _ _ _)
  · intro v s hv p e
    exact ⟨by omega, lc_lw_skip e.2 p⟩
  · intro k v s hv p e ih
    obtain ⟨v1, e⟩ := e
    have hcb := lc_cb hn hv p
    have hwt := lc_wt_le v
    refine br_f (nI_ge hcb.1 (by omega)) ⟨vp_in_nI (by omega) (by omega), ?_⟩
    rw [nI_clamp (by omega), hL v hv p]
    refine lc_yw hn hv ?_
    rcases lc_lw_c e with rfl | ⟨q, hq, rfl⟩
    · exact br_t (by decide) (nm_r (nI_1 _) (ih _ ⟨by omega, lc_lw_first v1 e p⟩))
    · refine br_f (nI_pos (by omega)) (pk_le q (lc_wt v) (fun z => ?_) (fun z => ?_))
      · exact nm_r (nI_1 _) (ih _ ⟨by omega, lc_lw_keep hq e z⟩)
      · exact nm_r (nI_1 _) (ih _ ⟨by omega, lc_lw_new v1 hq e p z⟩)
theorem lc_ynearest {post : Int32 → SY → Prop} {n c w : Nat} {T : Nat → Prop} {ct : Int32} {M L S D : Nat → Int32} (hn : n ≤ 10) (hc : c ≤ 1) (hw : w < 2 ^ n) (h0 : lc_cd T c 0) (h : ∀ b, lc_nr (lc_cd T c) w (2 ^ n) b → lc_YR post n T (nI b)) : wpY_nearest post (lc_Y n T ct M L S D) (nI c) (nI w) := by
  have hW := lc_W hn
  have hC := lc_cW (lc_cd T c) hn
  have hP := Nat.two_pow_pos n
  unfold wpY_nearest
  refine lc_yc hc (br_t rfl (lc_yword hn hw (br_t rfl (lc_ytake hn hc (fun L' hL => ?_)))))
  refine lc_yl (σ := Nat × Nat) (fun k i s => wY_nearest_32 post (nI w) (nI n) (nI (2 ^ n)) (nI (lc_cnt (lc_cd T c) (2 ^ n))) (lc_em T) M L' S D k (nI s.1) (nI s.2) (nI i)) (fun x s => (x = 0 ∧ s = (0, 11)) ∨ (lc_nr (lc_cd T c) w x s.1 ∧ s.2 = lc_wt (s.1 ^^^ w))) (lc_cd T c) (2 ^ n) 0 0 (0, 11) rfl (Nat.zero_le _) (Or.inl ⟨rfl, rfl⟩) ?_ ?_ ?_
  · intro k s e
    refine br_t (nI_le (Nat.le_refl _) (by omega)) ?_
    rcases e with ⟨e, _⟩ | e
    · omega
    · exact h _ e.1 _ _ _ _ _
  · intro x s hx p e
    rcases e with ⟨rfl, _⟩ | e
    · exact absurd h0 p
    · exact Or.inr ⟨lc_nr_keep e.1 (fun z => absurd z p), e.2⟩
  · intro k x s hx p e ih
    obtain ⟨b, d⟩ := s
    have hcb := lc_cb hn hx p
    have hl := lc_xl hx hw
    have w1 := lc_wt_le (x ^^^ w)
    refine br_f (nI_ge hcb.1 (by omega)) ⟨vp_in_nI (by omega) (by omega), ?_⟩
    rw [nI_clamp (by omega), hL x hx p, nx_xor]
    refine lc_yw hn hl ?_
    rcases e with ⟨rfl, e⟩ | ⟨e, e2⟩
    · cases e
      refine pk_le 11 (lc_wt (0 ^^^ w)) (fun z => by omega) (fun z => ⟨vp_in_nI (by omega) (by omega), nm_e (nm_r (nI_1 _) (ih (0, lc_wt (0 ^^^ w)) (Or.inr ⟨lc_nr_1 h0 w, rfl⟩)))⟩)
    · dsimp only at e e2 ⊢
      subst e2
      have w2 := lc_wt_le (b ^^^ w)
      refine pk_le (lc_wt (b ^^^ w)) (lc_wt (x ^^^ w)) (fun z => ?_) (fun z => ⟨vp_in_nI (by omega) (by omega), ?_⟩)
      · exact nm_r (nI_1 _) (ih (b, lc_wt (b ^^^ w)) (Or.inr ⟨lc_nr_keep e (fun _ => z), rfl⟩))
      · exact nm_e (nm_r (nI_1 _) (ih (x, lc_wt (x ^^^ w)) (Or.inr ⟨lc_nr_new e p z, rfl⟩)))
theorem lc_ycosets {post : Int32 → SY → Prop} {n c : Nat} {d : Int32} {T : Nat → Prop} {ct : Int32} {M L S D : Nat → Int32} (hn : n ≤ 10) (hc : c ≤ 1) (hf : lc_LC n (lc_cd T c)) (h : lc_YR post n T (nI (lc_cnt (fun v => lc_ldr (lc_cd T c) v ∧ nI (lc_ds n (lc_cd T c) v) = d) (2 ^ n)))) : wpY_cosets post (lc_Y n T ct M L S D) (nI c) d := by
  unfold wpY_cosets
  refine lc_yc hc (br_t rfl (lc_ytake hn hc (fun L' hL => lc_yfind hn hf hL (fun S' D' hD => ?_))))
  refine br_c (fun q => ?_) (fun q => ?_)
  · rw [lc_cnt_0] at h
    · exact h _ _ _ _ _
    · rintro x hx ⟨_, rfl⟩
      have := lc_ds_le hn hf.1 hx
      exact absurd q (nI_pos (by omega))
  · obtain ⟨j, hj, rfl⟩ := nI_of q
    refine pk_le j n (fun z => ⟨vp_in_nI (by omega) (by omega), ?_⟩) (fun z => ?_)
    · rw [nI_clamp hj, hD j (by omega)]
      rw [lc_cnt_c (g := fun v => lc_ldr (lc_cd T c) v ∧ lc_ds n (lc_cd T c) v = j)] at h
      · exact h _ _ _ _ _
      · intro x hx
        have := lc_ds_le hn hf.1 hx
        rw [nI_eq (by omega) hj]
    · rw [lc_cnt_0] at h
      · exact h _ _ _ _ _
      · rintro x hx ⟨_, e⟩
        have := lc_ds_le hn hf.1 hx
        have := (nI_eq (by omega) hj).mp e
        omega
theorem lc_yradius {post : Int32 → SY → Prop} {n c : Nat} {T : Nat → Prop} {ct : Int32} {M L S D : Nat → Int32} (hn : n ≤ 10) (hc : c ≤ 1) (hf : lc_LC n (lc_cd T c)) (h : ∀ g, lc_rd n (lc_cd T c) (2 ^ n) g → lc_YR post n T (nI g)) : wpY_radius post (lc_Y n T ct M L S D) (nI c) := by
  have hW := lc_W hn
  unfold wpY_radius
  refine lc_yc hc (br_t rfl (lc_ytake hn hc (fun L' hL => lc_yfind hn hf hL (fun S' D' hD => ?_))))
  refine loop_0 (σ := Nat) (fun k i s => wY_radius_23 post (nI n) (nI (2 ^ n)) (nI (lc_cnt (lc_cd T c) (2 ^ n))) (lc_em T) M L' S' D' k (nI s) (nI i)) (fun i s => (∀ v, v < 2 ^ n → lc_ldr (lc_cd T c) v → lc_ds n (lc_cd T c) v < i → lc_ds n (lc_cd T c) v ≤ s) ∧ (s = 0 ∨ ∃ v, v < 2 ^ n ∧ lc_ldr (lc_cd T c) v ∧ lc_ds n (lc_cd T c) v = s)) (n + 1) 0 ⟨fun v _ _ hv => by omega, Or.inl rfl⟩ ?_ ?_
  · intro k s e
    refine br_t (nI_lt (by omega) (by omega)) (h s ⟨fun v hv lv => ?_, e.2⟩ _ _ _ _ _)
    have := lc_ds_le hn hf.1 hv
    exact e.1 v hv lv (by omega)
  · intro k i s hi e ih
    obtain ⟨e1, e2⟩ := e
    have hcn := lc_cnt_le (fun v => lc_ldr (lc_cd T c) v ∧ lc_ds n (lc_cd T c) v = i) (2 ^ n)
    refine br_f (nI_nlt (by omega) (by omega)) ⟨vp_in_nI (by omega) (by omega), ?_⟩
    refine pk_le (lc_cnt (fun v => lc_ldr (lc_cd T c) v ∧ lc_ds n (lc_cd T c) v = i) (2 ^ n)) 0 (fun z => ?_) (fun z => ?_) (by rw [nI_clamp (by omega)]; exact hD i (by omega))
    · refine nm_r (nI_1 i) (ih s ⟨fun v hv lv hd => ?_, e2⟩)
      by_cases q : lc_ds n (lc_cd T c) v = i
      · have := (lc_cnt_pos (f := fun v => lc_ldr (lc_cd T c) v ∧ lc_ds n (lc_cd T c) v = i)).mpr ⟨v, hv, lv, q⟩
        omega
      · exact e1 v hv lv (by omega)
    · obtain ⟨v, hv, lv, q⟩ := lc_cnt_pos.mp z
      exact nm_r (nI_1 i) (ih i ⟨fun v hv lv hd => by omega, Or.inr ⟨v, hv, lv, q⟩⟩)
theorem lc_info_c {n w : Nat} {f : Nat → Prop} (hf : lc_LC n f) : (lc_cnt f (2 ^ n) = 2 ^ lc_wt w ∧ lc_apart n f w) ↔ lc_info n f w := by
  obtain ⟨k, hk⟩ := lc_pow n f hf
  unfold lc_info
  rw [hk, lc_dm_pow]
  constructor
  · rintro ⟨e, a⟩
    have z := lc_dm_pow k
    rw [e, lc_dm_pow] at z
    exact ⟨z, a⟩
  · rintro ⟨e, a⟩
    exact ⟨by rw [e], a⟩
theorem lc_yisInf {post : Int32 → SY → Prop} {n c w : Nat} {T : Nat → Prop} {ct : Int32} {M L S D : Nat → Int32} (hn : n ≤ 10) (hc : c ≤ 1) (hw : w < 2 ^ n) (hf : lc_LC n (lc_cd T c)) (h : lc_YR post n T (nI (lc_b (lc_info n (lc_cd T c) w)))) : wpY_isInformation post (lc_Y n T ct M L S D) (nI c) (nI w) := by
  unfold wpY_isInformation
  refine lc_yc hc (br_t rfl (lc_yword hn hw (br_t rfl (lc_ytake hn hc (fun L' hL => lc_yinf hn hw hf.1 hL ?_)))))
  rw [lc_b_c (lc_info_c hf)]
  refine lc_bb (fun p => ?_) (fun p => ?_)
  · rw [lc_b_t p] at h
    exact h _ _ _ _ _
  · rw [lc_b_f p] at h
    exact h _ _ _ _ _
theorem lc_yinfSets {post : Int32 → SY → Prop} {n c : Nat} {T : Nat → Prop} {ct : Int32} {M L S D : Nat → Int32} (hn : n ≤ 10) (hc : c ≤ 1) (hf : lc_LC n (lc_cd T c)) (h : lc_YR post n T (nI (lc_cnt (lc_info n (lc_cd T c)) (2 ^ n)))) : wpY_informationSets post (lc_Y n T ct M L S D) (nI c) := by
  have hW := lc_W hn
  unfold wpY_informationSets
  refine lc_yc hc (br_t rfl (lc_ytake hn hc (fun L' hL => ?_)))
  refine loop_0 (fun k v s => wY_informationSets_19 post (nI n) (nI (2 ^ n)) (nI (lc_cnt (lc_cd T c) (2 ^ n))) (lc_em T) M L' S D k s (nI v)) (fun v s => s = nI (lc_cnt (lc_info n (lc_cd T c)) v)) (2 ^ n) 0 rfl ?_ ?_
  · intro k s e
    subst e
    exact br_t (nI_le (Nat.le_refl _) (by omega)) (h _ _ _ _ _)
  · intro k v s hv e ih
    subst e
    refine br_f (nI_ge hv (by omega)) (lc_yinf hn hv hf.1 hL ?_)
    rw [lc_b_c (lc_info_c hf)]
    refine lc_bb (fun p => ?_) (fun p => ?_)
    · exact nm_r (nI_1 _) (nm_r (nI_1 v) (ih _ (by rw [lc_cnt_t p])))
    · exact nm_r (nI_1 v) (ih _ (by rw [lc_cnt_f p]))
theorem lc_orth_c {n : Nat} {f g : Nat → Prop} : lc_orth n f g ↔ lc_orth n g f :=
  ⟨fun h v hv gv x hx fx o => h x hx fx v hv gv ((lc_od_comm _ _).mp o), fun h v hv fv x hx gx o => h x hx gx v hv fv ((lc_od_comm _ _).mp o)⟩
theorem lc_yorth {post : Int32 → SY → Prop} {n : Nat} {T : Nat → Prop} {ct : Int32} {M L S D : Nat → Int32} (hn : n ≤ 10) (h : lc_YR post n T (nI (lc_b (lc_orth n (lc_cd T 0) (lc_cd T 1))))) : wpY_orthogonal post (lc_Y n T ct M L S D) := by
  have hW := lc_W hn
  rw [lc_b_c lc_orth_c] at h
  unfold wpY_orthogonal
  refine lc_ytake (c := 0) hn (by omega) (fun L' hL => ?_)
  refine loop_0 (fun k v (_ : Unit) => wY_orthogonal_7 post (nI n) (nI (2 ^ n)) (nI (lc_cnt (lc_cd T 0) (2 ^ n))) (lc_em T) M L' S D k (nI v)) (fun v _ => ∀ x, x < v → lc_cd T 1 x → lc_dual n (lc_cd T 0) x) (2 ^ n) () (fun x hx => by omega) ?_ ?_
  · intro k _ e
    refine br_t (nI_le (Nat.le_refl _) (by omega)) ?_
    rw [lc_b_t (P := lc_orth n (lc_cd T 1) (lc_cd T 0)) e] at h
    exact h _ _ _ _ _
  · intro k v _ hv e ih
    have eb : (1024 : Int32) + nI v = nI (1024 + v) := nI_add 1024 v
    refine br_f (nI_ge hv (by omega)) ?_
    rw [eb]
    refine ⟨vp_in_nI (by omega) (by omega), lc_bbv (P := lc_cd T 1 v) (by rw [nI_clamp (by omega)]; rfl) (fun p => ?_) (fun p => ?_)⟩
    · refine lc_ydual hn hv hL (lc_bb (fun q => ?_) (fun q => ?_))
      · refine nm_r (nI_1 v) (ih () (fun x hx fx => ?_))
        by_cases z : x = v
        · subst z; exact q
        · exact e x (by omega) fx
      · rw [lc_b_f (P := lc_orth n (lc_cd T 1) (lc_cd T 0)) (fun z => q (z v hv p))] at h
        exact h _ _ _ _ _
    · refine nm_r (nI_1 v) (ih () (fun x hx fx => ?_))
      by_cases z : x = v
      · subst z; exact absurd fx p
      · exact e x (by omega) fx
end
section
/-! calls that are refused: written out by a program -/
theorem lc_cc (c : Int32) : (∃ k : Nat, k ≤ 1 ∧ c = nI k) ∨ (¬ c = 0 ∧ ¬ c = 1 ∧ (c < 0 ∨ ¬ c ≤ 1)) := by
  rcases pk_ix c (n := 2) (by omega) with h | h | ⟨j, hj, rfl⟩
  · refine Or.inr ⟨?_, ?_, Or.inl h⟩
    · rintro rfl; exact absurd h (by decide)
    · rintro rfl; exact absurd h (by decide)
  · refine Or.inr ⟨?_, ?_, Or.inr (fun k => ?_)⟩
    · rintro rfl; exact absurd h (by decide)
    · rintro rfl; exact absurd h (by decide)
    · exact absurd (Int32.le_trans h k) (by decide)
  · exact Or.inl ⟨j, by omega, rfl⟩
theorem lc_ww {n : Nat} (hn : n ≤ 10) (x : Int32) : (x < 0 ∨ nI (2 ^ n) ≤ x) ∨ ∃ j : Nat, j < 2 ^ n ∧ x = nI j := by
  have hW := lc_W hn
  rcases pk_ix x (n := 2 ^ n) (by omega) with h | h | h
  · exact Or.inl (Or.inl h)
  · exact Or.inl (Or.inr h)
  · exact Or.inr h
theorem lc_pp {n : Nat} (hn : n ≤ 10) (x : Int32) : (x < 0 ∨ nI n ≤ x) ∨ ∃ j : Nat, j < n ∧ x = nI j := by
  rcases pk_ix x (n := n) (by omega) with h | h | h
  · exact Or.inl (Or.inl h)
  · exact Or.inl (Or.inr h)
  · exact Or.inr h
theorem lc_xadd_c {post : Int32 → SX → Prop} {n : Nat} {T : Nat → Prop} {B : Nat → Int32} {c : Int32} {a0 : Int32} (n0 : ¬ c = 0) (n1 : ¬ c = 1) (h : post (-1) (lc_X n T B)) : wpX_add post (lc_X n T B) c a0 := by
  unfold wpX_add
  exact lc_xc' n0 n1 (br_t rfl h)
theorem lc_yadd_c {post : Int32 → SY → Prop} {n : Nat} {T : Nat → Prop} {ct : Int32} {M L S D : Nat → Int32} {c : Int32} {a0 : Int32} (nb : c < 0 ∨ ¬ c ≤ 1) (h : post (-1) (lc_Y n T ct M L S D)) : wpY_add post (lc_Y n T ct M L S D) c a0 := by
  unfold wpY_add
  exact lc_yc' nb (br_f lc_1n0 h)
theorem lc_xadd_a {post : Int32 → SX → Prop} {n : Nat} {T : Nat → Prop} {B : Nat → Int32} {c : Nat} {a0 : Int32} (hc : c ≤ 1) (b : a0 < 0 ∨ nI (2 ^ n) ≤ a0) (h : post (-1) (lc_X n T B)) : wpX_add post (lc_X n T B) (nI c) a0 := by
  unfold wpX_add
  exact lc_xc hc (br_f lc_1n0 (lc_xword' b (br_t rfl h)))
theorem lc_yadd_a {post : Int32 → SY → Prop} {n : Nat} {T : Nat → Prop} {ct : Int32} {M L S D : Nat → Int32} {c : Nat} {a0 : Int32} (hc : c ≤ 1) (b : a0 < 0 ∨ nI (2 ^ n) ≤ a0) (h : post (-1) (lc_Y n T ct M L S D)) : wpY_add post (lc_Y n T ct M L S D) (nI c) a0 := by
  unfold wpY_add
  exact lc_yc hc (br_t rfl (lc_yword' b (br_f lc_1n0 h)))
theorem lc_xclear_c {post : Int32 → SX → Prop} {n : Nat} {T : Nat → Prop} {B : Nat → Int32} {c : Int32} (n0 : ¬ c = 0) (n1 : ¬ c = 1) (h : post (-1) (lc_X n T B)) : wpX_clear post (lc_X n T B) c := by
  unfold wpX_clear
  exact lc_xc' n0 n1 (br_t rfl h)
theorem lc_yclear_c {post : Int32 → SY → Prop} {n : Nat} {T : Nat → Prop} {ct : Int32} {M L S D : Nat → Int32} {c : Int32} (nb : c < 0 ∨ ¬ c ≤ 1) (h : post (-1) (lc_Y n T ct M L S D)) : wpY_clear post (lc_Y n T ct M L S D) c := by
  unfold wpY_clear
  exact lc_yc' nb (br_f lc_1n0 h)
theorem lc_xdualize_c {post : Int32 → SX → Prop} {n : Nat} {T : Nat → Prop} {B : Nat → Int32} {c : Int32} (n0 : ¬ c = 0) (n1 : ¬ c = 1) (h : post (-1) (lc_X n T B)) : wpX_dualize post (lc_X n T B) c := by
  unfold wpX_dualize
  exact lc_xc' n0 n1 (br_t rfl h)
theorem lc_ydualize_c {post : Int32 → SY → Prop} {n : Nat} {T : Nat → Prop} {ct : Int32} {M L S D : Nat → Int32} {c : Int32} (nb : c < 0 ∨ ¬ c ≤ 1) (h : post (-1) (lc_Y n T ct M L S D)) : wpY_dualize post (lc_Y n T ct M L S D) c := by
  unfold wpY_dualize
  exact lc_yc' nb (br_f lc_1n0 h)
theorem lc_xshorten_c {post : Int32 → SX → Prop} {n : Nat} {T : Nat → Prop} {B : Nat → Int32} {c : Int32} {a0 : Int32} (n0 : ¬ c = 0) (n1 : ¬ c = 1) (h : post (-1) (lc_X n T B)) : wpX_shorten post (lc_X n T B) c a0 := by
  unfold wpX_shorten
  exact lc_xc' n0 n1 (br_t rfl h)
theorem lc_yshorten_c {post : Int32 → SY → Prop} {n : Nat} {T : Nat → Prop} {ct : Int32} {M L S D : Nat → Int32} {c : Int32} {a0 : Int32} (nb : c < 0 ∨ ¬ c ≤ 1) (h : post (-1) (lc_Y n T ct M L S D)) : wpY_shorten post (lc_Y n T ct M L S D) c a0 := by
  unfold wpY_shorten
  exact lc_yc' nb (br_f lc_1n0 h)
theorem lc_xshorten_a {post : Int32 → SX → Prop} {n : Nat} {T : Nat → Prop} {B : Nat → Int32} {c : Nat} {a0 : Int32} (hc : c ≤ 1) (b : a0 < 0 ∨ nI n ≤ a0) (h : post (-1) (lc_X n T B)) : wpX_shorten post (lc_X n T B) (nI c) a0 := by
  unfold wpX_shorten
  exact lc_xc hc (br_f lc_1n0 (lc_xplace' b (br_t rfl h)))
theorem lc_yshorten_a {post : Int32 → SY → Prop} {n : Nat} {T : Nat → Prop} {ct : Int32} {M L S D : Nat → Int32} {c : Nat} {a0 : Int32} (hc : c ≤ 1) (b : a0 < 0 ∨ nI n ≤ a0) (h : post (-1) (lc_Y n T ct M L S D)) : wpY_shorten post (lc_Y n T ct M L S D) (nI c) a0 := by
  unfold wpY_shorten
  exact lc_yc hc (br_t rfl (lc_yplace' b (br_f lc_1n0 h)))
theorem lc_xpuncture_c {post : Int32 → SX → Prop} {n : Nat} {T : Nat → Prop} {B : Nat → Int32} {c : Int32} {a0 : Int32} (n0 : ¬ c = 0) (n1 : ¬ c = 1) (h : post (-1) (lc_X n T B)) : wpX_puncture post (lc_X n T B) c a0 := by
  unfold wpX_puncture
  exact lc_xc' n0 n1 (br_t rfl h)
theorem lc_ypuncture_c {post : Int32 → SY → Prop} {n : Nat} {T : Nat → Prop} {ct : Int32} {M L S D : Nat → Int32} {c : Int32} {a0 : Int32} (nb : c < 0 ∨ ¬ c ≤ 1) (h : post (-1) (lc_Y n T ct M L S D)) : wpY_puncture post (lc_Y n T ct M L S D) c a0 := by
  unfold wpY_puncture
  exact lc_yc' nb (br_f lc_1n0 h)
theorem lc_xpuncture_a {post : Int32 → SX → Prop} {n : Nat} {T : Nat → Prop} {B : Nat → Int32} {c : Nat} {a0 : Int32} (hc : c ≤ 1) (b : a0 < 0 ∨ nI n ≤ a0) (h : post (-1) (lc_X n T B)) : wpX_puncture post (lc_X n T B) (nI c) a0 := by
  unfold wpX_puncture
  exact lc_xc hc (br_f lc_1n0 (lc_xplace' b (br_t rfl h)))
theorem lc_ypuncture_a {post : Int32 → SY → Prop} {n : Nat} {T : Nat → Prop} {ct : Int32} {M L S D : Nat → Int32} {c : Nat} {a0 : Int32} (hc : c ≤ 1) (b : a0 < 0 ∨ nI n ≤ a0) (h : post (-1) (lc_Y n T ct M L S D)) : wpY_puncture post (lc_Y n T ct M L S D) (nI c) a0 := by
  unfold wpY_puncture
  exact lc_yc hc (br_t rfl (lc_yplace' b (br_f lc_1n0 h)))
theorem lc_xexchange_c {post : Int32 → SX → Prop} {n : Nat} {T : Nat → Prop} {B : Nat → Int32} {c : Int32} {a0 : Int32} {a1 : Int32} (n0 : ¬ c = 0) (n1 : ¬ c = 1) (h : post (-1) (lc_X n T B)) : wpX_exchange post (lc_X n T B) c a0 a1 := by
  unfold wpX_exchange
  exact lc_xc' n0 n1 (br_t rfl h)
theorem lc_yexchange_c {post : Int32 → SY → Prop} {n : Nat} {T : Nat → Prop} {ct : Int32} {M L S D : Nat → Int32} {c : Int32} {a0 : Int32} {a1 : Int32} (nb : c < 0 ∨ ¬ c ≤ 1) (h : post (-1) (lc_Y n T ct M L S D)) : wpY_exchange post (lc_Y n T ct M L S D) c a0 a1 := by
  unfold wpY_exchange
  exact lc_yc' nb (br_f lc_1n0 h)
theorem lc_xexchange_a {post : Int32 → SX → Prop} {n : Nat} {T : Nat → Prop} {B : Nat → Int32} {c : Nat} {a0 : Int32} {a1 : Int32} (hc : c ≤ 1) (b : a0 < 0 ∨ nI n ≤ a0) (h : post (-1) (lc_X n T B)) : wpX_exchange post (lc_X n T B) (nI c) a0 a1 := by
  unfold wpX_exchange
  exact lc_xc hc (br_f lc_1n0 (lc_xplace' b (br_t rfl h)))
theorem lc_yexchange_a {post : Int32 → SY → Prop} {n : Nat} {T : Nat → Prop} {ct : Int32} {M L S D : Nat → Int32} {c : Nat} {a0 : Int32} {a1 : Int32} (hc : c ≤ 1) (b : a0 < 0 ∨ nI n ≤ a0) (h : post (-1) (lc_Y n T ct M L S D)) : wpY_exchange post (lc_Y n T ct M L S D) (nI c) a0 a1 := by
  unfold wpY_exchange
  exact lc_yc hc (br_t rfl (lc_yplace' b (br_f lc_1n0 h)))
theorem lc_xexchange_b {post : Int32 → SX → Prop} {n : Nat} {T : Nat → Prop} {B : Nat → Int32} {c i : Nat} {a1 : Int32} (hn : n ≤ 10) (hc : c ≤ 1) (hi : i < n) (b : a1 < 0 ∨ nI n ≤ a1) (h : post (-1) (lc_X n T B)) : wpX_exchange post (lc_X n T B) (nI c) (nI i) a1 := by
  unfold wpX_exchange
  exact lc_xc hc (br_f lc_1n0 (lc_xplace hn hi (br_f lc_1n0 (lc_xplace' b (br_t rfl h)))))
theorem lc_yexchange_b {post : Int32 → SY → Prop} {n : Nat} {T : Nat → Prop} {ct : Int32} {M L S D : Nat → Int32} {c i : Nat} {a1 : Int32} (hn : n ≤ 10) (hc : c ≤ 1) (hi : i < n) (b : a1 < 0 ∨ nI n ≤ a1) (h : post (-1) (lc_Y n T ct M L S D)) : wpY_exchange post (lc_Y n T ct M L S D) (nI c) (nI i) a1 := by
  unfold wpY_exchange
  exact lc_yc hc (br_t rfl (lc_yplace hn hi (br_t rfl (lc_yplace' b (br_f lc_1n0 h)))))
theorem lc_xdimension_c {post : Int32 → Prop} {n : Nat} {T : Nat → Prop} {B : Nat → Int32} {c : Int32} (n0 : ¬ c = 0) (n1 : ¬ c = 1) (h : post (-1)) : wpX_dimension post (lc_X n T B) c := by
  unfold wpX_dimension
  exact lc_xc' n0 n1 (br_t rfl h)
theorem lc_ydimension_c {post : Int32 → SY → Prop} {n : Nat} {T : Nat → Prop} {ct : Int32} {M L S D : Nat → Int32} {c : Int32} (nb : c < 0 ∨ ¬ c ≤ 1) (h : post (-1) (lc_Y n T ct M L S D)) : wpY_dimension post (lc_Y n T ct M L S D) c := by
  unfold wpY_dimension
  exact lc_yc' nb (br_f lc_1n0 h)
theorem lc_xhas_c {post : Int32 → Prop} {n : Nat} {T : Nat → Prop} {B : Nat → Int32} {c : Int32} {a0 : Int32} (n0 : ¬ c = 0) (n1 : ¬ c = 1) (h : post (-1)) : wpX_has post (lc_X n T B) c a0 := by
  unfold wpX_has
  exact lc_xc' n0 n1 (br_t rfl h)
theorem lc_yhas_c {post : Int32 → Prop} {n : Nat} {T : Nat → Prop} {ct : Int32} {M L S D : Nat → Int32} {c : Int32} {a0 : Int32} (nb : c < 0 ∨ ¬ c ≤ 1) (h : post (-1)) : wpY_has post (lc_Y n T ct M L S D) c a0 := by
  unfold wpY_has
  exact lc_yc' nb (br_f lc_1n0 h)
theorem lc_xhas_a {post : Int32 → Prop} {n : Nat} {T : Nat → Prop} {B : Nat → Int32} {c : Nat} {a0 : Int32} (hc : c ≤ 1) (b : a0 < 0 ∨ nI (2 ^ n) ≤ a0) (h : post (-1)) : wpX_has post (lc_X n T B) (nI c) a0 := by
  unfold wpX_has
  exact lc_xc hc (br_f lc_1n0 (lc_xword' b (br_t rfl h)))
theorem lc_yhas_a {post : Int32 → Prop} {n : Nat} {T : Nat → Prop} {ct : Int32} {M L S D : Nat → Int32} {c : Nat} {a0 : Int32} (hc : c ≤ 1) (b : a0 < 0 ∨ nI (2 ^ n) ≤ a0) (h : post (-1)) : wpY_has post (lc_Y n T ct M L S D) (nI c) a0 := by
  unfold wpY_has
  exact lc_yc hc (br_t rfl (lc_yword' b (br_f lc_1n0 h)))
theorem lc_xwordAt_c {post : Int32 → Prop} {n : Nat} {T : Nat → Prop} {B : Nat → Int32} {c : Int32} {a0 : Int32} (n0 : ¬ c = 0) (n1 : ¬ c = 1) (h : post (-1)) : wpX_wordAt post (lc_X n T B) c a0 := by
  unfold wpX_wordAt
  exact lc_xc' n0 n1 (br_t rfl h)
theorem lc_ywordAt_c {post : Int32 → SY → Prop} {n : Nat} {T : Nat → Prop} {ct : Int32} {M L S D : Nat → Int32} {c : Int32} {a0 : Int32} (nb : c < 0 ∨ ¬ c ≤ 1) (h : post (-1) (lc_Y n T ct M L S D)) : wpY_wordAt post (lc_Y n T ct M L S D) c a0 := by
  unfold wpY_wordAt
  exact lc_yc' nb (br_f lc_1n0 h)
theorem lc_xweights_c {post : Int32 → Prop} {n : Nat} {T : Nat → Prop} {B : Nat → Int32} {c : Int32} {a0 : Int32} (n0 : ¬ c = 0) (n1 : ¬ c = 1) (h : post (-1)) : wpX_weights post (lc_X n T B) c a0 := by
  unfold wpX_weights
  exact lc_xc' n0 n1 (br_t rfl h)
theorem lc_yweights_c {post : Int32 → SY → Prop} {n : Nat} {T : Nat → Prop} {ct : Int32} {M L S D : Nat → Int32} {c : Int32} {a0 : Int32} (nb : c < 0 ∨ ¬ c ≤ 1) (h : post (-1) (lc_Y n T ct M L S D)) : wpY_weights post (lc_Y n T ct M L S D) c a0 := by
  unfold wpY_weights
  exact lc_yc' nb (br_f lc_1n0 h)
theorem lc_xdualWeights_c {post : Int32 → Prop} {n : Nat} {T : Nat → Prop} {B : Nat → Int32} {c : Int32} {a0 : Int32} (n0 : ¬ c = 0) (n1 : ¬ c = 1) (h : post (-1)) : wpX_dualWeights post (lc_X n T B) c a0 := by
  unfold wpX_dualWeights
  exact lc_xc' n0 n1 (br_t rfl h)
theorem lc_ydualWeights_c {post : Int32 → SY → Prop} {n : Nat} {T : Nat → Prop} {ct : Int32} {M L S D : Nat → Int32} {c : Int32} {a0 : Int32} (nb : c < 0 ∨ ¬ c ≤ 1) (h : post (-1) (lc_Y n T ct M L S D)) : wpY_dualWeights post (lc_Y n T ct M L S D) c a0 := by
  unfold wpY_dualWeights
  exact lc_yc' nb (br_f lc_1n0 h)
theorem lc_xleast_c {post : Int32 → Prop} {n : Nat} {T : Nat → Prop} {B : Nat → Int32} {c : Int32} (n0 : ¬ c = 0) (n1 : ¬ c = 1) (h : post (-1)) : wpX_leastWeight post (lc_X n T B) c := by
  unfold wpX_leastWeight
  exact lc_xc' n0 n1 (br_t rfl h)
theorem lc_yleast_c {post : Int32 → SY → Prop} {n : Nat} {T : Nat → Prop} {ct : Int32} {M L S D : Nat → Int32} {c : Int32} (nb : c < 0 ∨ ¬ c ≤ 1) (h : post (-1) (lc_Y n T ct M L S D)) : wpY_leastWeight post (lc_Y n T ct M L S D) c := by
  unfold wpY_leastWeight
  exact lc_yc' nb (br_f lc_1n0 h)
theorem lc_xnearest_c {post : Int32 → Prop} {n : Nat} {T : Nat → Prop} {B : Nat → Int32} {c : Int32} {a0 : Int32} (n0 : ¬ c = 0) (n1 : ¬ c = 1) (h : post (-1)) : wpX_nearest post (lc_X n T B) c a0 := by
  unfold wpX_nearest
  exact lc_xc' n0 n1 (br_t rfl h)
theorem lc_ynearest_c {post : Int32 → SY → Prop} {n : Nat} {T : Nat → Prop} {ct : Int32} {M L S D : Nat → Int32} {c : Int32} {a0 : Int32} (nb : c < 0 ∨ ¬ c ≤ 1) (h : post (-1) (lc_Y n T ct M L S D)) : wpY_nearest post (lc_Y n T ct M L S D) c a0 := by
  unfold wpY_nearest
  exact lc_yc' nb (br_f lc_1n0 h)
theorem lc_xnearest_a {post : Int32 → Prop} {n : Nat} {T : Nat → Prop} {B : Nat → Int32} {c : Nat} {a0 : Int32} (hc : c ≤ 1) (b : a0 < 0 ∨ nI (2 ^ n) ≤ a0) (h : post (-1)) : wpX_nearest post (lc_X n T B) (nI c) a0 := by
  unfold wpX_nearest
  exact lc_xc hc (br_f lc_1n0 (lc_xword' b (br_t rfl h)))
theorem lc_ynearest_a {post : Int32 → SY → Prop} {n : Nat} {T : Nat → Prop} {ct : Int32} {M L S D : Nat → Int32} {c : Nat} {a0 : Int32} (hc : c ≤ 1) (b : a0 < 0 ∨ nI (2 ^ n) ≤ a0) (h : post (-1) (lc_Y n T ct M L S D)) : wpY_nearest post (lc_Y n T ct M L S D) (nI c) a0 := by
  unfold wpY_nearest
  exact lc_yc hc (br_t rfl (lc_yword' b (br_f lc_1n0 h)))
theorem lc_xcosets_c {post : Int32 → Prop} {n : Nat} {T : Nat → Prop} {B : Nat → Int32} {c : Int32} {a0 : Int32} (n0 : ¬ c = 0) (n1 : ¬ c = 1) (h : post (-1)) : wpX_cosets post (lc_X n T B) c a0 := by
  unfold wpX_cosets
  exact lc_xc' n0 n1 (br_t rfl h)
theorem lc_ycosets_c {post : Int32 → SY → Prop} {n : Nat} {T : Nat → Prop} {ct : Int32} {M L S D : Nat → Int32} {c : Int32} {a0 : Int32} (nb : c < 0 ∨ ¬ c ≤ 1) (h : post (-1) (lc_Y n T ct M L S D)) : wpY_cosets post (lc_Y n T ct M L S D) c a0 := by
  unfold wpY_cosets
  exact lc_yc' nb (br_f lc_1n0 h)
theorem lc_xradius_c {post : Int32 → Prop} {n : Nat} {T : Nat → Prop} {B : Nat → Int32} {c : Int32} (n0 : ¬ c = 0) (n1 : ¬ c = 1) (h : post (-1)) : wpX_radius post (lc_X n T B) c := by
  unfold wpX_radius
  exact lc_xc' n0 n1 (br_t rfl h)
theorem lc_yradius_c {post : Int32 → SY → Prop} {n : Nat} {T : Nat → Prop} {ct : Int32} {M L S D : Nat → Int32} {c : Int32} (nb : c < 0 ∨ ¬ c ≤ 1) (h : post (-1) (lc_Y n T ct M L S D)) : wpY_radius post (lc_Y n T ct M L S D) c := by
  unfold wpY_radius
  exact lc_yc' nb (br_f lc_1n0 h)
theorem lc_xisInf_c {post : Int32 → Prop} {n : Nat} {T : Nat → Prop} {B : Nat → Int32} {c : Int32} {a0 : Int32} (n0 : ¬ c = 0) (n1 : ¬ c = 1) (h : post (-1)) : wpX_isInformation post (lc_X n T B) c a0 := by
  unfold wpX_isInformation
  exact lc_xc' n0 n1 (br_t rfl h)
theorem lc_yisInf_c {post : Int32 → SY → Prop} {n : Nat} {T : Nat → Prop} {ct : Int32} {M L S D : Nat → Int32} {c : Int32} {a0 : Int32} (nb : c < 0 ∨ ¬ c ≤ 1) (h : post (-1) (lc_Y n T ct M L S D)) : wpY_isInformation post (lc_Y n T ct M L S D) c a0 := by
  unfold wpY_isInformation
  exact lc_yc' nb (br_f lc_1n0 h)
theorem lc_xisInf_a {post : Int32 → Prop} {n : Nat} {T : Nat → Prop} {B : Nat → Int32} {c : Nat} {a0 : Int32} (hc : c ≤ 1) (b : a0 < 0 ∨ nI (2 ^ n) ≤ a0) (h : post (-1)) : wpX_isInformation post (lc_X n T B) (nI c) a0 := by
  unfold wpX_isInformation
  exact lc_xc hc (br_f lc_1n0 (lc_xword' b (br_t rfl h)))
theorem lc_yisInf_a {post : Int32 → SY → Prop} {n : Nat} {T : Nat → Prop} {ct : Int32} {M L S D : Nat → Int32} {c : Nat} {a0 : Int32} (hc : c ≤ 1) (b : a0 < 0 ∨ nI (2 ^ n) ≤ a0) (h : post (-1) (lc_Y n T ct M L S D)) : wpY_isInformation post (lc_Y n T ct M L S D) (nI c) a0 := by
  unfold wpY_isInformation
  exact lc_yc hc (br_t rfl (lc_yword' b (br_f lc_1n0 h)))
theorem lc_xinfSets_c {post : Int32 → Prop} {n : Nat} {T : Nat → Prop} {B : Nat → Int32} {c : Int32} (n0 : ¬ c = 0) (n1 : ¬ c = 1) (h : post (-1)) : wpX_informationSets post (lc_X n T B) c := by
  unfold wpX_informationSets
  exact lc_xc' n0 n1 (br_t rfl h)
theorem lc_yinfSets_c {post : Int32 → SY → Prop} {n : Nat} {T : Nat → Prop} {ct : Int32} {M L S D : Nat → Int32} {c : Int32} (nb : c < 0 ∨ ¬ c ≤ 1) (h : post (-1) (lc_Y n T ct M L S D)) : wpY_informationSets post (lc_Y n T ct M L S D) c := by
  unfold wpY_informationSets
  exact lc_yc' nb (br_f lc_1n0 h)
end
section
/-- both hold the same two codes, each closed under sums -/
def i_Rel (_ : Nat) (u : SX) (v : SY) : Prop := ∃ (n : Nat) (T : Nat → Prop) (B : Nat → Int32) (ct : Int32) (M L S D : Nat → Int32), n ≤ 10 ∧ u = lc_X n T B ∧ v = lc_Y n T ct M L S D ∧ ∀ c, c ≤ 1 → lc_LC n (lc_cd T c)
theorem lc_R {k n : Nat} {T : Nat → Prop} {B : Nat → Int32} {ct : Int32} {M L S D : Nat → Int32} (hn : n ≤ 10) (hT : ∀ c, c ≤ 1 → lc_LC n (lc_cd T c)) : i_Rel k (lc_X n T B) (lc_Y n T ct M L S D) := ⟨n, T, B, ct, M, L, S, D, hn, rfl, rfl, hT⟩
def lc_T0 (j : Nat) : Prop := j = 0 ∨ j = 1024
theorem lc_T0_em : upd (upd (fun _ => 0) 0 (vp_nar .boolean 1)) 1024 (vp_nar .boolean 1) = lc_em lc_T0 := by
  funext j
  unfold lc_em lc_T0
  rw [lc_nar1]
  by_cases h : j = 1024
  · rw [h, pk_us, lc_b_t (Or.inr rfl)]
  · rw [pk_un h]
    by_cases h0 : j = 0
    · rw [h0, pk_us, lc_b_t (Or.inl rfl)]
    · rw [pk_un h0, lc_b_f (fun z => z.elim h0 h)]
      rfl
theorem lc_T0_LC {n : Nat} (hn : n ≤ 10) : ∀ c, c ≤ 1 → lc_LC n (lc_cd lc_T0 c) := by
  intro c hc
  have hW := lc_W hn
  refine lc_LC_c (lc_LC_clear n) (fun x hx => ?_)
  unfold lc_cd lc_T0
  omega
theorem lc_x0 {post : SX → Prop} {n : Nat} (hn : n ≤ 10) (h : post (lc_X n lc_T0 (fun _ => 0))) : wX_init_44 post (nI n) 0 0 (fun _ => 0) (fun _ => 0) := by
  unfold wX_init_44
  refine nm_r (lc_shl (by omega)) ?_
  intro a ea b eb
  subst ea
  rw [lc_T0_em] at eb
  subst eb
  exact h
theorem lc_y0 {post : SY → Prop} {n : Nat} (hn : n ≤ 10) (h : post (lc_Y n lc_T0 0 (fun _ => 0) (fun _ => 0) (fun _ => 0) (fun _ => 0))) : wY_init_70 post (nI n) 0 0 0 (fun _ => 0) (fun _ => 0) (fun _ => 0) (fun _ => 0) (fun _ => 0) := by
  unfold wY_init_70
  refine nm_r (lc_shl (by omega)) ?_
  intro a ea b eb
  subst ea
  rw [lc_T0_em] at eb
  subst eb
  exact h
theorem i_up {k : Nat} {u : SX} {v : SY} (h : i_Rel k u v) : i_Rel (k + 4) u v := by
  obtain ⟨n, T, B, ct, M, L, S, D, hn, hu, hv, hT⟩ := h
  exact ⟨n, T, B, ct, M, L, S, D, hn, hu, hv, hT⟩
theorem i_vc0 (k0 : Int32) : wpX_init (fun u => wpY_init (fun v => i_Rel 1 u v) k0) k0 := by
  unfold wpX_init
  refine br_c (fun h2 => br_c (fun h10 => ?_) (fun h10 => ?_)) (fun h2 => ?_)
  · obtain ⟨j, hj, rfl⟩ := nI_of2 (M := 10) (n := 10) (by decide) (fun z => absurd (Int32.lt_of_le_of_lt h2 z) (by decide)) h10
    refine lc_x0 hj ?_
    unfold wpY_init
    exact br_t h2 (br_t h10 (lc_y0 hj (lc_R hj (lc_T0_LC hj))))
  · refine lc_x0 (n := 10) (by omega) ?_
    unfold wpY_init
    exact br_t h2 (br_f h10 (lc_y0 (n := 10) (by omega) (lc_R (by omega) (lc_T0_LC (by omega)))))
  · refine lc_x0 (n := 2) (by omega) ?_
    unfold wpY_init
    exact br_f h2 (lc_y0 (n := 2) (by omega) (lc_R (by omega) (lc_T0_LC (by omega))))
theorem i_vc_add {k : Nat} {u : SX} {v : SY} (I : i_Rel k u v) (hk : k + 4 ≤ 2049) (v1 : Int32) (v2 : Int32) : wpX_add (fun r u' => wpY_add (fun r' v' => r' = r ∧ i_Rel (k + 4) u' v') v v1 v2) u v1 v2 := by
  obtain ⟨n, T, B, ct, M, L, S, D, hn, rfl, rfl, hT⟩ := I
  rcases lc_cc v1 with ⟨c, hc, rfl⟩ | ⟨n0, n1, nb⟩
  · rcases lc_ww hn v2 with bad | ⟨w, hw, rfl⟩
    · exact lc_xadd_a hc bad (lc_yadd_a hc bad ⟨rfl, lc_R hn hT⟩)
    · exact lc_xadd hn hc hw (fun B' => lc_yadd hn hc hw (fun _ _ _ _ _ => ⟨rfl, lc_R hn (lc_LC_put hn hT (lc_LC_add (hT c hc) hw) c)⟩))
  · exact lc_xadd_c n0 n1 (lc_yadd_c nb ⟨rfl, lc_R hn hT⟩)
theorem i_vc_clear {k : Nat} {u : SX} {v : SY} (I : i_Rel k u v) (hk : k + 4 ≤ 2049) (v1 : Int32) : wpX_clear (fun r u' => wpY_clear (fun r' v' => r' = r ∧ i_Rel (k + 4) u' v') v v1) u v1 := by
  obtain ⟨n, T, B, ct, M, L, S, D, hn, rfl, rfl, hT⟩ := I
  rcases lc_cc v1 with ⟨c, hc, rfl⟩ | ⟨n0, n1, nb⟩
  · exact lc_xclear hn hc (fun B' => lc_yclear hn hc (fun _ _ _ _ _ => ⟨rfl, lc_R hn (lc_LC_put hn hT (lc_LC_clear n) c)⟩))
  · exact lc_xclear_c n0 n1 (lc_yclear_c nb ⟨rfl, lc_R hn hT⟩)
theorem i_vc_dualize {k : Nat} {u : SX} {v : SY} (I : i_Rel k u v) (hk : k + 4 ≤ 2049) (v1 : Int32) : wpX_dualize (fun r u' => wpY_dualize (fun r' v' => r' = r ∧ i_Rel (k + 4) u' v') v v1) u v1 := by
  obtain ⟨n, T, B, ct, M, L, S, D, hn, rfl, rfl, hT⟩ := I
  rcases lc_cc v1 with ⟨c, hc, rfl⟩ | ⟨n0, n1, nb⟩
  · exact lc_xdualize hn hc (fun B' => lc_ydualize hn hc (fun _ _ _ _ _ => ⟨rfl, lc_R hn (lc_LC_put hn hT (lc_LC_dual n _) c)⟩))
  · exact lc_xdualize_c n0 n1 (lc_ydualize_c nb ⟨rfl, lc_R hn hT⟩)
theorem i_vc_shorten {k : Nat} {u : SX} {v : SY} (I : i_Rel k u v) (hk : k + 4 ≤ 2049) (v1 : Int32) (v2 : Int32) : wpX_shorten (fun r u' => wpY_shorten (fun r' v' => r' = r ∧ i_Rel (k + 4) u' v') v v1 v2) u v1 v2 := by
  obtain ⟨n, T, B, ct, M, L, S, D, hn, rfl, rfl, hT⟩ := I
  rcases lc_cc v1 with ⟨c, hc, rfl⟩ | ⟨n0, n1, nb⟩
  · rcases lc_pp hn v2 with bad | ⟨p, hp, rfl⟩
    · exact lc_xshorten_a hc bad (lc_yshorten_a hc bad ⟨rfl, lc_R hn hT⟩)
    · exact lc_xshorten hn hc hp (fun B' => lc_yshorten hn hc hp (fun _ _ _ _ _ => ⟨rfl, lc_R hn (lc_LC_put hn hT (lc_LC_short (hT c hc) p) c)⟩))
  · exact lc_xshorten_c n0 n1 (lc_yshorten_c nb ⟨rfl, lc_R hn hT⟩)
theorem i_vc_puncture {k : Nat} {u : SX} {v : SY} (I : i_Rel k u v) (hk : k + 4 ≤ 2049) (v1 : Int32) (v2 : Int32) : wpX_puncture (fun r u' => wpY_puncture (fun r' v' => r' = r ∧ i_Rel (k + 4) u' v') v v1 v2) u v1 v2 := by
  obtain ⟨n, T, B, ct, M, L, S, D, hn, rfl, rfl, hT⟩ := I
  rcases lc_cc v1 with ⟨c, hc, rfl⟩ | ⟨n0, n1, nb⟩
  · rcases lc_pp hn v2 with bad | ⟨p, hp, rfl⟩
    · exact lc_xpuncture_a hc bad (lc_ypuncture_a hc bad ⟨rfl, lc_R hn hT⟩)
    · exact lc_xpuncture hn hc hp (fun B' => lc_ypuncture hn hc hp (fun _ _ _ _ _ => ⟨rfl, lc_R hn (lc_LC_put hn hT (lc_LC_punc (hT c hc) (lc_mkp p)) c)⟩))
  · exact lc_xpuncture_c n0 n1 (lc_ypuncture_c nb ⟨rfl, lc_R hn hT⟩)
theorem i_vc_exchange {k : Nat} {u : SX} {v : SY} (I : i_Rel k u v) (hk : k + 4 ≤ 2049) (v1 : Int32) (v2 : Int32) (v3 : Int32) : wpX_exchange (fun r u' => wpY_exchange (fun r' v' => r' = r ∧ i_Rel (k + 4) u' v') v v1 v2 v3) u v1 v2 v3 := by
  obtain ⟨n, T, B, ct, M, L, S, D, hn, rfl, rfl, hT⟩ := I
  rcases lc_cc v1 with ⟨c, hc, rfl⟩ | ⟨n0, n1, nb⟩
  · rcases lc_pp hn v2 with bad | ⟨p, hp, rfl⟩
    · exact lc_xexchange_a hc bad (lc_yexchange_a hc bad ⟨rfl, lc_R hn hT⟩)
    · rcases lc_pp hn v3 with bad | ⟨q, hq, rfl⟩
      · exact lc_xexchange_b hn hc hp bad (lc_yexchange_b hn hc hp bad ⟨rfl, lc_R hn hT⟩)
      · exact lc_xexchange hn hc hp hq (fun B' => lc_yexchange hn hc hp hq (fun _ _ _ _ _ => ⟨rfl, lc_R hn (lc_LC_put hn hT (lc_LC_exch (hT c hc) hp hq) c)⟩))
  · exact lc_xexchange_c n0 n1 (lc_yexchange_c nb ⟨rfl, lc_R hn hT⟩)
theorem i_vc_dimension {k : Nat} {u : SX} {v : SY} (I : i_Rel k u v) (hk : k + 4 ≤ 2049) (v1 : Int32) : wpX_dimension (fun r => wpY_dimension (fun r' v' => r' = r ∧ i_Rel (k + 4) u v') v v1) u v1 := by
  obtain ⟨n, T, B, ct, M, L, S, D, hn, rfl, rfl, hT⟩ := I
  rcases lc_cc v1 with ⟨c, hc, rfl⟩ | ⟨n0, n1, nb⟩
  · exact lc_xdimension hn hc (lc_ydim hn hc (fun _ _ => ⟨rfl, lc_R hn hT⟩))
  · exact lc_xdimension_c n0 n1 (lc_ydimension_c nb ⟨rfl, lc_R hn hT⟩)
theorem i_vc_has {k : Nat} {u : SX} {v : SY} (I : i_Rel k u v) (hk : k + 4 ≤ 2049) (v1 : Int32) (v2 : Int32) : wpX_has (fun r => wpY_has (fun r' => r' = r ∧ i_Rel (k + 4) u v) v v1 v2) u v1 v2 := by
  obtain ⟨n, T, B, ct, M, L, S, D, hn, rfl, rfl, hT⟩ := I
  rcases lc_cc v1 with ⟨c, hc, rfl⟩ | ⟨n0, n1, nb⟩
  · rcases lc_ww hn v2 with bad | ⟨w, hw, rfl⟩
    · exact lc_xhas_a hc bad (lc_yhas_a hc bad ⟨rfl, lc_R hn hT⟩)
    · exact lc_xhas hn hc hw (lc_yhas hn hc hw ⟨rfl, lc_R hn hT⟩)
  · exact lc_xhas_c n0 n1 (lc_yhas_c nb ⟨rfl, lc_R hn hT⟩)
theorem i_vc_wordAt {k : Nat} {u : SX} {v : SY} (I : i_Rel k u v) (hk : k + 4 ≤ 2049) (v1 : Int32) (v2 : Int32) : wpX_wordAt (fun r => wpY_wordAt (fun r' v' => r' = r ∧ i_Rel (k + 4) u v') v v1 v2) u v1 v2 := by
  obtain ⟨n, T, B, ct, M, L, S, D, hn, rfl, rfl, hT⟩ := I
  rcases lc_cc v1 with ⟨c, hc, rfl⟩ | ⟨n0, n1, nb⟩
  · exact lc_xwordAt hn hc (fun r hr => lc_ywordAt hn hc (fun r' hr' _ _ _ _ _ => ⟨lc_wa_u hn hr hr', lc_R hn hT⟩))
  · exact lc_xwordAt_c n0 n1 (lc_ywordAt_c nb ⟨rfl, lc_R hn hT⟩)
theorem i_vc_weights {k : Nat} {u : SX} {v : SY} (I : i_Rel k u v) (hk : k + 4 ≤ 2049) (v1 : Int32) (v2 : Int32) : wpX_weights (fun r => wpY_weights (fun r' v' => r' = r ∧ i_Rel (k + 4) u v') v v1 v2) u v1 v2 := by
  obtain ⟨n, T, B, ct, M, L, S, D, hn, rfl, rfl, hT⟩ := I
  rcases lc_cc v1 with ⟨c, hc, rfl⟩ | ⟨n0, n1, nb⟩
  · exact lc_xweights hn hc (lc_yweights hn hc (fun _ _ _ _ _ => ⟨rfl, lc_R hn hT⟩))
  · exact lc_xweights_c n0 n1 (lc_yweights_c nb ⟨rfl, lc_R hn hT⟩)
theorem i_vc_dualWeights {k : Nat} {u : SX} {v : SY} (I : i_Rel k u v) (hk : k + 4 ≤ 2049) (v1 : Int32) (v2 : Int32) : wpX_dualWeights (fun r => wpY_dualWeights (fun r' v' => r' = r ∧ i_Rel (k + 4) u v') v v1 v2) u v1 v2 := by
  obtain ⟨n, T, B, ct, M, L, S, D, hn, rfl, rfl, hT⟩ := I
  rcases lc_cc v1 with ⟨c, hc, rfl⟩ | ⟨n0, n1, nb⟩
  · exact lc_xdualWeights hn hc (lc_ydualWeights hn hc (fun _ _ _ _ _ => ⟨rfl, lc_R hn hT⟩))
  · exact lc_xdualWeights_c n0 n1 (lc_ydualWeights_c nb ⟨rfl, lc_R hn hT⟩)
theorem i_vc_leastWeight {k : Nat} {u : SX} {v : SY} (I : i_Rel k u v) (hk : k + 4 ≤ 2049) (v1 : Int32) : wpX_leastWeight (fun r => wpY_leastWeight (fun r' v' => r' = r ∧ i_Rel (k + 4) u v') v v1) u v1 := by
  obtain ⟨n, T, B, ct, M, L, S, D, hn, rfl, rfl, hT⟩ := I
  rcases lc_cc v1 with ⟨c, hc, rfl⟩ | ⟨n0, n1, nb⟩
  · exact lc_xleast hn hc (fun r hr => lc_yleast hn hc (hT c hc).1 (fun r' hr' _ _ _ _ _ => ⟨lc_lw_u hr hr', lc_R hn hT⟩))
  · exact lc_xleast_c n0 n1 (lc_yleast_c nb ⟨rfl, lc_R hn hT⟩)
theorem i_vc_nearest {k : Nat} {u : SX} {v : SY} (I : i_Rel k u v) (hk : k + 4 ≤ 2049) (v1 : Int32) (v2 : Int32) : wpX_nearest (fun r => wpY_nearest (fun r' v' => r' = r ∧ i_Rel (k + 4) u v') v v1 v2) u v1 v2 := by
  obtain ⟨n, T, B, ct, M, L, S, D, hn, rfl, rfl, hT⟩ := I
  rcases lc_cc v1 with ⟨c, hc, rfl⟩ | ⟨n0, n1, nb⟩
  · rcases lc_ww hn v2 with bad | ⟨w, hw, rfl⟩
    · exact lc_xnearest_a hc bad (lc_ynearest_a hc bad ⟨rfl, lc_R hn hT⟩)
    · exact lc_xnearest hn hc hw (hT c hc).1 (fun b hb => lc_ynearest hn hc hw (hT c hc).1 (fun b' hb' _ _ _ _ _ => ⟨congrArg nI (lc_nr_u hb' hb), lc_R hn hT⟩))
  · exact lc_xnearest_c n0 n1 (lc_ynearest_c nb ⟨rfl, lc_R hn hT⟩)
theorem i_vc_cosets {k : Nat} {u : SX} {v : SY} (I : i_Rel k u v) (hk : k + 4 ≤ 2049) (v1 : Int32) (v2 : Int32) : wpX_cosets (fun r => wpY_cosets (fun r' v' => r' = r ∧ i_Rel (k + 4) u v') v v1 v2) u v1 v2 := by
  obtain ⟨n, T, B, ct, M, L, S, D, hn, rfl, rfl, hT⟩ := I
  rcases lc_cc v1 with ⟨c, hc, rfl⟩ | ⟨n0, n1, nb⟩
  · exact lc_xcosets hn hc (hT c hc).1 (lc_ycosets hn hc (hT c hc) (fun _ _ _ _ _ => ⟨rfl, lc_R hn hT⟩))
  · exact lc_xcosets_c n0 n1 (lc_ycosets_c nb ⟨rfl, lc_R hn hT⟩)
theorem i_vc_radius {k : Nat} {u : SX} {v : SY} (I : i_Rel k u v) (hk : k + 4 ≤ 2049) (v1 : Int32) : wpX_radius (fun r => wpY_radius (fun r' v' => r' = r ∧ i_Rel (k + 4) u v') v v1) u v1 := by
  obtain ⟨n, T, B, ct, M, L, S, D, hn, rfl, rfl, hT⟩ := I
  rcases lc_cc v1 with ⟨c, hc, rfl⟩ | ⟨n0, n1, nb⟩
  · exact lc_xradius hn hc (hT c hc).1 (fun g hg => lc_yradius hn hc (hT c hc) (fun g' hg' _ _ _ _ _ => ⟨congrArg nI (lc_rd_u hg hg'), lc_R hn hT⟩))
  · exact lc_xradius_c n0 n1 (lc_yradius_c nb ⟨rfl, lc_R hn hT⟩)
theorem i_vc_isInformation {k : Nat} {u : SX} {v : SY} (I : i_Rel k u v) (hk : k + 4 ≤ 2049) (v1 : Int32) (v2 : Int32) : wpX_isInformation (fun r => wpY_isInformation (fun r' v' => r' = r ∧ i_Rel (k + 4) u v') v v1 v2) u v1 v2 := by
  obtain ⟨n, T, B, ct, M, L, S, D, hn, rfl, rfl, hT⟩ := I
  rcases lc_cc v1 with ⟨c, hc, rfl⟩ | ⟨n0, n1, nb⟩
  · rcases lc_ww hn v2 with bad | ⟨w, hw, rfl⟩
    · exact lc_xisInf_a hc bad (lc_yisInf_a hc bad ⟨rfl, lc_R hn hT⟩)
    · exact lc_xisInf hn hc hw (lc_yisInf hn hc hw (hT c hc) (fun _ _ _ _ _ => ⟨rfl, lc_R hn hT⟩))
  · exact lc_xisInf_c n0 n1 (lc_yisInf_c nb ⟨rfl, lc_R hn hT⟩)
theorem i_vc_informationSets {k : Nat} {u : SX} {v : SY} (I : i_Rel k u v) (hk : k + 4 ≤ 2049) (v1 : Int32) : wpX_informationSets (fun r => wpY_informationSets (fun r' v' => r' = r ∧ i_Rel (k + 4) u v') v v1) u v1 := by
  obtain ⟨n, T, B, ct, M, L, S, D, hn, rfl, rfl, hT⟩ := I
  rcases lc_cc v1 with ⟨c, hc, rfl⟩ | ⟨n0, n1, nb⟩
  · exact lc_xinfSets hn hc (lc_yinfSets hn hc (hT c hc) (fun _ _ _ _ _ => ⟨rfl, lc_R hn hT⟩))
  · exact lc_xinfSets_c n0 n1 (lc_yinfSets_c nb ⟨rfl, lc_R hn hT⟩)
theorem i_vc_meet {k : Nat} {u : SX} {v : SY} (I : i_Rel k u v) (hk : k + 4 ≤ 2049) : wpX_meet (fun r u' => wpY_meet (fun r' v' => r' = r ∧ i_Rel (k + 4) u' v') v) u := by
  obtain ⟨n, T, B, ct, M, L, S, D, hn, rfl, rfl, hT⟩ := I
  exact lc_xmeet hn (fun B' => lc_ymeet hn (fun _ _ _ _ _ => ⟨rfl, lc_R hn (lc_LC_put hn hT (lc_LC_meet (hT 0 (by omega)) (hT 1 (by omega))) 0)⟩))
theorem i_vc_length {k : Nat} {u : SX} {v : SY} (I : i_Rel k u v) (hk : k + 4 ≤ 2049) : wpX_length (fun r => wpY_length (fun r' => r' = r ∧ i_Rel (k + 4) u v) v) u := by
  obtain ⟨n, T, B, ct, M, L, S, D, hn, rfl, rfl, hT⟩ := I
  exact ⟨rfl, lc_R hn hT⟩
theorem i_vc_orthogonal {k : Nat} {u : SX} {v : SY} (I : i_Rel k u v) (hk : k + 4 ≤ 2049) : wpX_orthogonal (fun r => wpY_orthogonal (fun r' v' => r' = r ∧ i_Rel (k + 4) u v') v) u := by
  obtain ⟨n, T, B, ct, M, L, S, D, hn, rfl, rfl, hT⟩ := I
  exact lc_xorth hn (lc_yorth hn (fun _ _ _ _ _ => ⟨rfl, lc_R hn hT⟩))
end
