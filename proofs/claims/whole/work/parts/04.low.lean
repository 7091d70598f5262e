/-! loops over a list of the words that a table has -/
theorem lc_yl {σ : Type} (W : Nat → Nat → σ → Prop) (I : Nat → σ → Prop) (f : Nat → Prop) (e x0 i0 : Nat) (s : σ) (hi : lc_cnt f x0 = i0) (hx0 : x0 ≤ e) (h0 : I x0 s)
    (hx : ∀ n s, I e s → W (n + 1) (lc_cnt f e) s) (hk : ∀ x s, x < e → ¬ f x → I x s → I (x + 1) s)
    (hs : ∀ n x s, x < e → f x → I x s → (∀ s', I (x + 1) s' → W n (lc_cnt f x + 1) s') → W (n + 1) (lc_cnt f x) s) : ∃ n, W n i0 s := by
  have key : ∀ d x s n, x + d = e → d < n → I x s → W n (lc_cnt f x) s := by
    intro d
    induction d with
    | zero =>
      intro x s n hx' hn hI
      obtain ⟨m, rfl⟩ : ∃ m, n = m + 1 := ⟨n - 1, by omega⟩
      have ex : x = e := by omega
      subst ex
      exact hx m s hI
    | succ d ih =>
      intro x s n hx' hn hI
      by_cases fx : f x
      · obtain ⟨m, rfl⟩ : ∃ m, n = m + 1 := ⟨n - 1, by omega⟩
        refine hs m x s (by omega) fx hI (fun s' hI' => ?_)
        rw [← lc_cnt_t fx]
        exact ih (x + 1) s' m (by omega) (by omega) hI'
      · rw [← lc_cnt_f fx]
        exact ih (x + 1) s n (by omega) (by omega) (hk x s (by omega) fx hI)
  rw [← hi]
  exact ⟨e - x0 + 1, key (e - x0) x0 s _ (by omega) (by omega) h0⟩
/-! bits and flags -/
theorem lc_1n0 : ¬ (1 : Int32) = 0 := by decide
theorem lc_bb {P A B : Prop} (f : P → B) (g : ¬ P → A) : (nI (lc_b P) = 0 → A) ∧ (¬ nI (lc_b P) = 0 → B) := by
  by_cases h : P
  · rw [lc_b_t h]
    exact br_f lc_1n0 (f h)
  · rw [lc_b_f h]
    exact br_t rfl (g h)
theorem lc_nar (P : Prop) : vp_nar .boolean (nI (lc_b P)) = nI (lc_b P) := by
  by_cases h : P
  · rw [lc_b_t h]; decide
  · rw [lc_b_f h]; decide
theorem lc_nar1 : vp_nar .boolean 1 = nI 1 := by decide
theorem lc_nar0 : vp_nar .boolean 0 = nI 0 := by decide
theorem lc_narrow (P : Prop) : narrow .boolean (.int (nI (lc_b P))) = .int (nI (lc_b P)) := by
  by_cases h : P
  · rw [lc_b_t h]; rfl
  · rw [lc_b_f h]; rfl
theorem lc_ix (c x : Nat) : nI c * 1024 + nI x = nI (c * 1024 + x) := by
  rw [show (1024 : Int32) = nI 1024 from rfl, pk_mul, nI_add]
theorem lc_ix' (c x : Nat) : 1024 * nI c + nI x = nI (c * 1024 + x) := by
  rw [show (1024 : Int32) = nI 1024 from rfl, pk_mul, nI_add, Nat.mul_comm]
theorem lc_bit {x p : Nat} (hx : x < 2 ^ 31) (hp : p < 32) : (nI x >>> (nI p &&& 31)) &&& 1 = nI (lc_b (x.testBit p = true)) := by
  rw [pk_shrN hx _ p (s_l p hp), show (1 : Int32) = nI 1 from rfl, nx_and, Nat.and_one_is_mod, Nat.testBit_eq_decide_div_mod_eq]
  by_cases h : x / 2 ^ p % 2 = 1
  · rw [h, lc_b_t (by decide)]
  · have e : x / 2 ^ p % 2 = 0 := by omega
    rw [e, lc_b_f (by decide)]
theorem lc_shl {p : Nat} (hp : p < 32) : (1 : Int32) <<< (nI p &&& 31) = nI (2 ^ p) := by
  rw [show (1 : Int32) = nI 1 from rfl, pk_shlN (nI p &&& 31) p (s_l p hp) (by rw [Nat.one_mul]; exact Nat.pow_lt_pow_right (by omega) hp), Nat.one_mul]
theorem lc_and1 {k : Nat} : nI k &&& 1 = nI (k % 2) := by
  rw [show (1 : Int32) = nI 1 from rfl, nx_and, Nat.and_one_is_mod]
theorem lc_mod2 {k : Nat} (h : k < 2 ^ 31) : nI k - nI k / 2 * 2 = nI (k % 2) := pk_rem (d := 2) h (by omega) (by omega)
theorem lc_eq {a b : Nat} (ha : a < 2 ^ 31) (hb : b < 2 ^ 31) : nI a = nI b ↔ a = b := nI_eq ha hb
/-! the states -/
noncomputable abbrev lc_X (n : Nat) (T : Nat → Prop) (B : Nat → Int32) : SX := (nI n, nI (2 ^ n), lc_em T, B)
noncomputable abbrev lc_Y (n : Nat) (T : Nat → Prop) (ct : Int32) (M L S D : Nat → Int32) : SY := (nI n, nI (2 ^ n), ct, lc_em T, M, L, S, D)
theorem lc_em_c (T : Nat → Prop) (c x : Nat) : lc_em T (c * 1024 + x) = nI (lc_b (lc_cd T c x)) := rfl
/-! X: small calls -/
theorem lc_xc {post : Int32 → Prop} {c : Nat} (hc : c ≤ 1) (h : post 1) : wpX_isCode post (nI c) := by
  unfold wpX_isCode
  by_cases e : c = 0
  · subst e
    exact br_t rfl h
  · have e1 : c = 1 := by omega
    subst e1
    exact br_f lc_1n0 (br_t rfl h)
theorem lc_xc' {post : Int32 → Prop} {c : Int32} (h0 : ¬ c = 0) (h1 : ¬ c = 1) (h : post 0) : wpX_isCode post c := by
  unfold wpX_isCode
  exact br_f h0 (br_f h1 h)
theorem lc_xword {post : Int32 → Prop} {n x : Nat} {T : Nat → Prop} {B : Nat → Int32} (hn : n ≤ 10) (hx : x < 2 ^ n) (h : post 1) : wpX_isWord post (lc_X n T B) (nI x) := by
  have hW := lc_W hn
  unfold wpX_isWord
  exact br_f (nI_pos (by omega)) (br_f (nI_ge hx (by omega)) h)
theorem lc_xword' {post : Int32 → Prop} {n : Nat} {x : Int32} {T : Nat → Prop} {B : Nat → Int32} (hx : x < 0 ∨ nI (2 ^ n) ≤ x) (h : post 0) : wpX_isWord post (lc_X n T B) x := by
  unfold wpX_isWord
  exact br_c (fun _ => h) (fun k => br_t (hx.resolve_left k) h)
theorem lc_xplace {post : Int32 → Prop} {n x : Nat} {T : Nat → Prop} {B : Nat → Int32} (hn : n ≤ 10) (hx : x < n) (h : post 1) : wpX_isPlace post (lc_X n T B) (nI x) := by
  unfold wpX_isPlace
  exact br_f (nI_pos (by omega)) (br_f (nI_ge hx (by omega)) h)
theorem lc_xplace' {post : Int32 → Prop} {n : Nat} {x : Int32} {T : Nat → Prop} {B : Nat → Int32} (hx : x < 0 ∨ nI n ≤ x) (h : post 0) : wpX_isPlace post (lc_X n T B) x := by
  unfold wpX_isPlace
  exact br_c (fun _ => h) (fun k => br_t (hx.resolve_left k) h)
theorem lc_xholds {post : Int32 → Prop} {n c x : Nat} {T : Nat → Prop} {B : Nat → Int32} (hn : n ≤ 10) (hc : c ≤ 1) (hx : x < 2 ^ n) (h : post (nI (lc_b (lc_cd T c x)))) : wpX_holds post (lc_X n T B) (nI c) (nI x) := by
  have hW := lc_W hn
  unfold wpX_holds
  dsimp only
  rw [lc_ix, nI_clamp (by omega)]
  exact ⟨vp_in_nI (by omega) (by omega), lc_narrow _, h⟩
theorem lc_xw {post : Int32 → Prop} {x : Nat} (hx : x < 2 ^ 31) (h : post (nI (lc_wt x))) : wpX_weightOf post (nI x) := by
  unfold wpX_weightOf
  refine loop_0 (fun n i s => wX_weightOf_4 post (nI x) n s (nI i)) (fun i s => s = nI (lc_cnt (fun i => x.testBit i = true) i)) 10 0 rfl ?_ ?_
  · intro n s e
    subst e
    exact br_t (nI_le (a := 10) (by omega) (by omega)) h
  · intro n i s hi e ih
    subst e
    refine br_f (nI_ge (b := 10) hi (by omega)) ?_
    refine nm_r (e' := nI (lc_cnt (fun i => x.testBit i = true) (i + 1))) ?_ (nm_r (nI_1 i) (ih _ rfl))
    rw [lc_bit hx (by omega), nI_add]
    rfl
/-! Y: small calls -/
theorem lc_yc {post : Int32 → Prop} {c : Nat} {v : SY} (hc : c ≤ 1) (h : post 0) : wpY_bad post v (nI c) := by
  unfold wpY_bad
  exact br_f (nI_pos (by omega)) (br_t (nI_le (b := 1) hc (by omega)) h)
theorem lc_yc' {post : Int32 → Prop} {c : Int32} {v : SY} (hc : c < 0 ∨ ¬ c ≤ 1) (h : post 1) : wpY_bad post v c := by
  unfold wpY_bad
  exact br_c (fun _ => h) (fun k => br_f (hc.resolve_left k) h)
theorem lc_yword {post : Int32 → Prop} {n x : Nat} {T : Nat → Prop} {ct : Int32} {M L S D : Nat → Int32} (hn : n ≤ 10) (hx : x < 2 ^ n) (h : post 0) : wpY_noWord post (lc_Y n T ct M L S D) (nI x) := by
  have hW := lc_W hn
  unfold wpY_noWord
  exact br_f (nI_pos (by omega)) (br_t (nI_lt hx (by omega)) h)
theorem lc_yword' {post : Int32 → Prop} {n : Nat} {x : Int32} {T : Nat → Prop} {ct : Int32} {M L S D : Nat → Int32} (hx : x < 0 ∨ nI (2 ^ n) ≤ x) (h : post 1) : wpY_noWord post (lc_Y n T ct M L S D) x := by
  unfold wpY_noWord
  exact br_c (fun _ => h) (fun k => br_f (Int32.not_lt.mpr (hx.resolve_left k)) h)
theorem lc_yplace {post : Int32 → Prop} {n x : Nat} {T : Nat → Prop} {ct : Int32} {M L S D : Nat → Int32} (hn : n ≤ 10) (hx : x < n) (h : post 0) : wpY_noPlace post (lc_Y n T ct M L S D) (nI x) := by
  unfold wpY_noPlace
  exact br_f (nI_pos (by omega)) (br_t (nI_lt hx (by omega)) h)
theorem lc_yplace' {post : Int32 → Prop} {n : Nat} {x : Int32} {T : Nat → Prop} {ct : Int32} {M L S D : Nat → Int32} (hx : x < 0 ∨ nI n ≤ x) (h : post 1) : wpY_noPlace post (lc_Y n T ct M L S D) x := by
  unfold wpY_noPlace
  exact br_c (fun _ => h) (fun k => br_f (Int32.not_lt.mpr (hx.resolve_left k)) h)
theorem lc_yw {post : Int32 → Prop} {n x : Nat} {T : Nat → Prop} {ct : Int32} {M L S D : Nat → Int32} (hn : n ≤ 10) (hx : x < 2 ^ n) (h : post (nI (lc_wt x))) : wpY_weight post (lc_Y n T ct M L S D) (nI x) := by
  have hW := lc_W hn
  unfold wpY_weight
  refine loop_0 (fun k i s => wY_weight_4 post (nI x) (nI n) (nI (2 ^ n)) ct (lc_em T) M L S D k s (nI i)) (fun i s => s = nI (lc_cnt (fun i => x.testBit i = true) i)) n 0 rfl ?_ ?_
  · intro k s e
    subst e
    rw [lc_wt_n hn hx]
    exact br_t (nI_le (Nat.le_refl n) (by omega)) h
  · intro k i s hi e ih
    subst e
    refine br_f (nI_ge hi (by omega)) ?_
    refine nm_r (e' := nI (lc_cnt (fun i => x.testBit i = true) (i + 1))) ?_ (nm_r (nI_1 i) (ih _ rfl))
    rw [lc_bit (by omega) (by omega), nI_add]
    rfl
