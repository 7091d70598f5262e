/-! X: the calls that only read -/
theorem lc_xhas {post : Int32 → Prop} {n c w : Nat} {T : Nat → Prop} {B : Nat → Int32} (hn : n ≤ 10) (hc : c ≤ 1) (hw : w < 2 ^ n) (h : post (nI (lc_b (lc_cd T c w)))) : wpX_has post (lc_X n T B) (nI c) (nI w) := by
  unfold wpX_has
  exact lc_xc hc (br_f lc_1n0 (lc_xword hn hw (br_f lc_1n0 (lc_xholds hn hc hw (lc_bb (fun p => lc_p1 h p) (fun p => lc_p0 h p))))))
theorem lc_xdimension {post : Int32 → Prop} {n c : Nat} {T : Nat → Prop} {B : Nat → Int32} (hn : n ≤ 10) (hc : c ≤ 1) (h : post (nI (lc_dm (lc_cnt (lc_cd T c) (2 ^ n))))) : wpX_dimension post (lc_X n T B) (nI c) := by
  unfold wpX_dimension
  exact lc_xc hc (br_f lc_1n0 (lc_xdim hn hc h))
/-- what wordAt answers -/
def lc_wa (n : Nat) (f : Nat → Prop) (i r : Int32) : Prop := (∃ x, x < 2 ^ n ∧ f x ∧ nI (lc_cnt f x) = i ∧ r = nI x) ∨ ((∀ x, x < 2 ^ n → f x → ¬ nI (lc_cnt f x) = i) ∧ r = -4)
theorem lc_wa_u {n : Nat} (hn : n ≤ 10) {f : Nat → Prop} {i r r' : Int32} (h : lc_wa n f i r) (h' : lc_wa n f i r') : r' = r := by
  have hW := lc_W hn
  rcases h with ⟨x, hx, fx, e, rfl⟩ | ⟨e, rfl⟩
  · rcases h' with ⟨x', hx', fx', e', rfl⟩ | ⟨e', rfl⟩
    · have a1 := lc_cnt_le f x
      have a2 := lc_cnt_le f x'
      have q := (nI_eq (by omega) (by omega)).mp (e.trans e'.symm)
      rcases Nat.lt_trichotomy x x' with z | z | z
      · have := lc_cnt_lt z fx
        omega
      · rw [z]
      · have := lc_cnt_lt z fx'
        omega
    · exact absurd e (e' x hx fx)
  · rcases h' with ⟨x', hx', fx', e', rfl⟩ | ⟨e', rfl⟩
    · exact absurd e' (e x' hx' fx')
    · rfl
theorem lc_xwordAt {post : Int32 → Prop} {n c : Nat} {i : Int32} {T : Nat → Prop} {B : Nat → Int32} (hn : n ≤ 10) (hc : c ≤ 1) (h : ∀ r, lc_wa n (lc_cd T c) i r → post r) : wpX_wordAt post (lc_X n T B) (nI c) i := by
  have hW := lc_W hn
  unfold wpX_wordAt
  refine lc_xc hc (br_f lc_1n0 ?_)
  refine loop_0 (fun k v s => wX_wordAt_14 post (nI c) i (nI n) (nI (2 ^ n)) (lc_em T) B k s (nI v)) (fun v s => s = nI (lc_cnt (lc_cd T c) v) ∧ ∀ x, x < v → lc_cd T c x → ¬ nI (lc_cnt (lc_cd T c) x) = i) (2 ^ n) 0 ⟨rfl, fun x hx => by omega⟩ ?_ ?_
  · intro k s e
    exact br_t (nI_le (Nat.le_refl _) (by omega)) (h _ (Or.inr ⟨e.2, rfl⟩))
  · intro k v s hv e ih
    obtain ⟨rfl, e⟩ := e
    refine br_f (nI_ge hv (by omega)) (lc_xholds hn hc hv (lc_bb (fun p => ?_) (fun p => ?_)))
    · by_cases q : nI (lc_cnt (lc_cd T c) v) = i
      · exact br_t q (h _ (Or.inl ⟨v, hv, p, q, rfl⟩))
      · refine br_f q (nm_r (nI_1 _) (nm_r (nI_1 v) (ih _ ⟨by rw [lc_cnt_t p], fun x hx fx => ?_⟩)))
        by_cases z : x = v
        · subst z; exact q
        · exact e x (by omega) fx
    · refine nm_r (nI_1 v) (ih _ ⟨by rw [lc_cnt_f p], fun x hx fx => ?_⟩)
      by_cases z : x = v
      · subst z; exact absurd fx p
      · exact e x (by omega) fx
theorem lc_xweights {post : Int32 → Prop} {n c : Nat} {w : Int32} {T : Nat → Prop} {B : Nat → Int32} (hn : n ≤ 10) (hc : c ≤ 1) (h : post (nI (lc_cnt (fun v => lc_cd T c v ∧ nI (lc_wt v) = w) (2 ^ n)))) : wpX_weights post (lc_X n T B) (nI c) w := by
  have hW := lc_W hn
  unfold wpX_weights
  refine lc_xc hc (br_f lc_1n0 ?_)
  refine loop_0 (fun k v s => wX_weights_14 post (nI c) w (nI n) (nI (2 ^ n)) (lc_em T) B k s (nI v)) (fun v s => s = nI (lc_cnt (fun v => lc_cd T c v ∧ nI (lc_wt v) = w) v)) (2 ^ n) 0 rfl ?_ ?_
  · intro k s e
    subst e
    exact br_t (nI_le (Nat.le_refl _) (by omega)) h
  · intro k v s hv e ih
    subst e
    refine br_f (nI_ge hv (by omega)) (lc_xholds hn hc hv (lc_bb (fun p => lc_xw (by omega) ?_) (fun p => ?_)))
    · by_cases q : nI (lc_wt v) = w
      · exact br_t q (nm_r (nI_1 _) (nm_r (nI_1 v) (ih _ (by rw [lc_cnt_t ⟨p, q⟩]))))
      · exact br_f q (nm_r (nI_1 v) (ih _ (by rw [lc_cnt_f (fun z => q z.2)])))
    · exact nm_r (nI_1 v) (ih _ (by rw [lc_cnt_f (fun z => p z.1)]))
theorem lc_xdualWeights {post : Int32 → Prop} {n c : Nat} {w : Int32} {T : Nat → Prop} {B : Nat → Int32} (hn : n ≤ 10) (hc : c ≤ 1) (h : post (nI (lc_cnt (fun v => nI (lc_wt v) = w ∧ lc_dual n (lc_cd T c) v) (2 ^ n)))) : wpX_dualWeights post (lc_X n T B) (nI c) w := by
  have hW := lc_W hn
  unfold wpX_dualWeights
  refine lc_xc hc (br_f lc_1n0 ?_)
  refine loop_0 (fun k v s => wX_dualWeights_14 post (nI c) w (nI n) (nI (2 ^ n)) (lc_em T) B k s (nI v)) (fun v s => s = nI (lc_cnt (fun v => nI (lc_wt v) = w ∧ lc_dual n (lc_cd T c) v) v)) (2 ^ n) 0 rfl ?_ ?_
  · intro k s e
    subst e
    exact br_t (nI_le (Nat.le_refl _) (by omega)) h
  · intro k v s hv e ih
    subst e
    refine br_f (nI_ge hv (by omega)) (lc_xw (by omega) ?_)
    by_cases q : nI (lc_wt v) = w
    · refine br_t q (lc_xdual hn hc hv (lc_bb (fun p => ?_) (fun p => ?_)))
      · exact nm_r (nI_1 _) (nm_r (nI_1 v) (ih _ (by rw [lc_cnt_t ⟨q, p⟩])))
      · exact nm_r (nI_1 v) (ih _ (by rw [lc_cnt_f (fun z => p z.2)]))
    · exact br_f q (nm_r (nI_1 v) (ih _ (by rw [lc_cnt_f (fun z => q z.1)])))
/-- the least weight of the words from 1 to m - 1, or -4 -/
def lc_lw (f : Nat → Prop) (m : Nat) (r : Int32) : Prop := (r = -4 ∧ ∀ v, 1 ≤ v → v < m → ¬ f v) ∨ (∃ k, k ≤ 10 ∧ r = nI k ∧ (∃ v, 1 ≤ v ∧ v < m ∧ f v ∧ lc_wt v = k) ∧ ∀ v, 1 ≤ v → v < m → f v → k ≤ lc_wt v)
theorem lc_lw_u {f : Nat → Prop} {m : Nat} {r r' : Int32} (h : lc_lw f m r) (h' : lc_lw f m r') : r' = r := by
  rcases h with ⟨rfl, e⟩ | ⟨k, _, rfl, ⟨v, v1, vm, fv, e⟩, l⟩
  · rcases h' with ⟨rfl, e'⟩ | ⟨k', _, rfl, ⟨v', v1', vm', fv', e'⟩, l'⟩
    · rfl
    · exact absurd fv' (e v' v1' vm')
  · rcases h' with ⟨rfl, e'⟩ | ⟨k', _, rfl, ⟨v', v1', vm', fv', e'⟩, l'⟩
    · exact absurd fv (e' v v1 vm)
    · have a := l v' v1' vm' fv'
      have b := l' v v1 vm fv
      have q : k' = k := by omega
      rw [q]
theorem lc_lw_skip {f : Nat → Prop} {m : Nat} {r : Int32} (h : lc_lw f m r) (p : ¬ f m) : lc_lw f (m + 1) r := by
  rcases h with ⟨rfl, e⟩ | ⟨k, hk, rfl, ⟨v, v1, vm, fv, e⟩, l⟩
  · refine Or.inl ⟨rfl, fun v hv hm fv => ?_⟩
    by_cases z : v = m
    · subst z; exact p fv
    · exact e v hv (by omega) fv
  · refine Or.inr ⟨k, hk, rfl, ⟨v, v1, by omega, fv, e⟩, fun v hv hm fv => ?_⟩
    by_cases z : v = m
    · subst z; exact absurd fv p
    · exact l v hv (by omega) fv
theorem lc_lw_first {f : Nat → Prop} {m : Nat} (hm : 1 ≤ m) (h : lc_lw f m (-4)) (p : f m) : lc_lw f (m + 1) (nI (lc_wt m)) := by
  have e : ∀ v, 1 ≤ v → v < m → ¬ f v := by
    rcases h with ⟨_, e⟩ | ⟨k, hk, q, _⟩
    · exact e
    · exfalso
      have a := congrArg Int32.toInt q
      rw [nI_toInt (by omega)] at a
      have b : (-4 : Int32).toInt = -4 := by decide
      omega
  refine Or.inr ⟨lc_wt m, lc_wt_le m, rfl, ⟨m, hm, by omega, p, rfl⟩, fun v hv hm fv => ?_⟩
  by_cases z : v = m
  · subst z; exact Nat.le_refl _
  · exact absurd fv (e v hv (by omega))
theorem lc_lw_keep {f : Nat → Prop} {m k : Nat} (hk : k ≤ 10) (h : lc_lw f m (nI k)) (q : k ≤ lc_wt m) : lc_lw f (m + 1) (nI k) := by
  rcases h with ⟨e, _⟩ | ⟨k', hk', e, ⟨v, v1, vm, fv, e'⟩, l⟩
  · exfalso
    have a := congrArg Int32.toInt e
    rw [nI_toInt (by omega)] at a
    have b : (-4 : Int32).toInt = -4 := by decide
    omega
  · have z := (nI_eq (by omega) (by omega)).mp e
    subst z
    refine Or.inr ⟨k, hk, rfl, ⟨v, v1, by omega, fv, e'⟩, fun v hv hm fv => ?_⟩
    by_cases z : v = m
    · subst z; exact q
    · exact l v hv (by omega) fv
theorem lc_lw_new {f : Nat → Prop} {m k : Nat} (hm : 1 ≤ m) (hk : k ≤ 10) (h : lc_lw f m (nI k)) (p : f m) (q : lc_wt m < k) : lc_lw f (m + 1) (nI (lc_wt m)) := by
  rcases h with ⟨e, _⟩ | ⟨k', hk', e, ⟨v, v1, vm, fv, e'⟩, l⟩
  · exfalso
    have a := congrArg Int32.toInt e
    rw [nI_toInt (by omega)] at a
    have b : (-4 : Int32).toInt = -4 := by decide
    omega
  · have z := (nI_eq (by omega) (by omega)).mp e
    subst z
    refine Or.inr ⟨lc_wt m, lc_wt_le m, rfl, ⟨m, hm, by omega, p, rfl⟩, fun v hv hm fv => ?_⟩
    by_cases z : v = m
    · subst z; exact Nat.le_refl _
    · have := l v hv (by omega) fv
      omega
theorem lc_lw_c {f : Nat → Prop} {m : Nat} {r : Int32} (h : lc_lw f m r) : r = -4 ∨ ∃ k, k ≤ 10 ∧ r = nI k := by
  rcases h with ⟨rfl, e⟩ | ⟨k, hk, rfl, _⟩
  · exact Or.inl rfl
  · exact Or.inr ⟨k, hk, rfl⟩
theorem lc_n4 {k : Nat} (hk : k ≤ 10) : ¬ nI k = -4 := by
  intro e
  have a := congrArg Int32.toInt e
  rw [nI_toInt (by omega)] at a
  have b : (-4 : Int32).toInt = -4 := by decide
  omega
theorem lc_xleast {post : Int32 → Prop} {n c : Nat} {T : Nat → Prop} {B : Nat → Int32} (hn : n ≤ 10) (hc : c ≤ 1) (h : ∀ r, lc_lw (lc_cd T c) (2 ^ n) r → post r) : wpX_leastWeight post (lc_X n T B) (nI c) := by
  have hW := lc_W hn
  unfold wpX_leastWeight
  refine lc_xc hc (br_f lc_1n0 ?_)
  refine pk_loop (fun k v s => wX_leastWeight_14 post (nI c) (nI n) (nI (2 ^ n)) (lc_em T) B k s (nI v)) (fun v s => 1 ≤ v ∧ lc_lw (lc_cd T c) v s) (2 ^ n) 1 (-4) (Nat.two_pow_pos n) ⟨Nat.le_refl 1, Or.inl ⟨rfl, fun v h1 h2 => by omega⟩⟩ ?_ ?_
  · intro k s e
    exact br_t (nI_le (Nat.le_refl _) (by omega)) (h s e.2)
  · intro k v s hv e ih
    obtain ⟨v1, e⟩ := e
    refine br_f (nI_ge hv (by omega)) (lc_xholds hn hc hv (lc_bb (fun p => lc_xw (by omega) ?_) (fun p => ?_)))
    · have hwt := lc_wt_le v
      rcases lc_lw_c e with rfl | ⟨q, hq, rfl⟩
      · exact br_t rfl (nm_r (nI_1 v) (ih _ ⟨by omega, lc_lw_first v1 e p⟩))
      · refine br_f (lc_n4 hq) (pk_le q (lc_wt v) (fun z => ?_) (fun z => ?_))
        · exact nm_r (nI_1 v) (ih _ ⟨by omega, lc_lw_keep hq e z⟩)
        · exact nm_r (nI_1 v) (ih _ ⟨by omega, lc_lw_new v1 hq e p z⟩)
    · exact nm_r (nI_1 v) (ih _ ⟨by omega, lc_lw_skip e p⟩)
theorem lc_xnearest {post : Int32 → Prop} {n c w : Nat} {T : Nat → Prop} {B : Nat → Int32} (hn : n ≤ 10) (hc : c ≤ 1) (hw : w < 2 ^ n) (h0 : lc_cd T c 0) (h : ∀ b, lc_nr (lc_cd T c) w (2 ^ n) b → post (nI b)) : wpX_nearest post (lc_X n T B) (nI c) (nI w) := by
  unfold wpX_nearest
  exact lc_xc hc (br_f lc_1n0 (lc_xword hn hw (br_f lc_1n0 (lc_xnear hn hc hw h0 h))))
theorem lc_xcosets {post : Int32 → Prop} {n c : Nat} {d : Int32} {T : Nat → Prop} {B : Nat → Int32} (hn : n ≤ 10) (hc : c ≤ 1) (h0 : lc_cd T c 0) (h : post (nI (lc_cnt (fun v => lc_ldr (lc_cd T c) v ∧ nI (lc_ds n (lc_cd T c) v) = d) (2 ^ n)))) : wpX_cosets post (lc_X n T B) (nI c) d := by
  have hW := lc_W hn
  unfold wpX_cosets
  refine lc_xc hc (br_f lc_1n0 ?_)
  refine loop_0 (fun k v s => wX_cosets_14 post (nI c) d (nI n) (nI (2 ^ n)) (lc_em T) B k s (nI v)) (fun v s => s = nI (lc_cnt (fun v => lc_ldr (lc_cd T c) v ∧ nI (lc_ds n (lc_cd T c) v) = d) v)) (2 ^ n) 0 rfl ?_ ?_
  · intro k s e
    subst e
    exact br_t (nI_le (Nat.le_refl _) (by omega)) h
  · intro k v s hv e ih
    subst e
    refine br_f (nI_ge hv (by omega)) (lc_xldr hn hc hv (lc_bb (fun p => lc_xdist hn hc hv h0 ?_) (fun p => ?_)))
    · by_cases q : nI (lc_ds n (lc_cd T c) v) = d
      · exact br_t q (nm_r (nI_1 _) (nm_r (nI_1 v) (ih _ (by rw [lc_cnt_t ⟨p, q⟩]))))
      · exact br_f q (nm_r (nI_1 v) (ih _ (by rw [lc_cnt_f (fun z => q z.2)])))
    · exact nm_r (nI_1 v) (ih _ (by rw [lc_cnt_f (fun z => p z.1)]))
/-- g is the greatest distance of the leaders below m -/
def lc_rd (n : Nat) (f : Nat → Prop) (m g : Nat) : Prop := (∀ v, v < m → lc_ldr f v → lc_ds n f v ≤ g) ∧ (g = 0 ∨ ∃ v, v < m ∧ lc_ldr f v ∧ lc_ds n f v = g)
theorem lc_rd_u {n : Nat} {f : Nat → Prop} {m g g' : Nat} (h : lc_rd n f m g) (h' : lc_rd n f m g') : g' = g := by
  obtain ⟨a, b⟩ := h
  obtain ⟨a', b'⟩ := h'
  rcases b with b | ⟨v, hv, lv, e⟩
  · rcases b' with b' | ⟨v', hv', lv', e'⟩
    · omega
    · have := a v' hv' lv'
      omega
  · have x := a' v hv lv
    rcases b' with b' | ⟨v', hv', lv', e'⟩
    · omega
    · have := a v' hv' lv'
      omega
theorem lc_xradius {post : Int32 → Prop} {n c : Nat} {T : Nat → Prop} {B : Nat → Int32} (hn : n ≤ 10) (hc : c ≤ 1) (h0 : lc_cd T c 0) (h : ∀ g, lc_rd n (lc_cd T c) (2 ^ n) g → post (nI g)) : wpX_radius post (lc_X n T B) (nI c) := by
  have hW := lc_W hn
  unfold wpX_radius
  refine lc_xc hc (br_f lc_1n0 ?_)
  refine loop_0 (σ := Nat) (fun k v s => wX_radius_13 post (nI c) (nI n) (nI (2 ^ n)) (lc_em T) B k (nI s) (nI v)) (fun v s => s ≤ 10 ∧ lc_rd n (lc_cd T c) v s) (2 ^ n) 0 ⟨by omega, fun v hv => by omega, Or.inl rfl⟩ ?_ ?_
  · intro k s e
    exact br_t (nI_le (Nat.le_refl _) (by omega)) (h s e.2)
  · intro k v s hv e ih
    obtain ⟨s10, e1, e2⟩ := e
    refine br_f (nI_ge hv (by omega)) (lc_xldr hn hc hv (lc_bb (fun p => lc_xdist hn hc hv h0 ?_) (fun p => ?_)))
    · have hd := lc_ds_le hn h0 hv
      refine pk_le (lc_ds n (lc_cd T c) v) s (fun q => ?_) (fun q => ?_)
      · refine nm_r (nI_1 v) (ih s ⟨s10, fun u hu lu => ?_, ?_⟩)
        · by_cases z : u = v
          · subst z; exact q
          · exact e1 u (by omega) lu
        · rcases e2 with e2 | ⟨u, hu, e2⟩
          · exact Or.inl e2
          · exact Or.inr ⟨u, by omega, e2⟩
      · refine nm_r (nI_1 v) (ih (lc_ds n (lc_cd T c) v) ⟨by omega, fun u hu lu => ?_, Or.inr ⟨v, by omega, p, rfl⟩⟩)
        by_cases z : u = v
        · subst z; exact Nat.le_refl _
        · have := e1 u (by omega) lu
          omega
    · refine nm_r (nI_1 v) (ih s ⟨s10, fun u hu lu => ?_, ?_⟩)
      · by_cases z : u = v
        · subst z; exact absurd lu p
        · exact e1 u (by omega) lu
      · rcases e2 with e2 | ⟨u, hu, e2⟩
        · exact Or.inl e2
        · exact Or.inr ⟨u, by omega, e2⟩
def lc_info (n : Nat) (f : Nat → Prop) (w : Nat) : Prop := lc_wt w = lc_dm (lc_cnt f (2 ^ n)) ∧ lc_apart n f w
theorem lc_dmb {n : Nat} (hn : n ≤ 10) (f : Nat → Prop) : lc_dm (lc_cnt f (2 ^ n)) ≤ 10 := Nat.le_trans (lc_dm_le (lc_cnt_le f (2 ^ n))) hn
theorem lc_xisInf {post : Int32 → Prop} {n c w : Nat} {T : Nat → Prop} {B : Nat → Int32} (hn : n ≤ 10) (hc : c ≤ 1) (hw : w < 2 ^ n) (h : post (nI (lc_b (lc_info n (lc_cd T c) w)))) : wpX_isInformation post (lc_X n T B) (nI c) (nI w) := by
  have hW := lc_W hn
  have hd := lc_dmb hn (lc_cd T c)
  have hwt := lc_wt_le w
  unfold wpX_isInformation
  refine lc_xc hc (br_f lc_1n0 (lc_xword hn hw (br_f lc_1n0 (lc_xdim hn hc (lc_xw (by omega) ?_)))))
  refine pk_eq (lc_wt w) (lc_dm (lc_cnt (lc_cd T c) (2 ^ n))) (fun q => ?_) (fun q => ?_)
  · exact lc_xapart hn hc hw (lc_bb (fun p => lc_p1 h ⟨q, p⟩) (fun p => lc_p0 h (fun z => p z.2)))
  · exact lc_p0 h (fun z => q z.1)
theorem lc_xinfSets {post : Int32 → Prop} {n c : Nat} {T : Nat → Prop} {B : Nat → Int32} (hn : n ≤ 10) (hc : c ≤ 1) (h : post (nI (lc_cnt (lc_info n (lc_cd T c)) (2 ^ n)))) : wpX_informationSets post (lc_X n T B) (nI c) := by
  have hW := lc_W hn
  have hd := lc_dmb hn (lc_cd T c)
  unfold wpX_informationSets
  refine lc_xc hc (br_f lc_1n0 (lc_xdim hn hc ?_))
  refine loop_0 (fun k v s => wX_informationSets_20 post (nI c) (nI (lc_dm (lc_cnt (lc_cd T c) (2 ^ n)))) (nI n) (nI (2 ^ n)) (lc_em T) B k s (nI v)) (fun v s => s = nI (lc_cnt (lc_info n (lc_cd T c)) v)) (2 ^ n) 0 rfl ?_ ?_
  · intro k s e
    subst e
    exact br_t (nI_le (Nat.le_refl _) (by omega)) h
  · intro k v s hv e ih
    subst e
    have hwt := lc_wt_le v
    refine br_f (nI_ge hv (by omega)) (lc_xw (by omega) ?_)
    refine pk_eq (lc_wt v) (lc_dm (lc_cnt (lc_cd T c) (2 ^ n))) (fun q => ?_) (fun q => ?_)
    · refine lc_xapart hn hc hv (lc_bb (fun p => ?_) (fun p => ?_))
      · exact nm_r (nI_1 _) (nm_r (nI_1 v) (ih _ (by rw [lc_cnt_t ⟨q, p⟩])))
      · exact nm_r (nI_1 v) (ih _ (by rw [lc_cnt_f (fun z => p z.2)]))
    · exact nm_r (nI_1 v) (ih _ (by rw [lc_cnt_f (fun z => q z.1)]))
def lc_orth (n : Nat) (f g : Nat → Prop) : Prop := ∀ v, v < 2 ^ n → f v → lc_dual n g v
theorem lc_xorth {post : Int32 → Prop} {n : Nat} {T : Nat → Prop} {B : Nat → Int32} (hn : n ≤ 10) (h : post (nI (lc_b (lc_orth n (lc_cd T 0) (lc_cd T 1))))) : wpX_orthogonal post (lc_X n T B) := by
  have hW := lc_W hn
  unfold wpX_orthogonal
  refine loop_0 (fun k v (_ : Unit) => wX_orthogonal_2 post (nI n) (nI (2 ^ n)) (lc_em T) B k (nI v)) (fun v _ => ∀ x, x < v → lc_cd T 0 x → lc_dual n (lc_cd T 1) x) (2 ^ n) () (fun x hx => by omega) ?_ ?_
  · intro k _ e
    exact br_t (nI_le (Nat.le_refl _) (by omega)) (lc_p1 h e)
  · intro k v _ hv e ih
    refine br_f (nI_ge hv (by omega)) (lc_xholds (c := 0) hn (by omega) hv (lc_bb (fun p => ?_) (fun p => ?_)))
    · refine lc_xdual (c := 1) hn (by omega) hv (lc_bb (fun q => ?_) (fun q => ?_))
      · refine nm_r (nI_1 v) (ih () (fun x hx fx => ?_))
        by_cases z : x = v
        · subst z; exact q
        · exact e x (by omega) fx
      · exact lc_p0 h (fun z => q (z v hv p))
    · refine nm_r (nI_1 v) (ih () (fun x hx fx => ?_))
      by_cases z : x = v
      · subst z; exact absurd fx p
      · exact e x (by omega) fx
