/-! stores -/
theorem lc_st1 (s : Nat → Int32) {i : Nat} (h : i < 2 ^ 31) : upd s (nI i).toNatClampNeg (vp_nar .boolean 1) = upd s i (nI 1) := by rw [nI_clamp h, lc_nar1]
theorem lc_st0 (s : Nat → Int32) {i : Nat} (h : i < 2 ^ 31) : upd s (nI i).toNatClampNeg (vp_nar .boolean 0) = upd s i (nI 0) := by rw [nI_clamp h, lc_nar0]
theorem lc_stb (s : Nat → Int32) {i : Nat} (P : Prop) (h : i < 2 ^ 31) : upd s (nI i).toNatClampNeg (vp_nar .boolean (nI (lc_b P))) = upd s i (nI (lc_b P)) := by rw [nI_clamp h, lc_nar]
theorem lc_ext {s : Nat → Int32} {g : Nat → Prop} {i : Nat} {x : Int32} (h : ∀ v, v < i → s v = nI (lc_b (g v))) (e : x = nI (lc_b (g i))) : ∀ v, v < i + 1 → upd s i x v = nI (lc_b (g v)) := by
  intro v hv
  by_cases q : v = i
  · rw [q, pk_us, e]
  · rw [pk_un q]
    exact h v (by omega)
theorem lc_ext1 {s : Nat → Int32} {g : Nat → Prop} {i : Nat} (h : ∀ v, v < i → s v = nI (lc_b (g v))) (p : g i) : ∀ v, v < i + 1 → upd s i (nI 1) v = nI (lc_b (g v)) := lc_ext h (by rw [lc_b_t p])
theorem lc_ext0 {s : Nat → Int32} {g : Nat → Prop} {i : Nat} (h : ∀ v, v < i → s v = nI (lc_b (g v))) (p : ¬ g i) : ∀ v, v < i + 1 → upd s i (nI 0) v = nI (lc_b (g v)) := lc_ext h (by rw [lc_b_f p])
theorem lc_mk0 {m : Nat} {s : Nat → Int32} (Q : Nat → Nat → Prop) (h : ∀ y, y < m → s y = nI 0) : ∀ y, y < m → s y = nI (lc_b (∃ v, v < 0 ∧ Q v y)) := by
  intro y hy
  rw [h y hy, lc_b_f]
  rintro ⟨v, hv, _⟩
  omega
theorem lc_mks {m x : Nat} {s : Nat → Int32} {Q : Nat → Nat → Prop} (h : ∀ y, y < m → s y = nI (lc_b (∃ v, v < x ∧ Q v y))) (k : ∀ y, ¬ Q x y) : ∀ y, y < m → s y = nI (lc_b (∃ v, v < x + 1 ∧ Q v y)) := by
  intro y hy
  rw [h y hy]
  refine congrArg nI (lc_b_c ⟨?_, ?_⟩)
  · rintro ⟨v, hv, q⟩
    exact ⟨v, by omega, q⟩
  · rintro ⟨v, hv, q⟩
    refine ⟨v, ?_, q⟩
    by_cases z : v = x
    · subst z; exact absurd q (k y)
    · omega
theorem lc_mk2 {m x z z' : Nat} {s : Nat → Int32} {Q : Nat → Nat → Prop} (h : ∀ y, y < m → s y = nI (lc_b (∃ v, v < x ∧ Q v y))) (k : ∀ y, Q x y ↔ (y = z ∨ y = z')) : ∀ y, y < m → upd (upd s z (nI 1)) z' (nI 1) y = nI (lc_b (∃ v, v < x + 1 ∧ Q v y)) := by
  intro y hy
  by_cases e' : y = z'
  · rw [e', pk_us, lc_b_t ⟨x, by omega, (k z').mpr (Or.inr rfl)⟩]
  · rw [pk_un e']
    by_cases e : y = z
    · rw [e, pk_us, lc_b_t ⟨x, by omega, (k z).mpr (Or.inl rfl)⟩]
    · rw [pk_un e, h y hy]
      refine congrArg nI (lc_b_c ⟨?_, ?_⟩)
      · rintro ⟨v, hv, q⟩
        exact ⟨v, by omega, q⟩
      · rintro ⟨v, hv, q⟩
        refine ⟨v, ?_, q⟩
        by_cases zz : v = x
        · subst zz
          rcases (k y).mp q with a | a
          · exact absurd a e
          · exact absurd a e'
        · omega
theorem lc_mk1 {m x z : Nat} {s : Nat → Int32} {Q : Nat → Nat → Prop} (h : ∀ y, y < m → s y = nI (lc_b (∃ v, v < x ∧ Q v y))) (k : ∀ y, Q x y ↔ y = z) : ∀ y, y < m → upd s z (nI 1) y = nI (lc_b (∃ v, v < x + 1 ∧ Q v y)) := by
  intro y hy
  by_cases e : y = z
  · rw [e, pk_us, lc_b_t ⟨x, by omega, (k z).mpr rfl⟩]
  · rw [pk_un e, h y hy]
    refine congrArg nI (lc_b_c ⟨?_, ?_⟩)
    · rintro ⟨v, hv, q⟩
      exact ⟨v, by omega, q⟩
    · rintro ⟨v, hv, q⟩
      refine ⟨v, ?_, q⟩
      by_cases zz : v = x
      · subst zz
        exact absurd ((k y).mp q) e
      · omega
def lc_mkp (p : Nat) : Nat := 2 ^ p ^^^ 4294967295
theorem lc_mask {p : Nat} (hp : p < 32) : ((1 : Int32) <<< (nI p &&& 31)) ^^^ (-1) = nI (lc_mkp p) := by
  rw [lc_shl hp, show (-1 : Int32) = nI 4294967295 from by decide, nx_xor]
  rfl
/-! X: the calls that change a code -/
def lc_gadd (T : Nat → Prop) (c w v : Nat) : Prop := lc_cd T c v ∨ lc_cd T c (v ^^^ w)
def lc_gshort (T : Nat → Prop) (c p v : Nat) : Prop := lc_cd T c v ∧ ¬ v.testBit p = true
def lc_gpunc (n : Nat) (T : Nat → Prop) (c m y : Nat) : Prop := ∃ v, v < 2 ^ n ∧ lc_cd T c v ∧ y = v &&& m
def lc_gexch (T : Nat → Prop) (c i j v : Nat) : Prop := lc_cd T c (lc_sw i j v)
def lc_gmeet (T : Nat → Prop) (v : Nat) : Prop := lc_cd T 0 v ∧ lc_cd T 1 v
/-- what a changing call answers, and the state that it leaves -/
def lc_XP (post : Int32 → SX → Prop) (n : Nat) (T : Nat → Prop) (c : Nat) (g : Nat → Prop) : Prop := ∀ B', post (nI (lc_dm (lc_cnt (lc_cd (lc_put T c g (2 ^ n)) c) (2 ^ n)))) (lc_X n (lc_put T c g (2 ^ n)) B')
theorem lc_xadd {post : Int32 → SX → Prop} {n c w : Nat} {T : Nat → Prop} {B : Nat → Int32} (hn : n ≤ 10) (hc : c ≤ 1) (hw : w < 2 ^ n) (h : lc_XP post n T c (lc_gadd T c w)) : wpX_add post (lc_X n T B) (nI c) (nI w) := by
  have hW := lc_W hn
  unfold wpX_add
  refine lc_xc hc (br_f lc_1n0 (lc_xword hn hw (br_f lc_1n0 ?_)))
  refine loop_0 (fun k i s => wX_add_19 post (nI c) (nI w) (nI n) (nI (2 ^ n)) k (nI i) (lc_em T) s) (fun i s => ∀ v, v < i → s v = nI (lc_b (lc_gadd T c w v))) (2 ^ n) B (fun v hv => by omega) ?_ ?_
  · intro k s e
    exact br_t (nI_le (Nat.le_refl _) (by omega)) (lc_xtake (lc_gadd T c w) hn hc e (lc_xdim hn hc (h s)))
  · intro k i s hi e ih
    refine br_f (nI_ge hi (by omega)) (lc_xholds hn hc hi (lc_bb (fun p => ⟨vp_in_nI (by omega) (by omega), ?_⟩) (fun p => ?_)))
    · exact nm_r (lc_st1 s (by omega)) (nm_r (nI_1 i) (ih _ (lc_ext1 e (Or.inl p))))
    · rw [nx_xor]
      refine lc_xholds hn hc (lc_xl hi hw) (lc_bb (fun q => ⟨vp_in_nI (by omega) (by omega), ?_⟩) (fun q => ⟨vp_in_nI (by omega) (by omega), ?_⟩))
      · exact nm_r (lc_st1 s (by omega)) (nm_r (nI_1 i) (ih _ (lc_ext1 e (Or.inr q))))
      · exact nm_r (lc_st0 s (by omega)) (nm_r (nI_1 i) (ih _ (lc_ext0 e (fun z => z.elim p q))))
theorem lc_xclear {post : Int32 → SX → Prop} {n c : Nat} {T : Nat → Prop} {B : Nat → Int32} (hn : n ≤ 10) (hc : c ≤ 1)
    (h : ∀ B', post (nI (lc_dm (lc_cnt (lc_cd T c) (2 ^ n)))) (lc_X n (lc_put T c (fun v => v = 0) (2 ^ n)) B')) : wpX_clear post (lc_X n T B) (nI c) := by
  unfold wpX_clear
  refine lc_xc hc (br_f lc_1n0 (lc_xdim hn hc (lc_xempty hn (fun B' hB => ?_))))
  refine nm_r (e' := upd B' 0 (nI 1)) (by rw [lc_nar1]) (lc_xtake (fun v => v = 0) hn hc (fun v hv => ?_) (h _))
  by_cases q : v = 0
  · rw [lc_b_t q, q, pk_us]
  · rw [lc_b_f q, pk_un q, hB v hv]
theorem lc_xdualize {post : Int32 → SX → Prop} {n c : Nat} {T : Nat → Prop} {B : Nat → Int32} (hn : n ≤ 10) (hc : c ≤ 1) (h : lc_XP post n T c (lc_dual n (lc_cd T c))) : wpX_dualize post (lc_X n T B) (nI c) := by
  have hW := lc_W hn
  unfold wpX_dualize
  refine lc_xc hc (br_f lc_1n0 ?_)
  refine loop_0 (fun k i s => wX_dualize_11 post (nI c) (nI n) (nI (2 ^ n)) k (nI i) (lc_em T) s) (fun i s => ∀ v, v < i → s v = nI (lc_b (lc_dual n (lc_cd T c) v))) (2 ^ n) B (fun v hv => by omega) ?_ ?_
  · intro k s e
    exact br_t (nI_le (Nat.le_refl _) (by omega)) (lc_xtake (lc_dual n (lc_cd T c)) hn hc e (lc_xdim hn hc (h s)))
  · intro k i s hi e ih
    refine br_f (nI_ge hi (by omega)) (lc_xdual hn hc hi ⟨vp_in_nI (by omega) (by omega), ?_⟩)
    exact nm_r (lc_stb s _ (by omega)) (nm_r (nI_1 i) (ih _ (lc_ext e rfl)))
theorem lc_xshorten {post : Int32 → SX → Prop} {n c p : Nat} {T : Nat → Prop} {B : Nat → Int32} (hn : n ≤ 10) (hc : c ≤ 1) (hp : p < n) (h : lc_XP post n T c (lc_gshort T c p)) : wpX_shorten post (lc_X n T B) (nI c) (nI p) := by
  have hW := lc_W hn
  unfold wpX_shorten
  refine lc_xc hc (br_f lc_1n0 (lc_xplace hn hp (br_f lc_1n0 ?_)))
  refine loop_0 (fun k i s => wX_shorten_19 post (nI c) (nI p) (nI n) (nI (2 ^ n)) k (nI i) (lc_em T) s) (fun i s => ∀ v, v < i → s v = nI (lc_b (lc_gshort T c p v))) (2 ^ n) B (fun v hv => by omega) ?_ ?_
  · intro k s e
    exact br_t (nI_le (Nat.le_refl _) (by omega)) (lc_xtake (lc_gshort T c p) hn hc e (lc_xdim hn hc (h s)))
  · intro k i s hi e ih
    refine br_f (nI_ge hi (by omega)) (lc_xholds hn hc hi (lc_bb (fun q => ?_) (fun q => ⟨vp_in_nI (by omega) (by omega), ?_⟩)))
    · refine lc_bbv (P := i.testBit p = true) (lc_bit (by omega) (by omega)) (fun q2 => ⟨vp_in_nI (by omega) (by omega), ?_⟩) (fun q2 => ⟨vp_in_nI (by omega) (by omega), ?_⟩)
      · exact nm_r (lc_st0 s (by omega)) (nm_r (nI_1 i) (ih _ (lc_ext0 e (fun z => z.2 q2))))
      · exact nm_r (lc_st1 s (by omega)) (nm_r (nI_1 i) (ih _ (lc_ext1 e ⟨q, q2⟩)))
    · exact nm_r (lc_st0 s (by omega)) (nm_r (nI_1 i) (ih _ (lc_ext0 e (fun z => q z.1))))
theorem lc_xpuncture {post : Int32 → SX → Prop} {n c p : Nat} {T : Nat → Prop} {B : Nat → Int32} (hn : n ≤ 10) (hc : c ≤ 1) (hp : p < n) (h : lc_XP post n T c (lc_gpunc n T c (lc_mkp p))) : wpX_puncture post (lc_X n T B) (nI c) (nI p) := by
  have hW := lc_W hn
  unfold wpX_puncture
  refine lc_xc hc (br_f lc_1n0 (lc_xplace hn hp (br_f lc_1n0 (nm_r (lc_mask (by omega)) (lc_xempty hn (fun B' hB => ?_))))))
  refine loop_0 (fun k i s => wX_puncture_30 post (nI c) (nI (lc_mkp p)) (nI n) (nI (2 ^ n)) k (nI i) (lc_em T) s) (fun i s => ∀ y, y < 2 ^ n → s y = nI (lc_b (∃ v, v < i ∧ lc_cd T c v ∧ y = v &&& lc_mkp p))) (2 ^ n) B' (lc_mk0 (fun v y => lc_cd T c v ∧ y = v &&& lc_mkp p) hB) ?_ ?_
  · intro k s e
    exact br_t (nI_le (Nat.le_refl _) (by omega)) (lc_xtake (lc_gpunc n T c (lc_mkp p)) hn hc e (lc_xdim hn hc (h s)))
  · intro k i s hi e ih
    refine br_f (nI_ge hi (by omega)) (lc_xholds hn hc hi (lc_bb (fun q => ?_) (fun q => ?_)))
    · have hl := lc_al (y := lc_mkp p) hi
      rw [nx_and]
      exact ⟨vp_in_nI (by omega) (by omega), nm_r (lc_st1 s (by omega)) (nm_r (nI_1 i) (ih _ (lc_mk1 (Q := fun v y => lc_cd T c v ∧ y = v &&& lc_mkp p) e (fun y => ⟨fun z => z.2, fun z => ⟨q, z⟩⟩))))⟩
    · exact nm_r (nI_1 i) (ih _ (lc_mks (Q := fun v y => lc_cd T c v ∧ y = v &&& lc_mkp p) e (fun y z => q z.1)))
theorem lc_xexchange {post : Int32 → SX → Prop} {n c a b : Nat} {T : Nat → Prop} {B : Nat → Int32} (hn : n ≤ 10) (hc : c ≤ 1) (ha : a < n) (hb : b < n) (h : lc_XP post n T c (lc_gexch T c a b)) : wpX_exchange post (lc_X n T B) (nI c) (nI a) (nI b) := by
  have hW := lc_W hn
  unfold wpX_exchange
  refine lc_xc hc (br_f lc_1n0 (lc_xplace hn ha (br_f lc_1n0 (lc_xplace hn hb (br_f lc_1n0 ?_)))))
  refine loop_0 (fun k i s => wX_exchange_28 post (nI c) (nI a) (nI b) (nI n) (nI (2 ^ n)) k (nI i) (lc_em T) s) (fun i s => ∀ v, v < i → s v = nI (lc_b (lc_gexch T c a b v))) (2 ^ n) B (fun v hv => by omega) ?_ ?_
  · intro k s e
    exact br_t (nI_le (Nat.le_refl _) (by omega)) (lc_xtake (lc_gexch T c a b) hn hc e (lc_xdim hn hc (h s)))
  · intro k i s hi e ih
    refine br_f (nI_ge hi (by omega)) (lc_xexch hn hi ha hb (lc_xholds hn hc (lc_sw_lt ha hb hi) ⟨vp_in_nI (by omega) (by omega), ?_⟩))
    exact nm_r (lc_stb s _ (by omega)) (nm_r (nI_1 i) (ih _ (lc_ext e rfl)))
theorem lc_xmeet {post : Int32 → SX → Prop} {n : Nat} {T : Nat → Prop} {B : Nat → Int32} (hn : n ≤ 10) (h : lc_XP post n T 0 (lc_gmeet T)) : wpX_meet post (lc_X n T B) := by
  have hW := lc_W hn
  unfold wpX_meet
  refine loop_0 (fun k i s => wX_meet_2 post (nI n) (nI (2 ^ n)) k (nI i) (lc_em T) s) (fun i s => ∀ v, v < i → s v = nI (lc_b (lc_gmeet T v))) (2 ^ n) B (fun v hv => by omega) ?_ ?_
  · intro k s e
    exact br_t (nI_le (Nat.le_refl _) (by omega)) (lc_xtake (c := 0) (lc_gmeet T) hn (by omega) e (lc_xdim (c := 0) hn (by omega) (h s)))
  · intro k i s hi e ih
    refine br_f (nI_ge hi (by omega)) (lc_xholds (c := 0) hn (by omega) hi (lc_bb (fun p => ?_) (fun p => ⟨vp_in_nI (by omega) (by omega), ?_⟩)))
    · refine lc_xholds (c := 1) hn (by omega) hi (lc_bb (fun q => ⟨vp_in_nI (by omega) (by omega), ?_⟩) (fun q => ⟨vp_in_nI (by omega) (by omega), ?_⟩))
      · exact nm_r (lc_st1 s (by omega)) (nm_r (nI_1 i) (ih _ (lc_ext1 e ⟨p, q⟩)))
      · exact nm_r (lc_st0 s (by omega)) (nm_r (nI_1 i) (ih _ (lc_ext0 e (fun z => q z.2))))
    · exact nm_r (lc_st0 s (by omega)) (nm_r (nI_1 i) (ih _ (lc_ext0 e (fun z => p z.1))))
