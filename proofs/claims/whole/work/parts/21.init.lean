/-! the constructors -/
def bq_ci (i : Nat) : Nat → Int32 := fun j => if j < i then (if j % 5 = 0 then 0 else 1) else 0
def bq_ri (i : Nat) : Nat → Int32 := fun j => if j < i then 1 else 0
theorem bq_ci_0 : (fun _ => 0 : Nat → Int32) = bq_ci 0 := funext fun j => (if_neg (show ¬ j < 0 by omega)).symm
theorem bq_ri_0 : (fun _ => 0 : Nat → Int32) = bq_ri 0 := funext fun j => (if_neg (show ¬ j < 0 by omega)).symm
theorem bq_ci_s {i : Nat} {v : Int32} (hv : v = if i % 5 = 0 then 0 else 1) : upd (bq_ci i) i v = bq_ci (i + 1) := by
  funext j
  by_cases e : j = i
  · rw [e, pk_us, hv]
    exact (if_pos (show i < i + 1 by omega)).symm
  · rw [pk_un e]
    show (if j < i then (if j % 5 = 0 then 0 else 1) else 0) = (if j < i + 1 then (if j % 5 = 0 then 0 else 1) else 0)
    by_cases q : j < i
    · rw [if_pos q, if_pos (show j < i + 1 by omega)]
    · rw [if_neg q, if_neg (show ¬ j < i + 1 by omega)]
theorem bq_ri_s {i : Nat} : upd (bq_ri i) i 1 = bq_ri (i + 1) := by
  funext j
  by_cases e : j = i
  · rw [e, pk_us]
    exact (if_pos (show i < i + 1 by omega)).symm
  · rw [pk_un e]
    show (if j < i then 1 else 0) = (if j < i + 1 then 1 else 0)
    by_cases q : j < i
    · rw [if_pos q, if_pos (by omega)]
    · rw [if_neg q, if_neg (by omega)]
theorem bq_r5 : ∀ i, i < 16 → ((nI i - nI i / 5 * 5 = 0) ↔ i % 5 = 0) := by decide +kernel
section
variable {pa cd up le wa : Nat → Int32} {we : Nat → Int64} {sb ow ab o t co ra lo mn : Nat → Int32} {su : Nat → Int64} {ot : Nat → Int32} {lc ct tp : Int32}
theorem bx_in116 {post : SX → Prop} {J109 : Int32 → (Nat → Int32) → (Nat → Int32) → (Nat → Int32) → (Nat → Int32) → (Nat → Int32) → (Nat → Int32) → (Nat → Int32) → (Nat → Int64) → (Nat → Int32) → Prop} {a : Nat} (ha : a < 4)
    (K : J109 (nI (a + 1)) pa cd (bq_ci (4 * (a + 1))) (bq_ri (4 * (a + 1))) up le wa we sb) :
    ∀ r b n, b + r = 4 → r < n → wX_init_116 post J109 (nI a) lc n (nI b) pa cd (bq_ci (4 * a + b)) (bq_ri (4 * a + b)) up le wa we sb := by
  intro r
  induction r with
  | zero =>
    intro b n hb hn
    obtain ⟨n', rfl⟩ : ∃ n', n = n' + 1 := ⟨n - 1, by omega⟩
    obtain rfl : b = 4 := by omega
    exact br_t (by decide) (nm_r (nI_1 a) K)
  | succ r ih =>
    intro b n hb hn
    obtain ⟨n', rfl⟩ : ∃ n', n = n' + 1 := ⟨n - 1, by omega⟩
    have key := ih (b + 1) n' (by omega) (by omega)
    refine pk_le 4 b (fun q => absurd q (by omega)) (fun _ => ?_)
    have hi : vp_in (nI (4 * a + b)) 16 := pk_in (4 * a + b) 16 (by omega)
    have G : ∀ v, v = (if (4 * a + b) % 5 = 0 then 0 else 1) → wX_init_140 post J109 (wX_init_116 post J109 (nI a) lc n') (nI a) (nI b) v ((nI a * 4) + nI b) lc pa cd (bq_ci (4 * a + b)) (bq_ri (4 * a + b)) up le wa we sb := by
      intro v hv
      unfold wX_init_140
      rw [bq_i4, nI_clamp (by omega), bq_ci_s hv, bq_ri_s]
      exact ⟨hi, nm_e ⟨hi, nm_e (nm_r (nI_1 b) key)⟩⟩
    refine pk_eq a b (fun e => G 0 ?_) (fun e => G 1 ?_)
    · rw [if_pos (by omega)]
    · rw [if_neg (by omega)]
theorem bx_in109 {post : SX → Prop} (K : post (lc, pa, cd, bq_ci 16, bq_ri 16, up, le, wa, we, sb)) :
    ∀ r a n, a + r = 4 → r < n → wX_init_109 post lc n (nI a) pa cd (bq_ci (4 * a)) (bq_ri (4 * a)) up le wa we sb := by
  intro r
  induction r with
  | zero =>
    intro a n ha hn
    obtain ⟨n', rfl⟩ : ∃ n', n = n' + 1 := ⟨n - 1, by omega⟩
    obtain rfl : a = 4 := by omega
    exact br_t (by decide) K
  | succ r ih =>
    intro a n ha hn
    obtain ⟨n', rfl⟩ : ∃ n', n = n' + 1 := ⟨n - 1, by omega⟩
    exact pk_le 4 a (fun q => absurd q (by omega)) (fun _ => ⟨5, bx_in116 (by omega) (ih (a + 1) n' (by omega) (by omega)) 4 0 5 rfl (by omega)⟩)
theorem by_in135 {post : SY → Prop} (K : post (ct, tp, ow, ab, o, t, bq_ci 16, bq_ri 16, lo, mn, su, ot)) :
    ∀ r i n, i + r = 16 → r < n → wY_init_135 post ct tp n (nI i) ow ab o t (bq_ci i) (bq_ri i) lo mn su ot := by
  intro r
  induction r with
  | zero =>
    intro i n hi hn
    obtain ⟨n', rfl⟩ : ∃ n', n = n' + 1 := ⟨n - 1, by omega⟩
    obtain rfl : i = 16 := by omega
    exact br_t (by decide) K
  | succ r ih =>
    intro i n hi hn
    obtain ⟨n', rfl⟩ : ∃ n', n = n' + 1 := ⟨n - 1, by omega⟩
    have key := ih (i + 1) n' (by omega) (by omega)
    have hv : vp_in (nI i) 16 := pk_in i 16 (by omega)
    refine pk_le 16 i (fun q => absurd q (by omega)) (fun _ => ⟨by decide, ?_⟩)
    have G : ∀ v, v = (if i % 5 = 0 then 0 else 1) → wY_init_157 post (wY_init_135 post ct tp n') (nI i) v (nI i) ct tp ow ab o t (bq_ci i) (bq_ri i) lo mn su ot := by
      intro v hv'
      unfold wY_init_157
      rw [nI_clamp (by omega), bq_ci_s hv', bq_ri_s]
      exact ⟨hv, nm_e ⟨hv, nm_e (nm_r (nI_1 i) key)⟩⟩
    refine br_c (fun e => G 0 ?_) (fun e => G 1 ?_)
    · rw [if_pos ((bq_r5 i (by omega)).mp e)]
    · rw [if_neg (fun q => e ((bq_r5 i (by omega)).mpr q))]
theorem by_in114 {post : SY → Prop} (K : ∀ ab', ab' 0 = -1 → post (ct, tp, ow, ab', o, t, bq_ci 16, bq_ri 16, lo, mn, su, ot)) :
    ∀ r i n ab, i + r = 16 → r < n → (1 ≤ i → ab 0 = -1) → wY_init_114 post ct tp n (nI i) ow ab o t (bq_ci 0) (bq_ri 0) lo mn su ot := by
  intro r
  induction r with
  | zero =>
    intro i n ab hi hn h
    obtain ⟨n', rfl⟩ : ∃ n', n = n' + 1 := ⟨n - 1, by omega⟩
    obtain rfl : i = 16 := by omega
    exact br_t (by decide) ⟨17, by_in135 (K ab (h (by omega))) 16 0 17 rfl (by omega)⟩
  | succ r ih =>
    intro i n ab hi hn h
    obtain ⟨n', rfl⟩ : ∃ n', n = n' + 1 := ⟨n - 1, by omega⟩
    refine pk_le 16 i (fun q => absurd q (by omega)) (fun _ => ⟨pk_in i 16 (by omega), ?_⟩)
    rw [nI_clamp (by omega)]
    refine nm_e (nm_r (nI_1 i) (ih (i + 1) n' _ (by omega) (by omega) (fun _ => ?_)))
    by_cases e : 0 = i
    · rw [← e, pk_us]
    · rw [pk_un e]
      exact h (by omega)
theorem by_in105 {post : SY → Prop} {cde : Nat} (h256 : cde < 256) (K : ∀ ab', ab' 0 = -1 → post (ct, tp, bq_gv ow 0 cde 0 4, ab', o, t, bq_ci 16, bq_ri 16, lo, mn, su, ot)) : wY_init_105 post (nI cde) ct tp ow ab o t (bq_ci 0) (bq_ri 0) lo mn su ot := by
  unfold wY_init_105
  refine by_give (l := 0) (by omega) h256 ⟨17, by_in114 K 16 0 17 ab rfl (by omega) (fun q => absurd q (by omega))⟩
theorem bq_R1 {cde : Nat} (h256 : cde < 256) (hp : pa 0 = -1) (hd : cd 0 = nI cde) (ha : ab 0 = -1) : i_Rel 1 (nI 1, pa, cd, bq_ci 16, bq_ri 16, up, le, wa, we, sb) (nI 1, nI 0, bq_gv ow 0 cde 0 4, ab, o, t, bq_ci 16, bq_ri 16, lo, mn, su, ot) := by
  have v0 : ∀ z, bq_V 1 z → z = 0 := fun z h => by
    rcases h with q | q <;> omega
  refine bq_mkR (par := fun _ => 0) (on := fun _ => 0) (tw := fun _ => 0) (code := fun _ => cde) ⟨⟨by omega, by omega, Or.inl (by omega)⟩, fun z hz n => absurd (v0 z hz) n, fun p h8 h7 => absurd h7 (by omega), ⟨fun _ => 0, fun z hz n => absurd (v0 z hz) n⟩⟩ (fun z hz => ?_) (fun l hl => ?_) (fun z hz => ?_) (fun p h8 h7 => absurd h7 (by omega)) (fun l hl s hs => ?_) (fun i hi => ?_)
  · rw [v0 z hz, bq_en_t]
    exact hp
  · rw [show l = 0 by omega]
    exact ⟨h256, hd⟩
  · rw [v0 z hz, bq_en_t]
    exact ha
  · rw [show l = 0 by omega, bq_gv_at 0 cde 4 0 ow 0 s (by omega) hs, if_pos ⟨rfl, by omega, by omega⟩]
  · show ∃ k, k ≤ 9 ∧ (if i < 16 then (if i % 5 = 0 then 0 else 1) else 0) = nI k
    rw [if_pos hi]
    by_cases q : i % 5 = 0
    · rw [if_pos q]
      exact ⟨0, by omega, rfl⟩
    · rw [if_neg q]
      exact ⟨1, by omega, rfl⟩
end
theorem i_vc0 (k0 : Int32) : wpX_init (fun u => wpY_init (fun v => i_Rel 1 u v) k0) k0 := by
  unfold wpX_init
  refine nm_e (bx_isLeafCode k0 (fun cde h256 e => br_f (by decide) (nm_e ⟨5, ?_⟩)) (fun hn => br_t rfl (nm_e ⟨5, ?_⟩)))
  · have L := bx_in109 (lc := nI 1) (pa := upd (fun _ => 0) 0 (-1)) (cd := upd (fun _ => 0) 0 k0) (up := fun _ => 0) (le := fun _ => 0) (wa := fun _ => 0) (we := fun _ => 0) (sb := fun _ => 0) (post := fun u => wpY_init (fun v => i_Rel 1 u v) k0) ?_ 4 0 5 rfl (by omega)
    · have e0 : bq_ci (4 * 0) = (fun _ => 0) := bq_ci_0.symm
      have e1 : bq_ri (4 * 0) = (fun _ => 0) := bq_ri_0.symm
      rw [e0, e1] at L
      exact L
    · rw [e]
      unfold wpY_init
      refine br_f (nI_pos (by omega)) (br_t (nI_le (b := 255) (by omega) (by omega)) ?_)
      have M := by_in105 (ct := nI 1) (tp := nI 0) (ow := fun _ => 0) (ab := fun _ => 0) (o := fun _ => 0) (t := fun _ => 0) (lo := fun _ => 0) (mn := fun _ => 0) (su := fun _ => 0) (ot := fun _ => 0) (post := fun v => i_Rel 1 (nI 1, upd (fun _ => 0) 0 (-1), upd (fun _ => 0) 0 (nI cde), bq_ci 16, bq_ri 16, fun _ => 0, fun _ => 0, fun _ => 0, fun _ => 0, fun _ => 0) v) h256 (fun ab' ha => bq_R1 h256 pk_us pk_us ha)
      rw [← bq_ci_0, ← bq_ri_0] at M
      exact M
  · have L := bx_in109 (lc := nI 1) (pa := upd (fun _ => 0) 0 (-1)) (cd := upd (fun _ => 0) 0 0) (up := fun _ => 0) (le := fun _ => 0) (wa := fun _ => 0) (we := fun _ => 0) (sb := fun _ => 0) (post := fun u => wpY_init (fun v => i_Rel 1 u v) k0) ?_ 4 0 5 rfl (by omega)
    · have e0 : bq_ci (4 * 0) = (fun _ => 0) := bq_ci_0.symm
      have e1 : bq_ri (4 * 0) = (fun _ => 0) := bq_ri_0.symm
      rw [e0, e1] at L
      exact L
    · have M := by_in105 (cde := 0) (ct := nI 1) (tp := nI 0) (ow := fun _ => 0) (ab := fun _ => 0) (o := fun _ => 0) (t := fun _ => 0) (lo := fun _ => 0) (mn := fun _ => 0) (su := fun _ => 0) (ot := fun _ => 0) (post := fun v => i_Rel 1 (nI 1, upd (fun _ => 0) 0 (-1), upd (fun _ => 0) 0 0, bq_ci 16, bq_ri 16, fun _ => 0, fun _ => 0, fun _ => 0, fun _ => 0, fun _ => 0) v) (by omega) (fun ab' ha => bq_R1 (cde := 0) (by omega) pk_us pk_us ha)
      rw [← bq_ci_0, ← bq_ri_0] at M
      unfold wpY_init
      refine br_c (fun h => ?_) (fun h => br_c (fun h2 => ?_) (fun h2 => ?_))
      · unfold wY_init_100
        exact M
      · obtain ⟨j, hj, rfl⟩ := nI_of h
        have := (nI_leI (b := 255) hj (by omega)).mp h2
        exact absurd rfl (hn j (by omega))
      · unfold wY_init_100
        exact M
