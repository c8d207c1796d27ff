/-! the component's small walks -/
section
variable {c top : Nat} {par on tw d code : Nat → Nat} {pa cd co ra up le wa sb : Nat → Int32} {we : Nat → Int64}
theorem bx_isLeafCode {post : Int32 → Prop} {lc : Int32} (x : Int32) (h1 : ∀ k, k < 256 → x = nI k → post 1) (h0 : (∀ k, k < 256 → x ≠ nI k) → post 0) : wpX_isLeafCode post (lc, pa, cd, co, ra, up, le, wa, we, sb) x := by
  refine br_c (fun h => h0 (fun k hk e => ?_)) (fun h => ?_)
  · rw [e] at h
    exact nI_pos (by omega) h
  · obtain ⟨j, hj, rfl⟩ := nI_of h
    refine pk_le 256 j (fun hle => h0 (fun z hz e => ?_)) (fun hlt => h1 j hlt rfl)
    rw [nI_eq hj (by omega)] at e
    omega
theorem bx_isState {post : Int32 → Prop} {lc : Int32} (x : Int32) (h1 : ∀ k, k < 4 → x = nI k → post 1) (h0 : (∀ k, k < 4 → x ≠ nI k) → post 0) : wpX_isState post (lc, pa, cd, co, ra, up, le, wa, we, sb) x := by
  refine br_c (fun h => h0 (fun k hk e => ?_)) (fun h => ?_)
  · rw [e] at h
    exact nI_pos (by omega) h
  · obtain ⟨j, hj, rfl⟩ := nI_of h
    refine pk_le 4 j (fun hle => h0 (fun z hz e => ?_)) (fun hlt => h1 j hlt rfl)
    rw [nI_eq hj (by omega)] at e
    omega
theorem bx_isSite {post : Int32 → Prop} {lc : Int32} (x : Int32) (h1 : ∀ k, k < 4 → x = nI k → post 1) (h0 : (∀ k, k < 4 → x ≠ nI k) → post 0) : wpX_isSite post (lc, pa, cd, co, ra, up, le, wa, we, sb) x := by
  refine br_c (fun h => h0 (fun k hk e => ?_)) (fun h => ?_)
  · rw [e] at h
    exact nI_pos (by omega) h
  · obtain ⟨j, hj, rfl⟩ := nI_of h
    refine pk_le 4 j (fun hle => h0 (fun z hz e => ?_)) (fun hlt => h1 j hlt rfl)
    rw [nI_eq hj (by omega)] at e
    omega
theorem bx_isLeaf {post : Int32 → Prop} (hc : c ≤ 7) (x : Int32) (h1 : ∀ z, z < c → x = nI z → post 1) (h0 : (∀ z, z < c → x ≠ nI z) → post 0) : wpX_isLeaf post (nI c, pa, cd, co, ra, up, le, wa, we, sb) x := by
  refine br_c (fun h => h0 (fun k hk e => ?_)) (fun h => ?_)
  · rw [e] at h
    exact nI_pos (by omega) h
  · obtain ⟨j, hj, rfl⟩ := nI_of h
    refine pk_le c j (fun hle => h0 (fun z hz e => ?_)) (fun hlt => h1 j hlt rfl)
    rw [nI_eq hj (by omega)] at e
    omega
theorem bq_8c (c : Nat) : (8 + nI c) - 1 = nI (7 + c) := by
  rw [show (8 : Int32) = nI 8 from rfl, nI_add, show 8 + c = (7 + c) + 1 by omega, nI_pred]
theorem bx_isNode {post : Int32 → Prop} (hc : c ≤ 7) (x : Int32) (h1 : ∀ z, bq_V c z → x = nI z → post 1) (h0 : (∀ z, bq_V c z → x ≠ nI z) → post 0) : wpX_isNode post (nI c, pa, cd, co, ra, up, le, wa, we, sb) x := by
  unfold wpX_isNode
  dsimp only
  refine bx_isLeaf hc x (fun z hz e => br_f (by decide) (h1 z (Or.inl hz) e)) (fun hn => br_t rfl ?_)
  refine br_c (fun h8 => h0 (fun z hz e => ?_)) (fun h8 => ?_)
  · rcases hz with q | q
    · exact hn z q e
    · rw [e] at h8
      exact nI_nlt (a := z) (b := 8) q.1 (by omega) h8
  · have hx : ¬ x < 0 := fun q => h8 (Int32.lt_trans q (by decide))
    obtain ⟨j, hj, rfl⟩ := nI_of hx
    have j8 : 8 ≤ j := by
      by_cases q : 8 ≤ j
      · exact q
      · exact absurd (nI_lt (b := 8) (by omega) (by omega)) h8
    rw [bq_8c]
    refine pk_le (7 + c) j (fun hle => h0 (fun z hz e => ?_)) (fun hlt => h1 j (Or.inr ⟨j8, hlt⟩) rfl)
    rw [nI_eq hj (by rcases hz with q | q <;> omega)] at e
    rcases hz with q | q
    · exact hn z q (by rw [e])
    · omega
theorem bx_isNode_y {post : Int32 → Prop} (hc : c ≤ 7) {z : Nat} (hz : bq_V c z) (h : post 1) : wpX_isNode post (nI c, pa, cd, co, ra, up, le, wa, we, sb) (nI z) :=
  bx_isNode hc (nI z) (fun _ _ _ => h) (fun hn => absurd rfl (hn z hz))
theorem bq_V14 (hc : c ≤ 7) {z : Nat} (hz : bq_V c z) : z < 14 := by
  rcases hz with q | q <;> omega
theorem bx_isNode_n {post : Int32 → Prop} (hc : c ≤ 7) {z : Nat} (hz : ¬ bq_V c z) (h14 : z < 2 ^ 31) (h : post 0) : wpX_isNode post (nI c, pa, cd, co, ra, up, le, wa, we, sb) (nI z) := by
  refine bx_isNode hc (nI z) (fun w hw e => ?_) (fun _ => h)
  have := bq_V14 hc hw
  rw [nI_eq h14 (by omega)] at e
  rw [e] at hz
  exact absurd hw hz
theorem bx_isLeaf_y {post : Int32 → Prop} (hc : c ≤ 7) {z : Nat} (hz : z < c) (h : post 1) : wpX_isLeaf post (nI c, pa, cd, co, ra, up, le, wa, we, sb) (nI z) :=
  bx_isLeaf hc (nI z) (fun _ _ _ => h) (fun hn => absurd rfl (hn z hz))
theorem bx_isLeaf_n {post : Int32 → Prop} (hc : c ≤ 7) {z : Nat} (hz : ¬ z < c) (h14 : z < 2 ^ 31) (h : post 0) : wpX_isLeaf post (nI c, pa, cd, co, ra, up, le, wa, we, sb) (nI z) := by
  refine bx_isLeaf hc (nI z) (fun w hw e => ?_) (fun _ => h)
  rw [nI_eq h14 (by omega)] at e
  omega
theorem bx_above5 (H : bq_T c top par on tw) (hP : bq_PA c top par pa) {post : Int32 → Prop} {lc : Int32} {x : Nat} (hx : x < 2 ^ 31) :
    ∀ m z k n, bq_V c z → k + m = 7 → m < n → post (if bq_an top par x m z = true then 1 else 0) → wX_isAtOrAbove_5 post (nI x) lc pa cd co ra up le wa we sb n (nI z) (nI k) := by
  intro m
  induction m with
  | zero =>
    intro z k n hz hk hn h
    obtain ⟨n', rfl⟩ : ∃ n', n = n' + 1 := ⟨n - 1, by omega⟩
    exact pk_lt 6 k (fun _ => h) (fun q => absurd q (by omega))
  | succ m ih =>
    intro z k n hz hk hn h
    obtain ⟨n', rfl⟩ : ∃ n', n = n' + 1 := ⟨n - 1, by omega⟩
    have z14 := bq_lt14 H hz
    refine pk_lt 6 k (fun q => absurd q (by omega)) (fun _ => ?_)
    refine br_f (bq_nm1 (by omega)) ?_
    by_cases e : z = x
    · have e2 : bq_an top par x (m + 1) z = true := if_pos e
      rw [e2] at h
      exact br_t (by rw [e]) h
    · refine br_f (fun q => e ((nI_eq (by omega) hx).mp q)) ⟨pk_in z 14 z14, ?_⟩
      have ev : pa (nI z).toNatClampNeg = bq_en top par z := by
        rw [nI_clamp (by omega)]
        exact hP z hz
      refine nm_r ev (nm_r (nI_1 k) ?_)
      by_cases et : z = top
      · have e2 : bq_an top par x (m + 1) z = false := by
          show (if z = x then true else if z = top then false else _) = false
          rw [if_neg e, if_pos et]
        rw [e2] at h
        obtain ⟨n'', rfl⟩ : ∃ n'', n' = n'' + 1 := ⟨n' - 1, by omega⟩
        rw [et, bq_en_t]
        exact br_c (fun _ => h) (fun _ => br_t rfl h)
      · have e2 : bq_an top par x (m + 1) z = bq_an top par x m (par z) := by
          show (if z = x then true else if z = top then false else _) = _
          rw [if_neg e, if_neg et]
        rw [e2] at h
        rw [bq_en_n et]
        exact ih (par z) (k + 1) n' (bq_pv H hz et) (by omega) (by omega) h
theorem bx_above (H : bq_T c top par on tw) (hP : bq_PA c top par pa) {post : Int32 → Prop} {lc : Int32} {x z : Nat} (hx : x < 2 ^ 31) (hz : bq_V c z)
    (h1 : bq_A top par x z → post 1) (h0 : ¬ bq_A top par x z → post 0) : wpX_isAtOrAbove post (lc, pa, cd, co, ra, up, le, wa, we, sb) (nI x) (nI z) := by
  refine ⟨8, bx_above5 H hP hx 7 z 0 8 hz rfl (by omega) ?_⟩
  by_cases q : bq_A top par x z
  · rw [if_pos q]
    exact h1 q
  · rw [if_neg q]
    exact h0 q
theorem bx_root4 (H : bq_T c top par on tw) (hD : bq_D c top par d) (hP : bq_PA c top par pa) {post : Int32 → Prop} {lc : Int32} :
    ∀ m z k n, bq_V c z → d z ≤ m → k + m = 6 → m < n → post (nI top) → wX_root_4 post lc pa cd co ra up le wa we sb n (nI z) (nI k) := by
  intro m
  induction m with
  | zero =>
    intro z k n hz hd hk hn h
    obtain ⟨n', rfl⟩ : ∃ n', n = n' + 1 := ⟨n - 1, by omega⟩
    rw [bq_d0 hD hz (by omega)]
    exact pk_le 6 k (fun _ => h) (fun q => absurd q (by omega))
  | succ m ih =>
    intro z k n hz hd hk hn h
    obtain ⟨n', rfl⟩ : ∃ n', n = n' + 1 := ⟨n - 1, by omega⟩
    have z14 := bq_lt14 H hz
    have ev : pa (nI z).toNatClampNeg = bq_en top par z := by
      rw [nI_clamp (by omega)]
      exact hP z hz
    refine pk_le 6 k (fun q => absurd q (by omega)) (fun _ => ⟨pk_in z 14 z14, ?_⟩)
    by_cases et : z = top
    · refine br_t ?_ (by rw [et]; exact h)
      rw [ev, et, bq_en_t]
    · have hd2 := hD.2.1 z hz et
      have p14 := bq_lt14 H (bq_pv H hz et)
      refine br_f ?_ ⟨pk_in z 14 z14, nm_r (ev.trans (bq_en_n et)) (nm_r (nI_1 k) ?_)⟩
      · rw [ev, bq_en_n et]
        exact bq_nm1 (by omega)
      · exact ih (par z) (k + 1) n' (bq_pv H hz et) (by omega) (by omega) (by omega) h
theorem bx_root (H : bq_T c top par on tw) (hP : bq_PA c top par pa) {post : Int32 → Prop} {lc : Int32} (h : post (nI top)) : wpX_root post (lc, pa, cd, co, ra, up, le, wa, we, sb) := by
  obtain ⟨d, hD⟩ := bq_ex H
  exact ⟨7, bx_root4 H hD hP 6 0 0 7 (bq_v0 H) (hD.2.2 0 (bq_v0 H)) rfl (by omega) h⟩
theorem bx_depth12 (H : bq_T c top par on tw) (hD : bq_D c top par d) (hP : bq_PA c top par pa) {post : Int32 → Prop} {lc : Int32} :
    ∀ m z a k n, bq_V c z → d z ≤ m → k + m = 6 → m < n → post (nI (a + d z)) → wX_depthOf_12 post lc pa cd co ra up le wa we sb n (nI a) (bq_en top par z) (nI k) := by
  intro m
  induction m with
  | zero =>
    intro z a k n hz hd hk hn h
    obtain ⟨n', rfl⟩ : ∃ n', n = n' + 1 := ⟨n - 1, by omega⟩
    rw [show d z = 0 by omega] at h
    exact pk_le 6 k (fun _ => h) (fun q => absurd q (by omega))
  | succ m ih =>
    intro z a k n hz hd hk hn h
    obtain ⟨n', rfl⟩ : ∃ n', n = n' + 1 := ⟨n - 1, by omega⟩
    refine pk_le 6 k (fun q => absurd q (by omega)) (fun _ => ?_)
    by_cases et : z = top
    · rw [et, hD.1] at h
      rw [et, bq_en_t]
      exact br_t rfl h
    · have hd2 := hD.2.1 z hz et
      have vp := bq_pv H hz et
      have p14 := bq_lt14 H vp
      rw [bq_en_n et]
      refine br_f (bq_nm1 (by omega)) (nm_r (nI_1 a) ⟨pk_in (par z) 14 p14, nm_r (e' := bq_en top par (par z)) ?_ (nm_r (nI_1 k) ?_)⟩)
      · rw [nI_clamp (by omega)]
        exact hP _ vp
      · rw [hd2, show a + (d (par z) + 1) = a + 1 + d (par z) by omega] at h
        exact ih (par z) (a + 1) (k + 1) n' vp (by omega) (by omega) (by omega) h
theorem bx_depth (H : bq_T c top par on tw) (hD : bq_D c top par d) (hP : bq_PA c top par pa) {post : Int32 → Prop} {lc : Int32} {z : Nat} (hz : bq_V c z) (h : post (nI (d z))) : wpX_depthOf post (lc, pa, cd, co, ra, up, le, wa, we, sb) (nI z) := by
  have z14 := bq_lt14 H hz
  refine ⟨pk_in z 14 z14, nm_r (e' := bq_en top par z) ?_ ⟨7, bx_depth12 H hD hP 6 z 0 0 7 hz (hD.2.2 z hz) rfl (by omega) ?_⟩⟩
  · rw [nI_clamp (by omega)]
    exact hP z hz
  · rw [Nat.zero_add]
    exact h
theorem bx_set4 (H : bq_T c top par on tw) (hP : bq_PA c top par pa) {post : Int32 → Prop} {x : Nat} (hx : x < 2 ^ 31) :
    ∀ m j n, j + m = 7 → m < n → post (nI (bq_B c top par x)) → wX_leafSetOf_4 post (nI x) (nI c) pa cd co ra up le wa we sb n (nI (bq_mk (bq_lf c top par x) j)) (nI j) := by
  intro m
  induction m with
  | zero =>
    intro j n hj hn h
    obtain ⟨n', rfl⟩ : ∃ n', n = n' + 1 := ⟨n - 1, by omega⟩
    rw [show j = 7 by omega]
    exact br_t (by decide) h
  | succ m ih =>
    intro j n hj hn h
    obtain ⟨n', rfl⟩ : ∃ n', n = n' + 1 := ⟨n - 1, by omega⟩
    have c7 := bq_c7 H
    have e0 : ∀ b, bq_lf c top par x j = b → bq_mk (bq_lf c top par x) (j + 1) = bq_mk (bq_lf c top par x) j + (if b = true then 2 ^ j else 0) := fun b hb => by
      rw [← hb]
      rfl
    refine pk_le 7 j (fun q => absurd q (by omega)) (fun _ => ?_)
    by_cases hl : j < c
    · refine bx_isLeaf_y c7 hl (br_f (by decide) ?_)
      refine bx_above H hP hx (Or.inl hl) (fun hA => br_f (by decide) ?_) (fun hA => br_t rfl ?_)
      · have e1 := e0 true ((bq_lf_t hl).mpr hA)
        refine nm_r (e' := nI (bq_mk (bq_lf c top par x) (j + 1))) ?_ (nm_r (nI_1 j) (ih (j + 1) n' (by omega) (by omega) h))
        rw [e1, if_pos rfl]
        exact (bq_or1 j (by omega) _ (bq_mk_lt _ j)).2
      · have e1 : bq_mk (bq_lf c top par x) (j + 1) = bq_mk (bq_lf c top par x) j := e0 false (by
          cases q : bq_lf c top par x j
          · rfl
          · exact absurd ((bq_lf_t hl).mp q) hA)
        rw [← e1]
        exact nm_r (nI_1 j) (ih (j + 1) n' (by omega) (by omega) h)
    · have e1 : bq_mk (bq_lf c top par x) (j + 1) = bq_mk (bq_lf c top par x) j := e0 false (bq_lf_f hl)
      refine bx_isLeaf_n c7 hl (by omega) (br_t rfl ?_)
      rw [← e1]
      exact nm_r (nI_1 j) (ih (j + 1) n' (by omega) (by omega) h)
theorem bx_set (H : bq_T c top par on tw) (hP : bq_PA c top par pa) {post : Int32 → Prop} {x : Nat} (hx : x < 2 ^ 31) (h : post (nI (bq_B c top par x))) : wpX_leafSetOf post (nI c, pa, cd, co, ra, up, le, wa, we, sb) (nI x) :=
  ⟨8, bx_set4 H hP hx 7 0 8 rfl (by omega) h⟩
theorem bx_add (hc : c < 7) {z : Nat} (hz : bq_V c z) {p1 : Int32} {post : SX → Prop}
    (h : post (nI (c + 1), upd (upd (upd pa (7 + c) (pa z)) z (nI (7 + c))) c (nI (7 + c)), upd cd c p1, co, ra, up, le, wa, we, sb)) : wpX_addLeafBeside post (nI c, pa, cd, co, ra, up, le, wa, we, sb) (nI z) p1 := by
  have z14 := bq_V14 (show c ≤ 7 by omega) hz
  unfold wpX_addLeafBeside
  dsimp only
  refine nm_r (bq_8c c) ⟨pk_in c 7 hc, nm_r (e' := upd cd c p1) (by rw [nI_clamp (by omega)]) ⟨pk_in z 14 z14, pk_in (7 + c) 14 (by omega), nm_r (e' := upd pa (7 + c) (pa z)) (by rw [nI_clamp (by omega), nI_clamp (by omega)]) ⟨pk_in z 14 z14, nm_r (e' := upd (upd pa (7 + c) (pa z)) z (nI (7 + c))) (by rw [nI_clamp (by omega)]) ⟨pk_in c 14 (by omega), nm_r (e' := upd (upd (upd pa (7 + c) (pa z)) z (nI (7 + c))) c (nI (7 + c))) (by rw [nI_clamp (by omega)]) (nm_r (nI_1 c) h)⟩⟩⟩⟩
theorem bx_exch (hc : c ≤ 7) {x y : Nat} (hx : bq_V c x) (hy : bq_V c y) {lc : Int32} {post : SX → Prop}
    (h : post (lc, upd (upd pa x (pa y)) y (pa x), cd, co, ra, up, le, wa, we, sb)) : wpX_exchangePlaces post (lc, pa, cd, co, ra, up, le, wa, we, sb) (nI x) (nI y) := by
  have x14 := bq_V14 hc hx
  have y14 := bq_V14 hc hy
  unfold wpX_exchangePlaces
  dsimp only
  exact ⟨pk_in x 14 x14, nm_r (e' := pa x) (by rw [nI_clamp (by omega)]) ⟨pk_in y 14 y14, pk_in x 14 x14, nm_r (e' := upd pa x (pa y)) (by rw [nI_clamp (by omega), nI_clamp (by omega)]) ⟨pk_in y 14 y14, nm_r (e' := upd (upd pa x (pa y)) y (pa x)) (by rw [nI_clamp (by omega)]) h⟩⟩⟩
end
