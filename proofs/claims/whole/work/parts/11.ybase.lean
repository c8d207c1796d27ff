/-! the reference's small walks -/
theorem bq_dgI : ∀ s, s < 4 → ∀ code, code < 256 → (nI code >>> ((6 - (2 * nI s)) &&& 31)) &&& 3 = nI (bq_dg code s) := by decide +kernel
def bq_gv (ow : Nat → Int32) (l code s : Nat) : Nat → (Nat → Int32)
  | 0 => ow
  | m + 1 => bq_gv (upd ow (4 * l + s) (nI (bq_dg code s))) l code (s + 1) m
theorem bq_gv_at (l code : Nat) : ∀ m s ow w i, s + m ≤ 4 → i < 4 → bq_gv ow l code s m (4 * w + i) = if w = l ∧ s ≤ i ∧ i < s + m then nI (bq_dg code i) else ow (4 * w + i) := by
  intro m
  induction m with
  | zero =>
    intro s ow w i _ hi
    rw [if_neg (by omega)]
    rfl
  | succ m ih =>
    intro s ow w i hs hi
    show bq_gv (upd ow (4 * l + s) (nI (bq_dg code s))) l code (s + 1) m (4 * w + i) = _
    rw [ih (s + 1) _ w i (by omega) hi]
    by_cases a : w = l ∧ s + 1 ≤ i ∧ i < s + 1 + m
    · rw [if_pos a, if_pos ⟨a.1, by omega, by omega⟩]
    · rw [if_neg a]
      by_cases b : w = l ∧ i = s
      · rw [b.1, b.2, pk_us, if_pos ⟨rfl, by omega, by omega⟩]
      · by_cases e : w = l
        · rw [pk_un (by omega), if_neg (by omega)]
        · rw [pk_un (by omega), if_neg (by omega)]
section
variable {c top : Nat} {par on tw d code : Nat → Nat} {ow ab o t co ra lo mn ot : Nat → Int32} {su : Nat → Int64}
theorem by_badStates {post : Int32 → Prop} {ct tp : Int32} (x : Int32) (h0 : ∀ k, k < 256 → x = nI k → post 0) (h1 : (∀ k, k < 256 → x ≠ nI k) → post 1) : wpY_badStates post (ct, tp, ow, ab, o, t, co, ra, lo, mn, su, ot) x := by
  refine br_c (fun h => h1 (fun k hk e => ?_)) (fun h => ?_)
  · rw [e] at h
    exact nI_pos (by omega) h
  · obtain ⟨j, hj, rfl⟩ := nI_of h
    refine pk_le j 255 (fun hle => h0 j (by omega) rfl) (fun hlt => h1 (fun z hz e => ?_))
    rw [nI_eq hj (by omega)] at e
    omega
theorem by_badState {post : Int32 → Prop} {ct tp : Int32} (x : Int32) (h0 : ∀ k, k < 4 → x = nI k → post 0) (h1 : (∀ k, k < 4 → x ≠ nI k) → post 1) : wpY_badState post (ct, tp, ow, ab, o, t, co, ra, lo, mn, su, ot) x := by
  refine br_c (fun h => h1 (fun k hk e => ?_)) (fun h => ?_)
  · rw [e] at h
    exact nI_pos (by omega) h
  · obtain ⟨j, hj, rfl⟩ := nI_of h
    refine pk_le j 3 (fun hle => h0 j (by omega) rfl) (fun hlt => h1 (fun z hz e => ?_))
    rw [nI_eq hj (by omega)] at e
    omega
theorem by_bad {post : Int32 → Prop} {tp : Int32} (hc : c ≤ 7) (x : Int32) (h0 : ∀ z, bq_V c z → x = nI z → post 0) (h1 : (∀ z, bq_V c z → x ≠ nI z) → post 1) : wpY_bad post (nI c, tp, ow, ab, o, t, co, ra, lo, mn, su, ot) x := by
  unfold wpY_bad
  dsimp only
  refine br_c (fun h => h1 (fun z hz e => ?_)) (fun h => ?_)
  · rw [e] at h
    have := bq_V14 hc hz
    exact nI_pos (by omega) h
  · obtain ⟨j, hj, rfl⟩ := nI_of h
    have no : ¬ bq_V c j → ∀ z, bq_V c z → nI j ≠ nI z := fun q z hz e => by
      have := bq_V14 hc hz
      rw [nI_eq hj (by omega)] at e
      rw [e] at q
      exact q hz
    refine pk_le j 13 (fun a => ?_) (fun a => h1 (no (fun q => by rcases q with r | r <;> omega)))
    refine pk_le 8 j (fun b => ?_) (fun b => ?_)
    · rw [show (7 : Int32) + nI c = nI (7 + c) from nI_add 7 c]
      exact pk_lt j (7 + c) (fun e => h0 j (Or.inr ⟨b, e⟩) rfl) (fun e => h1 (no (fun q => by rcases q with r | r <;> omega)))
    · refine pk_le c j (fun e => h1 (no (fun q => by rcases q with r | r <;> omega))) (fun e => ?_)
      exact pk_le j 6 (fun f => h0 j (Or.inl e) rfl) (fun f => by omega)
theorem by_bad_y {post : Int32 → Prop} {tp : Int32} (hc : c ≤ 7) {z : Nat} (hz : bq_V c z) (h : post 0) : wpY_bad post (nI c, tp, ow, ab, o, t, co, ra, lo, mn, su, ot) (nI z) :=
  by_bad hc (nI z) (fun _ _ _ => h) (fun hn => absurd rfl (hn z hz))
theorem by_bad_n {post : Int32 → Prop} {tp : Int32} (hc : c ≤ 7) {z : Nat} (hz : ¬ bq_V c z) (h14 : z < 2 ^ 31) (h : post 1) : wpY_bad post (nI c, tp, ow, ab, o, t, co, ra, lo, mn, su, ot) (nI z) := by
  refine by_bad hc (nI z) (fun w hw e => ?_) (fun _ => h)
  have := bq_V14 hc hw
  rw [nI_eq h14 (by omega)] at e
  rw [e] at hz
  exact absurd hw hz
theorem by_over5 (H : bq_T c top par on tw) (hP : bq_PA c top par ab) {post : Int32 → Prop} {ct tp : Int32} {x : Nat} (hx : x < 2 ^ 31) :
    ∀ m z k n, bq_V c z → k + m = 16 → m < n → post (if bq_an top par x m z = true then 1 else 0) → wY_over_5 post (nI x) ct tp ow ab o t co ra lo mn su ot n (nI z) (nI k) := by
  intro m
  induction m with
  | zero =>
    intro z k n hz hk hn h
    obtain ⟨n', rfl⟩ : ∃ n', n = n' + 1 := ⟨n - 1, by omega⟩
    exact pk_le 16 k (fun _ => h) (fun q => absurd q (by omega))
  | succ m ih =>
    intro z k n hz hk hn h
    obtain ⟨n', rfl⟩ : ∃ n', n = n' + 1 := ⟨n - 1, by omega⟩
    have z14 := bq_lt14 H hz
    refine pk_le 16 k (fun q => absurd q (by omega)) (fun _ => ?_)
    refine br_f (nI_pos (by omega)) ?_
    by_cases e : z = x
    · have e2 : bq_an top par x (m + 1) z = true := if_pos e
      rw [e2] at h
      exact br_t (by rw [e]) h
    · refine br_f (fun q => e ((nI_eq (by omega) hx).mp q)) ⟨pk_in z 16 (by omega), ?_⟩
      have ev : ab (nI z).toNatClampNeg = bq_en top par z := by
        rw [nI_clamp (by omega)]
        exact hP z hz
      refine nm_r ev (nm_r (nI_1 k) ?_)
      by_cases et : z = top
      · have e2 : bq_an top par x (m + 1) z = false := by
          show (if z = x then true else if z = top then false else _) = false
          rw [if_neg e, if_pos et]
        rw [e2] at h
        obtain ⟨n'', rfl⟩ : ∃ n'', n' = n'' + 1 := ⟨n' - 1, by omega⟩
        rw [et, bq_en_t]
        exact br_c (fun _ => h) (fun _ => br_t (by decide) h)
      · have e2 : bq_an top par x (m + 1) z = bq_an top par x m (par z) := by
          show (if z = x then true else if z = top then false else _) = _
          rw [if_neg e, if_neg et]
        rw [e2] at h
        rw [bq_en_n et]
        exact ih (par z) (k + 1) n' (bq_pv H hz et) (by omega) (by omega) h
theorem by_over (H : bq_T c top par on tw) (hP : bq_PA c top par ab) {post : Int32 → Prop} {ct tp : Int32} {x z : Nat} (hx : x < 2 ^ 31) (hz : bq_V c z)
    (h1 : bq_A top par x z → post 1) (h0 : ¬ bq_A top par x z → post 0) : wpY_over post (ct, tp, ow, ab, o, t, co, ra, lo, mn, su, ot) (nI x) (nI z) := by
  obtain ⟨d, hD⟩ := bq_ex H
  have d6 := hD.2.2 z hz
  refine ⟨17, by_over5 H hP hx 16 z 0 17 hz rfl (by omega) ?_⟩
  rw [bq_an_st H hD x 16 7 z hz (by omega) (by omega)]
  by_cases q : bq_A top par x z
  · rw [if_pos q]
    exact h1 q
  · rw [if_neg q]
    exact h0 q
theorem by_below4 (H : bq_T c top par on tw) (hP : bq_PA c top par ab) {post : Int32 → Prop} {tp : Int32} {x : Nat} (hx : x < 2 ^ 31) :
    ∀ m j n, j + m = c → m < n → post (nI (bq_mk (bq_lf c top par x) c)) → wY_below_4 post (nI x) (nI c) tp ow ab o t co ra lo mn su ot n (nI (bq_mk (bq_lf c top par x) j)) (nI j) := by
  have c7 := bq_c7 H
  intro m
  induction m with
  | zero =>
    intro j n hj hn h
    obtain ⟨n', rfl⟩ : ∃ n', n = n' + 1 := ⟨n - 1, by omega⟩
    rw [show j = c by omega]
    exact br_t (nI_le (Nat.le_refl _) (by omega)) h
  | succ m ih =>
    intro j n hj hn h
    obtain ⟨n', rfl⟩ : ∃ n', n = n' + 1 := ⟨n - 1, by omega⟩
    have e0 : ∀ b, bq_lf c top par x j = b → bq_mk (bq_lf c top par x) (j + 1) = bq_mk (bq_lf c top par x) j + (if b = true then 2 ^ j else 0) := fun b hb => by
      rw [← hb]
      rfl
    have hl : j < c := by omega
    refine pk_le c j (fun q => absurd q (by omega)) (fun _ => ?_)
    refine by_over H hP hx (Or.inl hl) (fun hA => br_f (by decide) ?_) (fun hA => br_t rfl ?_)
    · have e1 := e0 true ((bq_lf_t hl).mpr hA)
      refine nm_r (e' := nI (bq_mk (bq_lf c top par x) (j + 1))) ?_ (nm_r (nI_1 j) (ih (j + 1) n' (by omega) (by omega) h))
      rw [e1, if_pos rfl]
      exact (bq_or1 j (by omega) _ (bq_mk_lt _ j)).1
    · have e1 : bq_mk (bq_lf c top par x) (j + 1) = bq_mk (bq_lf c top par x) j := e0 false (by
        cases q : bq_lf c top par x j
        · rfl
        · exact absurd ((bq_lf_t hl).mp q) hA)
      rw [← e1]
      exact nm_r (nI_1 j) (ih (j + 1) n' (by omega) (by omega) h)
theorem by_below (H : bq_T c top par on tw) (hP : bq_PA c top par ab) {post : Int32 → Prop} {tp : Int32} {x : Nat} (hx : x < 2 ^ 31) (h : post (nI (bq_B c top par x))) : wpY_below post (nI c, tp, ow, ab, o, t, co, ra, lo, mn, su, ot) (nI x) := by
  have c7 := bq_c7 H
  refine ⟨c + 1, by_below4 H hP hx c 0 (c + 1) (by omega) (by omega) ?_⟩
  have e := bq_mk_c c top par x (7 - c)
  rw [show c + (7 - c) = 7 by omega] at e
  rw [← e]
  exact h
theorem by_give2 {post : SY → Prop} {ct tp : Int32} {l cde : Nat} (hl : l < 7) (hcd : cde < 256) :
    ∀ m s n ow, s + m = 4 → m < n → post (ct, tp, bq_gv ow l cde s m, ab, o, t, co, ra, lo, mn, su, ot) → wY_give_2 post (nI l) (nI cde) ct tp n (nI s) ow ab o t co ra lo mn su ot := by
  intro m
  induction m with
  | zero =>
    intro s n ow hs hn h
    obtain ⟨n', rfl⟩ : ∃ n', n = n' + 1 := ⟨n - 1, by omega⟩
    exact pk_le 4 s (fun _ => h) (fun q => absurd q (by omega))
  | succ m ih =>
    intro s n ow hs hn h
    obtain ⟨n', rfl⟩ : ∃ n', n = n' + 1 := ⟨n - 1, by omega⟩
    have ei : (4 * nI l) + nI s = nI (4 * l + s) := by
      rw [show (4 : Int32) = nI 4 from rfl, pk_mul, nI_add]
    refine pk_le 4 s (fun q => absurd q (by omega)) (fun _ => ?_)
    rw [ei]
    refine ⟨pk_in (4 * l + s) 28 (by omega), nm_r (e' := upd ow (4 * l + s) (nI (bq_dg cde s))) ?_ (nm_r (nI_1 s) (ih (s + 1) n' _ (by omega) (by omega) h))⟩
    rw [nI_clamp (by omega), bq_dgI s (by omega) cde hcd]
theorem by_give {post : SY → Prop} {ct tp : Int32} {l cde : Nat} (hl : l < 7) (hcd : cde < 256) (h : post (ct, tp, bq_gv ow l cde 0 4, ab, o, t, co, ra, lo, mn, su, ot)) : wpY_give post (ct, tp, ow, ab, o, t, co, ra, lo, mn, su, ot) (nI l) (nI cde) :=
  ⟨5, by_give2 hl hcd 4 0 5 ow rfl (by omega) h⟩
theorem by_held {post : Int32 → Prop} {ct tp : Int32} {l cde : Nat} (hl : l < 7) (hcd : cde < 256) (ho : ∀ s, s < 4 → ow (4 * l + s) = nI (bq_dg cde s)) (h : post (nI cde)) : wpY_held post (ct, tp, ow, ab, o, t, co, ra, lo, mn, su, ot) (nI l) := by
  have e0 : 4 * nI l = nI (4 * l) := by
    rw [show (4 : Int32) = nI 4 from rfl, pk_mul]
  have e1 : nI (4 * l) + 1 = nI (4 * l + 1) := nI_add (4 * l) 1
  have e2 : nI (4 * l) + 2 = nI (4 * l + 2) := nI_add (4 * l) 2
  have e3 : nI (4 * l) + 3 = nI (4 * l + 3) := nI_add (4 * l) 3
  unfold wpY_held
  dsimp only
  rw [e0, e1, e2, e3]
  refine ⟨pk_in (4 * l) 28 (by omega), pk_in (4 * l + 1) 28 (by omega), pk_in (4 * l + 2) 28 (by omega), pk_in (4 * l + 3) 28 (by omega), ?_⟩
  have o0 := ho 0 (by omega)
  rw [Nat.add_zero] at o0
  rw [nI_clamp (by omega), nI_clamp (by omega), nI_clamp (by omega), nI_clamp (by omega), o0, ho 1 (by omega), ho 2 (by omega), ho 3 (by omega)]
  have e : nI (bq_dg cde 0) * 64 + nI (bq_dg cde 1) * 16 + nI (bq_dg cde 2) * 4 + nI (bq_dg cde 3) = nI cde := by
    rw [show (64 : Int32) = nI 64 from rfl, show (16 : Int32) = nI 16 from rfl, show (4 : Int32) = nI 4 from rfl, pk_mul, pk_mul, pk_mul, nI_add, nI_add, nI_add, bq_dg_sum hcd]
  rw [e]
  exact h
/-- x's place is given to y -/
theorem by_repl {post : SY → Prop} {ct : Int32} {x y : Nat} (hx : x < 16) (hy : y < 16) (hab : ab x = bq_en top par x) (hc : c ≤ 7) (hPC : bq_PC c on tw o t)
    (hk : x ≠ top → 8 ≤ par x ∧ par x < 7 + c ∧ (on (par x) = x ∨ tw (par x) = x) ∧ on (par x) ≠ tw (par x) ∧ on (par x) < 16)
    (h : ∀ o' t', bq_PC c (if x = top then on else bq_ra (par x) x y on) (if x = top then tw else bq_ra (par x) x y tw) o' t' →
      post (ct, nI (if x = top then y else top), ow, upd ab y (bq_en top par x), o', t', co, ra, lo, mn, su, ot)) :
    wpY_replace post (ct, nI top, ow, ab, o, t, co, ra, lo, mn, su, ot) (nI x) (nI y) := by
  unfold wpY_replace
  dsimp only
  refine ⟨pk_in x 16 hx, nm_r (e' := bq_en top par x) (by rw [nI_clamp (by omega)]; exact hab) ⟨pk_in y 16 hy, nm_r (e' := upd ab y (bq_en top par x)) (by rw [nI_clamp (by omega)]) ?_⟩⟩
  by_cases e : x = top
  · have h' := h o t (by rw [if_pos e, if_pos e]; exact hPC)
    rw [if_pos e] at h'
    have eq : bq_en top par x = -1 := by rw [e, bq_en_t]
    rw [eq] at h' ⊢
    exact br_f (by decide) h'
  · obtain ⟨g8, g7, k, ne, g16⟩ := hk e
    rw [if_neg e, if_neg e, if_neg e] at h
    rw [bq_en_n e] at h ⊢
    refine br_t (nI_pos' (by omega)) ⟨pk_in (par x) 16 (by omega), ?_⟩
    rw [nI_clamp (by omega), (hPC _ g8 g7).1]
    by_cases q : on (par x) = x
    · exact br_t (by rw [q]) ⟨pk_in (par x) 16 (by omega), nm_e (h _ _ (bq_PC_1 hPC q (fun r => ne (q.trans r.symm))))⟩
    · have q2 : tw (par x) = x := by
        rcases k with r | r
        · exact absurd r q
        · exact r
      exact br_f (fun r => q ((nI_eq (by omega) (by omega)).mp r)) ⟨pk_in (par x) 16 (by omega), nm_e (h _ _ (bq_PC_2 hPC q2 q))⟩
theorem by_join {post : SY → Prop} {ct tp : Int32} {p x y : Nat} (hp : p < 16) (hx : x < 16) (hy : y < 16)
    (h : post (ct, tp, ow, upd (upd ab x (nI p)) y (nI p), upd o p (nI x), upd t p (nI y), co, ra, lo, mn, su, ot)) : wpY_join post (ct, tp, ow, ab, o, t, co, ra, lo, mn, su, ot) (nI p) (nI x) (nI y) := by
  unfold wpY_join
  dsimp only
  rw [nI_clamp (by omega), nI_clamp (by omega), nI_clamp (by omega)]
  exact ⟨pk_in p 16 hp, nm_e ⟨pk_in p 16 hp, nm_e ⟨pk_in x 16 hx, nm_e ⟨pk_in y 16 hy, nm_e h⟩⟩⟩⟩
theorem by_putIn (H : bq_T c top par on tw) (hP : bq_PA c top par ab) (hPC : bq_PC c on tw o t) (hc : c < 7) {z cde : Nat} (hz : bq_V c z) (hcd : cde < 256) {post : SY → Prop}
    (h : ∀ o' t', bq_PC (c + 1) (bq_aO c z top par on) (bq_aW c z top par tw) o' t' →
      post (nI (c + 1), nI (bq_aT c z top), bq_gv ow c cde 0 4, upd (upd (upd ab (7 + c) (ab z)) z (nI (7 + c))) c (nI (7 + c)), o', t', co, ra, lo, mn, su, ot)) :
    wpY_putIn post (nI c, nI top, ow, ab, o, t, co, ra, lo, mn, su, ot) (nI z) (nI cde) := by
  have z14 := bq_lt14 H hz
  unfold wpY_putIn
  dsimp only
  refine nm_r (nI_add 7 c) (nm_r (nI_1 c) ?_)
  refine by_give hc hcd ?_
  refine by_repl (c := c) (top := top) (par := par) (on := on) (tw := tw) (by omega) (by omega) (hP z hz) (by omega) hPC (fun e => ?_) (fun o' t' hPC' => ?_)
  · have g8 := bq_p8 H hz e
    have g7 := bq_p7 H hz e
    have := bq_lt14 H (bq_on H g8 g7).1
    exact ⟨g8, g7, bq_pk H hz e, bq_nt H g8 g7, by omega⟩
  · refine by_join (by omega) (by omega) (by omega) ?_
    rw [← hP z hz]
    refine h _ _ (bq_PC_j (fun q h8 h7 hq => hPC' q h8 (by omega)))
theorem by_exch (H : bq_T c top par on tw) (hP : bq_PA c top par ab) (hPC : bq_PC c on tw o t) {x y : Nat} (hx : bq_V c x) (hy : bq_V c y) (xt : x ≠ top) (yt : y ≠ top) {ct tp : Int32} {post : SY → Prop}
    (h : ∀ o' t', bq_PC c (bq_wO x y par on) (bq_wO x y par tw) o' t' → post (ct, tp, ow, upd (upd ab x (ab y)) y (ab x), o', t', co, ra, lo, mn, su, ot)) : wpY_exchange post (ct, tp, ow, ab, o, t, co, ra, lo, mn, su, ot) (nI x) (nI y) := by
  have c7 := bq_c7 H
  have x14 := bq_lt14 H hx
  have y14 := bq_lt14 H hy
  have g8 := bq_p8 H hx xt
  have g7 := bq_p7 H hx xt
  have k8 := bq_p8 H hy yt
  have k7 := bq_p7 H hy yt
  have ax : ab x = nI (par x) := by rw [hP x hx, bq_en_n xt]
  have ay : ab y = nI (par y) := by rw [hP y hy, bq_en_n yt]
  unfold wpY_exchange
  dsimp only
  refine ⟨pk_in x 16 (by omega), nm_r (e' := nI (par x)) (by rw [nI_clamp (by omega)]; exact ax) ⟨pk_in y 16 (by omega), nm_r (e' := nI (par y)) (by rw [nI_clamp (by omega)]; exact ay) ?_⟩⟩
  by_cases e : par x = par y
  · refine br_t (by rw [e]) ?_
    have h' := h o t (by rw [bq_wO, bq_wO, if_pos e, if_pos e]; exact hPC)
    have ea : upd (upd ab x (ab y)) y (ab x) = ab := by
      funext j
      by_cases q : j = y
      · rw [q, pk_us, ax, ay, e]
      · rw [pk_un q]
        by_cases r : j = x
        · rw [r, pk_us, ax, ay, e]
        · rw [pk_un r]
    rw [ea] at h'
    exact h'
  · rw [bq_wO, bq_wO, if_neg e, if_neg e] at h
    refine br_f (fun q => e ((nI_eq (by omega) (by omega)).mp q)) (br_f (nI_pos (by omega)) (br_f (nI_pos (by omega)) ⟨pk_in (par x) 16 (by omega), ?_⟩))
    have L : ∀ o1 t1, bq_PC c (bq_ra (par x) x y on) (bq_ra (par x) x y tw) o1 t1 → wY_exchange_57 post (nI x) (nI y) (nI (par x)) (nI (par y)) ct tp ow ab o1 t1 co ra lo mn su ot := by
      intro o1 t1 hPC1
      have e' : par y ≠ par x := fun q => e q.symm
      have f1 : bq_ra (par x) x y on (par y) = on (par y) := bq_ra_o e'
      have f2 : bq_ra (par x) x y tw (par y) = tw (par y) := bq_ra_o e'
      have b := bq_lt14 H (bq_on H k8 k7).1
      have ne := bq_nt H k8 k7
      unfold wY_exchange_57
      refine ⟨pk_in (par y) 16 (by omega), ?_⟩
      rw [nI_clamp (by omega), (hPC1 _ k8 k7).1, f1]
      have M : ∀ o2 t2, bq_PC c (bq_ra (par y) y x (bq_ra (par x) x y on)) (bq_ra (par y) y x (bq_ra (par x) x y tw)) o2 t2 → wY_exchange_87 post (nI x) (nI y) (nI (par x)) (nI (par y)) ct tp ow ab o2 t2 co ra lo mn su ot := by
        intro o2 t2 hPC2
        unfold wY_exchange_87
        rw [nI_clamp (by omega), nI_clamp (by omega), ← ax, ← ay]
        exact ⟨pk_in x 16 (by omega), nm_e ⟨pk_in y 16 (by omega), nm_e (h _ _ hPC2)⟩⟩
      by_cases q : on (par y) = y
      · exact br_t (by rw [q]) ⟨pk_in (par y) 16 (by omega), nm_e (M _ _ (bq_PC_1 hPC1 (f1.trans q) (fun r => ne (q.trans (f2.symm.trans r).symm))))⟩
      · have q2 : tw (par y) = y := by
          rcases bq_pk H hy yt with r | r
          · exact absurd r q
          · exact r
        exact br_f (fun r => q ((nI_eq (by omega) (by omega)).mp r)) ⟨pk_in (par y) 16 (by omega), nm_e (M _ _ (bq_PC_2 hPC1 (f2.trans q2) (fun r => q (f1.symm.trans r))))⟩
    have b := bq_lt14 H (bq_on H g8 g7).1
    have ne := bq_nt H g8 g7
    rw [nI_clamp (by omega), (hPC _ g8 g7).1]
    by_cases q : on (par x) = x
    · exact br_t (by rw [q]) ⟨pk_in (par x) 16 (by omega), nm_e (L _ _ (bq_PC_1 hPC q (fun r => ne (q.trans r.symm))))⟩
    · have q2 : tw (par x) = x := by
        rcases bq_pk H hx xt with r | r
        · exact absurd r q
        · exact r
      exact br_f (fun r => q ((nI_eq (by omega) (by omega)).mp r)) ⟨pk_in (par x) 16 (by omega), nm_e (L _ _ (bq_PC_2 hPC q2 q))⟩
end
