/-! least, total, ways, states, weight -/
section
variable {c top site : Nat} {par on tw code : Nat → Nat} {pa cd co ra up le wa : Nat → Int32} {we : Nat → Int64} {sb ow ab o t lo mn : Nat → Int32} {su : Nat → Int64} {ot : Nat → Int32} {pin ps : Int32}
theorem bx_lcE (H : bq_T c top par on tw) (hP : bq_PA c top par pa) (hC : bq_CX c code cd) (hi : site < 4) {post : Int32 → SX → Prop}
    (K : ∀ r up' le' wa', bq_Ev c top on tw code co site pin ps r → post r (nI c, pa, cd, co, ra, up', le', wa', we, sb)) : wpX_leastCost post (nI c, pa, cd, co, ra, up, le, wa, we, sb) (nI site) pin ps :=
  bx_leastCost H hP hC hi (fun up' le' wa' h => K _ up' le' wa' ⟨le', wa', h, rfl⟩)
theorem bx_total (H : bq_T c top par on tw) (hP : bq_PA c top par pa) (hC : bq_CX c code cd) {post : Int32 → SX → Prop}
    (K : ∀ r0 r1 r2 r3 up' le' wa', bq_Ev c top on tw code co 0 (-1) 0 r0 → bq_Ev c top on tw code co 1 (-1) 0 r1 → bq_Ev c top on tw code co 2 (-1) 0 r2 → bq_Ev c top on tw code co 3 (-1) 0 r3 →
      post (r0 + r1 + r2 + r3) (nI c, pa, cd, co, ra, up', le', wa', we, sb)) : wpX_total post (nI c, pa, cd, co, ra, up, le, wa, we, sb) := by
  refine ⟨5, ?_⟩
  refine br_f (by decide) (bx_lcE (site := 0) H hP hC (by omega) (fun r0 up0 le0 wa0 h0 => nm_r (Int32.zero_add r0) (nm_r (e' := nI 1) rfl ?_)))
  refine br_f (by decide) (bx_lcE (site := 1) H hP hC (by omega) (fun r1 up1 le1 wa1 h1 => nm_e (nm_r (e' := nI 2) rfl ?_)))
  refine br_f (by decide) (bx_lcE (site := 2) H hP hC (by omega) (fun r2 up2 le2 wa2 h2 => nm_e (nm_r (e' := nI 3) rfl ?_)))
  refine br_f (by decide) (bx_lcE (site := 3) H hP hC (by omega) (fun r3 up3 le3 wa3 h3 => nm_e (nm_r (e' := nI 4) rfl ?_)))
  exact br_t (by decide) (K r0 r1 r2 r3 up3 le3 wa3 h0 h1 h2 h3)
theorem bq_EvE {r r' : Int32} (H : bq_T c top par on tw) (hco : ∀ i, i < 16 → ∃ k, k ≤ 9 ∧ co i = nI k) (hE : bq_Ev c top on tw code co site (-1) 0 r)
    (hY : ∃ lo mn su, bq_YS c on tw (bq_ok c site code (-1) 0) co ra lo mn su ∧ r' = bq_m4 1000 lo (4 * top) 4) : ∃ q, q ≤ 108 ∧ r = nI q ∧ r' = nI q := by
  obtain ⟨lo, mn, su, h, e⟩ := hY
  obtain ⟨q, a, b, f⟩ := bq_EvF H hco hE h
  exact ⟨q, a, b, e.trans f⟩
theorem bx_ways31 {post : Int32 → SX → Prop} {tp : Nat} {best lc : Int32} (htp : tp < 14) (K : post (bq_cn best le wa (4 * tp) 4) (lc, pa, cd, co, ra, up, le, wa, we, sb)) :
    ∀ r j n, j + r = 4 → r < n → wX_ways_31 post best (nI (4 * tp)) lc pa cd co ra up le wa we sb n (bq_cn best le wa (4 * tp) j) (nI j) := by
  intro r
  induction r with
  | zero =>
    intro j n hj hn
    obtain ⟨n', rfl⟩ : ∃ n', n = n' + 1 := ⟨n - 1, by omega⟩
    obtain rfl : j = 4 := by omega
    exact br_t (by decide) K
  | succ r ih =>
    intro j n hj hn
    obtain ⟨n', rfl⟩ : ∃ n', n = n' + 1 := ⟨n - 1, by omega⟩
    have key := ih (j + 1) n' (by omega) (by omega)
    have hi : vp_in (nI (4 * tp + j)) 56 := pk_in (4 * tp + j) 56 (by omega)
    refine pk_le 4 j (fun q => absurd q (by omega)) (fun _ => ?_)
    rw [nI_add, nI_clamp (by omega)]
    refine ⟨hi, br_c (fun e => ⟨hi, nm_e (nm_r (nI_1 j) ?_)⟩) (fun e => nm_r (nI_1 j) ?_)⟩
    · rw [show bq_cn best le wa (4 * tp) (j + 1) = bq_cn best le wa (4 * tp) j + wa (4 * tp + j) from if_pos e] at key
      exact key
    · rw [show bq_cn best le wa (4 * tp) (j + 1) = bq_cn best le wa (4 * tp) j from if_neg e] at key
      exact key
theorem by_ways21 {post : Int32 → SY → Prop} {tpn : Nat} {best ct : Int32} (htp : tpn < 14) (K : post (bq_cn best lo mn (4 * tpn) 4) (ct, nI tpn, ow, ab, o, t, co, ra, lo, mn, su, ot)) :
    ∀ r j n, j + r = 4 → r < n → wY_ways_21 post best ct (nI tpn) ow ab o t co ra lo mn su ot n (bq_cn best lo mn (4 * tpn) j) (nI j) := by
  intro r
  induction r with
  | zero =>
    intro j n hj hn
    obtain ⟨n', rfl⟩ : ∃ n', n = n' + 1 := ⟨n - 1, by omega⟩
    obtain rfl : j = 4 := by omega
    exact br_t (by decide) K
  | succ r ih =>
    intro j n hj hn
    obtain ⟨n', rfl⟩ : ∃ n', n = n' + 1 := ⟨n - 1, by omega⟩
    have key := ih (j + 1) n' (by omega) (by omega)
    have hi : vp_in (nI (4 * tpn + j)) 64 := pk_in (4 * tpn + j) 64 (by omega)
    refine pk_le 4 j (fun q => absurd q (by omega)) (fun _ => ?_)
    rw [bq_j4, nI_clamp (by omega)]
    refine ⟨hi, br_c (fun e => ⟨hi, nm_e (nm_r (nI_1 j) ?_)⟩) (fun e => nm_r (nI_1 j) ?_)⟩
    · rw [show bq_cn best lo mn (4 * tpn) (j + 1) = bq_cn best lo mn (4 * tpn) j + mn (4 * tpn + j) from if_pos e] at key
      exact key
    · rw [show bq_cn best lo mn (4 * tpn) (j + 1) = bq_cn best lo mn (4 * tpn) j from if_neg e] at key
      exact key
/-- states: the least costs rs, one for each state of x -/
theorem bx_st35 (H : bq_T c top par on tw) (hP : bq_PA c top par pa) (hC : bq_CX c code cd) (hi : site < 4) {x : Nat} {best : Int32} {post : Int32 → SX → Prop}
    (K : ∀ rs : Nat → Int32, (∀ s, s < 4 → bq_Ev c top on tw code co site (nI x) (nI s) (rs s)) → ∀ up' le' wa', post (nI (bq_mk (fun s => decide (rs s = best)) 4)) (nI c, pa, cd, co, ra, up', le', wa', we, sb)) :
    ∀ r j n (rs : Nat → Int32) up le wa, j + r = 4 → r < n → (∀ s, s < j → bq_Ev c top on tw code co site (nI x) (nI s) (rs s)) → wX_states_35 post (nI x) (nI site) best n (nI (bq_mk (fun s => decide (rs s = best)) j)) (nI j) (nI c) pa cd co ra up le wa we sb := by
  intro r
  induction r with
  | zero =>
    intro j n rs up le wa hj hn h
    obtain ⟨n', rfl⟩ : ∃ n', n = n' + 1 := ⟨n - 1, by omega⟩
    obtain rfl : j = 4 := by omega
    exact br_t (by decide) (K rs h up le wa)
  | succ r ih =>
    intro j n rs up le wa hj hn h
    obtain ⟨n', rfl⟩ : ∃ n', n = n' + 1 := ⟨n - 1, by omega⟩
    refine pk_le 4 j (fun q => absurd q (by omega)) (fun _ => ?_)
    refine bx_lcE H hP hC hi (fun v up' le' wa' hE => ?_)
    have key := ih (j + 1) n' (fun i => if i = j then v else rs i) up' le' wa' (by omega) (by omega) (fun s hs => by
      show bq_Ev c top on tw code co site (nI x) (nI s) (if s = j then v else rs s)
      by_cases e : s = j
      · rw [if_pos e, e]
        exact hE
      · rw [if_neg e]
        exact h s (by omega))
    have e1 : bq_mk (fun s => decide ((if s = j then v else rs s) = best)) j = bq_mk (fun s => decide (rs s = best)) j := bq_mk_cg j (fun l hl => by
      show decide ((if l = j then v else rs l) = best) = decide (rs l = best)
      rw [if_neg (by omega)])
    have e2 : bq_mk (fun s => decide ((if s = j then v else rs s) = best)) (j + 1) = bq_mk (fun s => decide (rs s = best)) j + (if v = best then 2 ^ j else 0) := by
      show bq_mk (fun s => decide ((if s = j then v else rs s) = best)) j + (if decide ((if j = j then v else rs j) = best) = true then 2 ^ j else 0) = _
      rw [e1, if_pos rfl]
      by_cases q : v = best
      · rw [decide_eq_true q, if_pos rfl, if_pos q]
      · rw [decide_eq_false q, if_neg (by decide), if_neg q]
    have e3 : bq_mk (fun s => decide ((fun i => if i = j then v else rs i) s = best)) (j + 1) = bq_mk (fun s => decide (rs s = best)) j + (if v = best then 2 ^ j else 0) := e2
    rw [e3] at key
    refine br_c (fun e => ?_) (fun e => nm_r (nI_1 j) ?_)
    · rw [if_pos e] at key
      exact nm_r (bq_or1 j (by omega) _ (bq_mk_lt _ j)).2 (nm_r (nI_1 j) key)
    · rw [if_neg e] at key
      exact key
theorem by_st33 (H : bq_T c top par on tw) (hPC : bq_PC c on tw o t) (hY : bq_CY c code ow) (hco : ∀ i, i < 16 → ∃ k, k ≤ 9 ∧ co i = nI k) (hi : site < 4) {x q : Nat} (hq : q ≤ 108) {rs : Nat → Int32}
    (hE : ∀ s, s < 4 → bq_Ev c top on tw code co site (nI x) (nI s) (rs s)) {post : Int32 → SY → Prop}
    (K : ∀ lo' mn' su', post (nI (bq_mk (fun s => decide (rs s = nI q)) 4)) (nI c, nI top, ow, ab, o, t, co, ra, lo', mn', su', ot)) :
    ∀ r j n lo mn su, j + r = 4 → r < n → wY_states_33 post (nI x) (nI site) (nI q) n (nI (bq_mk (fun s => decide (rs s = nI q)) j)) (nI j) (nI c) (nI top) ow ab o t co ra lo mn su ot := by
  intro r
  induction r with
  | zero =>
    intro j n lo mn su hj hn
    obtain ⟨n', rfl⟩ : ∃ n', n = n' + 1 := ⟨n - 1, by omega⟩
    obtain rfl : j = 4 := by omega
    exact br_t (by decide) (K lo mn su)
  | succ r ih =>
    intro j n lo mn su hj hn
    obtain ⟨n', rfl⟩ : ∃ n', n = n' + 1 := ⟨n - 1, by omega⟩
    refine pk_le 4 j (fun q => absurd q (by omega)) (fun _ => ?_)
    refine by_work H hPC hY hi (fun lo' mn' su' hS => by_bottom (bq_lt14 H (bq_vt H)) ?_)
    have key := ih (j + 1) n' lo' mn' su' (by omega) (by omega)
    have iff := bq_RM_eq hq (bq_EvR H hco (hE j (by omega)) hS)
    have e2 : bq_mk (fun s => decide (rs s = nI q)) (j + 1) = bq_mk (fun s => decide (rs s = nI q)) j + (if rs j = nI q then 2 ^ j else 0) := by
      show bq_mk (fun s => decide (rs s = nI q)) j + (if decide (rs j = nI q) = true then 2 ^ j else 0) = _
      by_cases w : rs j = nI q
      · rw [decide_eq_true w, if_pos rfl, if_pos w]
      · rw [decide_eq_false w, if_neg (by decide), if_neg w]
    rw [e2] at key
    refine br_c (fun e => ?_) (fun e => nm_r (nI_1 j) ?_)
    · rw [if_pos (iff.mpr e)] at key
      exact nm_r (bq_or1 j (by omega) _ (bq_mk_lt _ j)).1 (nm_r (nI_1 j) key)
    · rw [if_neg (fun w => e (iff.mp w))] at key
      exact key
end
theorem i_vc_least {k : Nat} {u : SX} {v : SY} (I : i_Rel k u v) (hk : k + 4 ≤ 2049) (v1 : Int32) : wpX_least (fun r u' => wpY_least (fun r' v' => r' = r ∧ i_Rel (k + 4) u' v') v v1) u v1 := by
  have I' : i_Rel (k + 4) u v := I
  obtain ⟨c, top, par, on, tw, code, pa, cd, co, ra, up, le, wa, we, sb, ow, ab, o, t, lo, mn, su, ot, rfl, rfl, H, hP, hC, hQ, hPC, hY, hco⟩ := I
  unfold wpX_least wpY_least
  dsimp only
  refine bx_isSite v1 (fun s hs e => br_f (by decide) ?_) (fun hn => br_t rfl (by_badState v1 (fun z hz e => absurd e (hn z hz)) (fun _ => br_f (by decide) ⟨rfl, I'⟩)))
  rw [e]
  refine bx_lcE H hP hC hs (fun r up' le' wa' hE => ?_)
  refine by_badState (nI s) (fun _ _ _ => br_t rfl (by_cheap H hPC hY hs (fun lo' mn' su' hS => ⟨?_, bq_mkR H hP hC hQ hPC hY hco⟩))) (fun hn => absurd rfl (hn s hs))
  obtain ⟨q, _, a, b⟩ := bq_EvF H hco hE hS
  rw [a, b]
theorem i_vc_total {k : Nat} {u : SX} {v : SY} (I : i_Rel k u v) (hk : k + 4 ≤ 2049) : wpX_total (fun r u' => wpY_total (fun r' v' => r' = r ∧ i_Rel (k + 4) u' v') v) u := by
  obtain ⟨c, top, par, on, tw, code, pa, cd, co, ra, up, le, wa, we, sb, ow, ab, o, t, lo, mn, su, ot, rfl, rfl, H, hP, hC, hQ, hPC, hY, hco⟩ := I
  refine bx_total H hP hC (fun r0 r1 r2 r3 up' le' wa' h0 h1 h2 h3 => ?_)
  unfold wpY_total
  dsimp only
  refine by_sum H hPC hY (fun q0 q1 q2 q3 lo' mn' su' g0 g1 g2 g3 => ⟨?_, bq_mkR H hP hC hQ hPC hY hco⟩)
  obtain ⟨a0, _, b0, c0⟩ := bq_EvE H hco h0 g0
  obtain ⟨a1, _, b1, c1⟩ := bq_EvE H hco h1 g1
  obtain ⟨a2, _, b2, c2⟩ := bq_EvE H hco h2 g2
  obtain ⟨a3, _, b3, c3⟩ := bq_EvE H hco h3 g3
  rw [b0, b1, b2, b3, c0, c1, c2, c3]
theorem i_vc_ways {k : Nat} {u : SX} {v : SY} (I : i_Rel k u v) (hk : k + 4 ≤ 2049) (v1 : Int32) : wpX_ways (fun r u' => wpY_ways (fun r' v' => r' = r ∧ i_Rel (k + 4) u' v') v v1) u v1 := by
  have I' : i_Rel (k + 4) u v := I
  obtain ⟨c, top, par, on, tw, code, pa, cd, co, ra, up, le, wa, we, sb, ow, ab, o, t, lo, mn, su, ot, rfl, rfl, H, hP, hC, hQ, hPC, hY, hco⟩ := I
  have t14 := bq_lt14 H (bq_vt H)
  unfold wpX_ways wpY_ways
  dsimp only
  refine bx_isSite v1 (fun s hs e => br_f (by decide) ?_) (fun hn => br_t rfl (by_badState v1 (fun z hz e => absurd e (hn z hz)) (fun _ => br_f (by decide) ⟨rfl, I'⟩)))
  rw [e]
  refine bx_leastCost H hP hC hs (fun up' le' wa' hX => ?_)
  refine bx_root H hP (nm_r (bq_k4 top) ⟨5, bx_ways31 t14 ?_ 4 0 5 rfl (by omega)⟩)
  refine by_badState (nI s) (fun _ _ _ => br_t rfl (by_cheap H hPC hY hs (fun lo' mn' su' hS => ⟨5, by_ways21 t14 ⟨?_, bq_mkR H hP hC hQ hPC hY hco⟩ 4 0 5 rfl (by omega)⟩))) (fun hn => absurd rfl (hn s hs))
  obtain ⟨q, hq, a, b⟩ := bq_EvF H hco ⟨le', wa', hX, rfl⟩ hS
  rw [a, b]
  exact (bq_cn_eq (bq_n_le top) hq (bq_rel H hco hX hS top (bq_vt H)) 4 (Nat.le_refl _)).symm
theorem i_vc_states {k : Nat} {u : SX} {v : SY} (I : i_Rel k u v) (hk : k + 4 ≤ 2049) (v1 : Int32) (v2 : Int32) : wpX_states (fun r u' => wpY_states (fun r' v' => r' = r ∧ i_Rel (k + 4) u' v') v v1 v2) u v1 v2 := by
  have I' : i_Rel (k + 4) u v := I
  obtain ⟨c, top, par, on, tw, code, pa, cd, co, ra, up, le, wa, we, sb, ow, ab, o, t, lo, mn, su, ot, rfl, rfl, H, hP, hC, hQ, hPC, hY, hco⟩ := I
  have c7 := bq_c7 H
  unfold wpX_states wpY_states
  dsimp only
  refine bx_isNode c7 v1 (fun x hx e => br_f (by decide) ?_) (fun hn => br_t rfl (by_bad c7 v1 (fun z hz e => absurd e (hn z hz)) (fun _ => br_f (by decide) ⟨rfl, I'⟩)))
  rw [e]
  refine bx_isSite v2 (fun s hs e2 => br_f (by decide) ?_) (fun hn => br_t rfl (by_bad_y c7 hx (br_t rfl (by_badState v2 (fun z hz e => absurd e (hn z hz)) (fun _ => br_f (by decide) ⟨rfl, I'⟩)))))
  rw [e2]
  refine bx_lcE H hP hC hs (fun best up0 le0 wa0 hB => ?_)
  refine ⟨5, bx_st35 H hP hC hs (fun rs hE up' le' wa' => ?_) 4 0 5 (fun _ => 0) up0 le0 wa0 rfl (by omega) (fun s h => absurd h (by omega))⟩
  refine by_bad_y c7 hx (br_t rfl (by_badState (nI s) (fun _ _ _ => br_t rfl (by_cheap H hPC hY hs (fun lo1 mn1 su1 hS => ?_))) (fun hn => absurd rfl (hn s hs))))
  obtain ⟨q, hq, a, b⟩ := bq_EvF H hco hB hS
  rw [b]
  refine ⟨5, by_st33 H hPC hY hco hs hq hE (fun lo' mn' su' => ⟨?_, bq_mkR H hP hC hQ hPC hY hco⟩) 4 0 5 lo1 mn1 su1 rfl (by omega)⟩
  rw [a]
theorem i_vc_weight {k : Nat} {u : SX} {v : SY} (I : i_Rel k u v) (hk : k + 4 ≤ 2049) (v1 : Int32) : wpX_weight (fun r u' => wpY_weight (fun r' v' => r' = r ∧ i_Rel (k + 4) u' v') v v1) u v1 := by
  have I' : i_Rel (k + 4) u v := I
  obtain ⟨c, top, par, on, tw, code, pa, cd, co, ra, up, le, wa, we, sb, ow, ab, o, t, lo, mn, su, ot, rfl, rfl, H, hP, hC, hQ, hPC, hY, hco⟩ := I
  have t14 := bq_lt14 H (bq_vt H)
  unfold wpY_weight
  dsimp only
  refine bx_weight H hP hC (fun hn => by_badState v1 (fun z hz e => absurd e (hn z hz)) (fun _ => br_f (by decide) ⟨rfl, I'⟩)) (fun s hs e up' we' hX => ?_)
  rw [e]
  refine by_badState (nI s) (fun _ _ _ => br_t rfl (by_work H hPC hY hs (fun lo' mn' su' hS => ?_))) (fun hn => absurd rfl (hn s hs))
  have e0 : 4 * nI top = nI (4 * top) := by
    rw [show (4 : Int32) = nI 4 from rfl, pk_mul]
  have e1 : nI (4 * top) + 1 = nI (4 * top + 1) := nI_add (4 * top) 1
  have e2 : nI (4 * top) + 2 = nI (4 * top + 2) := nI_add (4 * top) 2
  have e3 : nI (4 * top) + 3 = nI (4 * top + 3) := nI_add (4 * top) 3
  dsimp only
  rw [e0, e1, e2, e3]
  refine ⟨pk_in (4 * top) 64 (by omega), pk_in (4 * top + 1) 64 (by omega), pk_in (4 * top + 2) 64 (by omega), pk_in (4 * top + 3) 64 (by omega), ?_, bq_mkR H hP hC hQ hPC hY hco⟩
  rw [nI_clamp (by omega), nI_clamp (by omega), nI_clamp (by omega), nI_clamp (by omega)]
  have w := bq_weq H hX hS top (bq_vt H)
  have w0 := w 0 (by omega)
  rw [← w 1 (by omega), ← w 2 (by omega), ← w 3 (by omega)]
  show _ = 0 + we' (4 * top + 0) + we' (4 * top + 1) + we' (4 * top + 2) + we' (4 * top + 3)
  rw [w0, Int64.zero_add]
  rfl
