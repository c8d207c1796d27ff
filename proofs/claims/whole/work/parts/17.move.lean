/-! move -/
section
variable {c top : Nat} {par on tw code : Nat → Nat} {pa cd co ra up le wa : Nat → Int32} {we : Nat → Int64} {sb ow ab o t lo mn : Nat → Int32} {su : Nat → Int64} {ot : Nat → Int32}
theorem bx_sib4 (H : bq_T c top par on tw) (hP : bq_PA c top par pa) {x s p : Nat} (hx : bq_V c x) (xt : x ≠ top) (ep : par x = p) (hs : bq_V c s) (st : s ≠ top) (es : par s = p) (sx : s ≠ x)
    (hk : ∀ k, bq_V c k → k ≠ top → par k = p → k = x ∨ k = s) {post : Int32 → Prop} (K : post (nI s)) :
    ∀ r j n, j + r = 14 → r < n → wX_siblingOf_4 post (nI x) (nI c) pa cd co ra up le wa we sb n (if s < j then nI s else nI x) (nI j) := by
  have x14 := bq_lt14 H hx
  have s14 := bq_lt14 H hs
  have c7 := bq_c7 H
  intro r
  induction r with
  | zero =>
    intro j n hj hn
    obtain ⟨n', rfl⟩ : ∃ n', n = n' + 1 := ⟨n - 1, by omega⟩
    obtain rfl : j = 14 := by omega
    rw [if_pos s14]
    exact br_t (by decide) K
  | succ r ih =>
    intro j n hj hn
    obtain ⟨n', rfl⟩ : ∃ n', n = n' + 1 := ⟨n - 1, by omega⟩
    have key := ih (j + 1) n' (by omega) (by omega)
    have same : j ≠ s → (if s < j + 1 then nI s else nI x) = (if s < j then nI s else nI x) := fun q => by
      by_cases e : s < j
      · rw [if_pos e, if_pos (by omega)]
      · rw [if_neg e, if_neg (by omega)]
    refine pk_le 14 j (fun q => absurd q (by omega)) (fun _ => ?_)
    by_cases hv : bq_V c j
    · refine bx_isNode_y c7 hv (br_f (by decide) ?_)
      rw [nI_clamp (by omega), nI_clamp (by omega), hP j hv, hP x hx, bq_en_n xt, ep]
      refine pk_eq j x (fun e => ?_) (fun e => ⟨pk_in j 14 (by omega), pk_in x 14 (by omega), ?_⟩)
      · rw [same (fun q => sx (q.symm.trans e))] at key
        exact nm_r (nI_1 j) key
      · by_cases es2 : j = s
        · rw [if_pos (by omega)] at key
          refine br_t (by rw [es2, bq_en_n st, es]) (nm_r (nI_1 j) ?_)
          rw [es2] at key ⊢
          exact key
        · rw [same es2] at key
          refine br_f (fun q => ?_) (nm_r (nI_1 j) key)
          have p14 := bq_lt14 H (bq_pv H hx xt)
          rw [ep] at p14
          by_cases jt : j = top
          · rw [jt, bq_en_t] at q
            exact bq_nm1 (z := p) (by omega) q.symm
          · have q14 := bq_lt14 H (bq_pv H hv jt)
            rw [bq_en_n jt, nI_eq (by omega) (by omega)] at q
            rcases hk j hv jt q with a | a
            · exact e a
            · exact es2 a
    · have e : j ≠ s := fun q => hv (by rw [q]; exact hs)
      rw [same e] at key
      exact bx_isNode_n c7 hv (by omega) (br_t rfl (nm_r (nI_1 j) key))
theorem bx_sib (H : bq_T c top par on tw) (hP : bq_PA c top par pa) {x s p : Nat} (hx : bq_V c x) (xt : x ≠ top) (ep : par x = p) (hs : bq_V c s) (st : s ≠ top) (es : par s = p) (sx : s ≠ x)
    (hk : ∀ k, bq_V c k → k ≠ top → par k = p → k = x ∨ k = s) {post : Int32 → Prop} (K : post (nI s)) : wpX_siblingOf post (nI c, pa, cd, co, ra, up, le, wa, we, sb) (nI x) := by
  have := bx_sib4 (cd := cd) (co := co) (ra := ra) (up := up) (le := le) (wa := wa) (we := we) (sb := sb) H hP hx xt ep hs st es sx hk K 14 0 15 rfl (by omega)
  rw [if_neg (by omega)] at this
  exact ⟨15, this⟩
theorem bq_O1 (H : bq_T c top par on tw) {p s : Nat} (f : Nat → Nat) (hf : ∀ q, 8 ≤ q → q < 7 + c → f q ≠ top ∧ par (f q) = q) {q : Nat} (h8 : 8 ≤ q) (h7 : q < 7 + c) :
    (f q = p → bq_mO1 p s top par f q = s) ∧ (f q ≠ p → bq_mO1 p s top par f q = f q) := by
  obtain ⟨n, k⟩ := hf q h8 h7
  refine ⟨fun r => ?_, fun r => ?_⟩
  · have pt : p ≠ top := by
      rw [← r]
      exact n
    rw [r] at k
    rw [bq_mO1, if_neg pt, k, bq_ra_g r]
  · rw [bq_mO1]
    by_cases pt : p = top
    · rw [if_pos pt]
    · rw [if_neg pt, bq_ra_n r]
theorem by_mv78 (H : bq_T c top par on tw) (hQ : bq_PA c top par ab) (hPC : bq_PC c on tw o t) {x y s p : Nat} (h : bq_M c top par on tw x y s p) {post : Int32 → SY → Prop} {ct : Int32}
    (K : ∀ ab' o' t', bq_PA c (bq_mT2 y p (bq_mT1 p s top)) (bq_mP3 y p (bq_up par s (par p))) ab' →
      bq_PC c (bq_up (bq_mO2 y p (bq_mT1 p s top) (bq_up par s (par p)) (bq_mO1 p s top par on)) p y) (bq_up (bq_mO2 y p (bq_mT1 p s top) (bq_up par s (par p)) (bq_mO1 p s top par tw)) p x) o' t' →
      post 0 (ct, nI (bq_mT2 y p (bq_mT1 p s top)), ow, ab', o', t', co, ra, lo, mn, su, ot)) :
    wY_move_78 post (nI x) (nI y) (nI p) (nI s) ct (nI top) ow ab o t co ra lo mn su ot := by
  have c7 := bq_c7 H
  obtain ⟨p8, p7, vs, st, es, sx, sp, xp, hk, hpp, yx⟩ := bq_M_f H h
  have hmPA := bq_mPA H h hQ
  obtain ⟨hx, hy, xt, ep, hA, yp, hs⟩ := h
  have vp : bq_V c p := Or.inr ⟨p8, p7⟩
  have x14 := bq_lt14 H hx
  have y14 := bq_lt14 H hy
  have s14 := bq_lt14 H vs
  have p14 := bq_lt14 H vp
  have fo : ∀ q, 8 ≤ q → q < 7 + c → on q ≠ top ∧ par (on q) = q := fun q h8 h7 => (bq_on H h8 h7).2
  have ft : ∀ q, 8 ≤ q → q < 7 + c → tw q ≠ top ∧ par (tw q) = q := fun q h8 h7 => (bq_tw H h8 h7).2
  have eab : upd ab s (bq_en top par p) y = bq_en (bq_mT1 p s top) (bq_up par s (par p)) y := by
    by_cases ys : y = s
    · rw [ys, pk_us]
      by_cases pt : p = top
      · rw [bq_mT1, if_pos pt, bq_en_t, pt, bq_en_t]
      · rw [bq_mT1, if_neg pt, bq_en_n pt, bq_en_n st, bq_us]
    · rw [pk_un ys, hQ y hy]
      by_cases pt : p = top
      · rw [bq_mT1, if_pos pt, bq_en_n (fun q => yp (q.trans pt.symm)), bq_en_n ys, bq_un ys]
      · rw [bq_mT1, if_neg pt]
        by_cases yt : y = top
        · rw [yt, bq_en_t, bq_en_t]
        · rw [bq_en_n yt, bq_en_n yt, bq_un ys]
  unfold wY_move_78
  refine by_repl (top := top) (par := par) (on := on) (tw := tw) (c := c) (by omega) (by omega) (hQ p vp) c7 hPC (fun pt => ?_) (fun o1 t1 hPC1 => ?_)
  · have g8 := bq_p8 H vp pt
    have g7 := bq_p7 H vp pt
    have := bq_lt14 H (bq_on H g8 g7).1
    exact ⟨g8, g7, bq_pk H vp pt, bq_nt H g8 g7, by omega⟩
  · refine by_repl (top := bq_mT1 p s top) (par := bq_up par s (par p)) (on := bq_mO1 p s top par on) (tw := bq_mO1 p s top par tw) (c := c) (by omega) (by omega) eab c7 hPC1 (fun yt1 => ?_) (fun o2 t2 hPC2 => ?_)
    · by_cases ys : y = s
      · have pt : p ≠ top := fun q => yt1 (by rw [bq_mT1, if_pos q]; exact ys)
        rw [ys, bq_us]
        have g8 := bq_p8 H vp pt
        have g7 := bq_p7 H vp pt
        have gp : par p ≠ p := hpp pt
        have n14 := bq_lt14 H (bq_on H g8 g7).1
        have no : on (par p) ≠ s := fun q => by
          have := (fo _ g8 g7).2
          rw [q, es] at this
          exact gp this.symm
        have nt : tw (par p) ≠ s := fun q => by
          have := (ft _ g8 g7).2
          rw [q, es] at this
          exact gp this.symm
        refine ⟨g8, g7, ?_⟩
        rcases bq_pk H vp pt with q | q
        · have q2 : tw (par p) ≠ p := fun r => bq_nt H g8 g7 (q.trans r.symm)
          rw [(bq_O1 H on fo g8 g7).1 q, (bq_O1 H tw ft g8 g7).2 q2]
          exact ⟨Or.inl rfl, fun r => nt r.symm, by omega⟩
        · have q2 : on (par p) ≠ p := fun r => bq_nt H g8 g7 (r.trans q.symm)
          rw [(bq_O1 H on fo g8 g7).2 q2, (bq_O1 H tw ft g8 g7).1 q]
          exact ⟨Or.inr rfl, no, by omega⟩
      · have yt : y ≠ top := fun q => by
          by_cases pt : p = top
          · exact yp (q.trans pt.symm)
          · exact yt1 (by rw [bq_mT1, if_neg pt]; exact q)
        rw [bq_un ys]
        have g8 := bq_p8 H hy yt
        have g7 := bq_p7 H hy yt
        have n14 := bq_lt14 H (bq_on H g8 g7).1
        have ne := bq_nt H g8 g7
        refine ⟨g8, g7, ?_⟩
        rcases bq_pk H hy yt with q | q
        · rw [(bq_O1 H on fo g8 g7).2 (by rw [q]; exact yp), q]
          rw [q] at ne
          refine ⟨Or.inl rfl, ?_, by omega⟩
          by_cases r : tw (par y) = p
          · rw [(bq_O1 H tw ft g8 g7).1 r]
            exact ys
          · rw [(bq_O1 H tw ft g8 g7).2 r]
            exact ne
        · rw [(bq_O1 H tw ft g8 g7).2 (by rw [q]; exact yp), q]
          rw [q] at ne
          by_cases r : on (par y) = p
          · rw [(bq_O1 H on fo g8 g7).1 r]
            exact ⟨Or.inr rfl, fun w => ys w.symm, by omega⟩
          · rw [(bq_O1 H on fo g8 g7).2 r]
            exact ⟨Or.inr rfl, ne, by omega⟩
    · refine by_join (by omega) (by omega) (by omega) ?_
      refine K _ _ _ (bq_PA_u (x := x) ?_ ?_) (bq_PC_j (fun q h8 h7 _ => hPC2 q h8 h7))
      · rw [← eab, ← hQ p vp]
        exact hmPA
      · have xT : x ≠ bq_mT2 y p (bq_mT1 p s top) := by
          rw [bq_mT2]
          by_cases b : y = bq_mT1 p s top
          · rw [if_pos b]
            exact xp
          · rw [if_neg b, bq_mT1]
            by_cases pt : p = top
            · rw [if_pos pt]
              exact fun q => sx q.symm
            · rw [if_neg pt]
              exact xt
        rw [bq_en_n xT, bq_mP3, bq_un (fun q => yx q.symm), bq_un xp, bq_un (fun q => sx q.symm), ep]
end
theorem i_vc_move {k : Nat} {u : SX} {v : SY} (I : i_Rel k u v) (hk : k + 4 ≤ 2049) (v1 : Int32) (v2 : Int32) : wpX_move (fun r u' => wpY_move (fun r' v' => r' = r ∧ i_Rel (k + 4) u' v') v v1 v2) u v1 v2 := by
  have I' : i_Rel (k + 4) u v := I
  obtain ⟨c, top, par, on, tw, code, pa, cd, co, ra, up, le, wa, we, sb, ow, ab, o, t, lo, mn, su, ot, rfl, rfl, H, hP, hC, hQ, hPC, hY, hco⟩ := I
  have c7 := bq_c7 H
  unfold wpX_move wpY_move
  dsimp only
  refine bx_isNode c7 v1 (fun x hx e => br_f (by decide) ?_) (fun hn => br_t rfl (by_bad c7 v1 (fun z hz e => absurd e (hn z hz)) (fun _ => br_f (by decide) ⟨rfl, I'⟩)))
  rw [e]
  refine bx_isNode c7 v2 (fun y hy e2 => br_f (by decide) ?_) (fun hn => br_t rfl (by_bad_y c7 hx (br_t rfl (by_bad c7 v2 (fun z hz e => absurd e (hn z hz)) (fun _ => br_f (by decide) ⟨rfl, I'⟩)))))
  rw [e2]
  have x14 := bq_lt14 H hx
  have y14 := bq_lt14 H hy
  have t14 := bq_lt14 H (bq_vt H)
  have xi : vp_in (nI x) 14 := pk_in x 14 x14
  have xi6 : vp_in (nI x) 16 := pk_in x 16 (by omega)
  have yi : vp_in (nI y) 14 := pk_in y 14 y14
  rw [nI_clamp (show x < 2 ^ 31 by omega), nI_clamp (show y < 2 ^ 31 by omega), hP x hx, hQ x hx]
  by_cases xt : x = top
  · exact ⟨xi, br_t (by rw [xt, bq_en_t]) (by_bad_y c7 hx (br_t rfl (by_bad_y c7 hy (br_t rfl (br_t (by rw [xt]) ⟨rfl, I'⟩)))))⟩
  have vp := bq_pv H hx xt
  have p14 := bq_lt14 H vp
  have nt : ¬ nI x = nI top := fun q => xt ((nI_eq (by omega) (by omega)).mp q)
  rw [bq_en_n xt]
  refine ⟨xi, br_f (bq_nm1 (by omega)) ?_⟩
  refine bx_above H hP (by omega) hy (fun hA => br_f (by decide) ?_) (fun hA => br_t rfl ⟨xi, ?_⟩)
  · exact by_bad_y c7 hx (br_t rfl (by_bad_y c7 hy (br_t rfl (br_f nt ⟨xi6, nm_e (by_over H hQ (by omega) hy (fun _ => br_f (by decide) ⟨rfl, I'⟩) (fun q => absurd hA q))⟩))))
  refine pk_eq y (par x) (fun yp => ?_) (fun yp => ⟨xi, nm_e ?_⟩)
  · exact by_bad_y c7 hx (br_t rfl (by_bad_y c7 hy (br_t rfl (br_f nt ⟨xi6, nm_e (by_over H hQ (by omega) hy (fun q => absurd q hA) (fun _ => br_t rfl (br_t (by rw [yp]) ⟨rfl, I'⟩)))⟩))))
  have p8 := bq_p8 H hx xt
  have p7 := bq_p7 H hx xt
  obtain ⟨s, hs⟩ : ∃ s, (on (par x) = x ∧ tw (par x) = s) ∨ (tw (par x) = x ∧ on (par x) = s) := by
    rcases bq_pk H hx xt with q | q
    · exact ⟨tw (par x), Or.inl ⟨q, rfl⟩⟩
    · exact ⟨on (par x), Or.inr ⟨q, rfl⟩⟩
  have hM : bq_M c top par on tw x y s (par x) := ⟨hx, hy, xt, rfl, hA, yp, hs⟩
  obtain ⟨_, _, vs, st, es, sx, sp, xp, hk2, hpp, yx⟩ := bq_M_f H hM
  have s14 := bq_lt14 H vs
  have pi : vp_in (nI (par x)) 14 := pk_in (par x) 14 p14
  refine bx_sib H hP hx xt rfl vs st es sx hk2 ⟨pi, pk_in s 14 s14, ?_⟩
  rw [nI_clamp (show s < 2 ^ 31 by omega), nI_clamp (show par x < 2 ^ 31 by omega)]
  refine nm_e ⟨yi, pi, nm_e ⟨yi, nm_e ?_⟩⟩
  have pi6 : vp_in (nI (par x)) 16 := pk_in (par x) 16 (by omega)
  have L : wY_move_78 (fun r' v' => r' = 0 ∧ i_Rel (k + 4) (nI c, upd (upd (upd pa s (pa (par x))) (par x) ((upd pa s (pa (par x))) y)) y (nI (par x)), cd, co, ra, up, le, wa, we, sb) v') (nI x) (nI y) (nI (par x)) (nI s) (nI c) (nI top) ow ab o t co ra lo mn su ot := by
    refine by_mv78 H hQ hPC hM (fun ab' o' t' hQ' hPC' => ⟨rfl, ?_⟩)
    exact bq_mkR (bq_mH H hM) (bq_mPA H hM hP) hC hQ' hPC' hY hco
  refine by_bad_y c7 hx (br_t rfl (by_bad_y c7 hy (br_t rfl (br_f nt ⟨xi6, nm_e (by_over H hQ (by omega) hy (fun q => absurd q hA) (fun _ => br_t rfl (br_f (fun q => yp ((nI_eq (by omega) (by omega)).mp q)) ⟨pi6, ?_⟩)))⟩))))
  rw [nI_clamp (show par x < 2 ^ 31 by omega), (hPC _ p8 p7).1, (hPC _ p8 p7).2]
  have n14 := bq_lt14 H (bq_on H p8 p7).1
  rcases hs with ⟨a, b⟩ | ⟨a, b⟩
  · rw [b]
    exact br_t (by rw [a]) ⟨pi6, L⟩
  · have q : on (par x) ≠ x := fun r => bq_nt H p8 p7 (r.trans a.symm)
    rw [b]
    rw [b] at q n14
    exact br_f (fun r => q ((nI_eq (by omega) (by omega)).mp r)) ⟨pi6, L⟩
