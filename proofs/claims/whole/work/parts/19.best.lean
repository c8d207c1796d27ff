/-! bestPlace -/
theorem bq_bp_cg {c : Nat} {S S' : Nat → Int32} : ∀ j, (∀ i, i < j → S i = S' i) → bq_bp c S j = bq_bp c S' j := by
  intro j
  induction j with
  | zero => intro _; rfl
  | succ j ih =>
    intro h
    simp only [bq_bp]
    rw [ih (fun i hi => h i (by omega)), h j (by omega)]
/-- r is the total, as the component gets it, of the tree with a leaf of code cde beside z -/
def bq_Et (c top : Nat) (par on tw code : Nat → Nat) (co : Nat → Int32) (cde z : Nat) (r : Int32) : Prop :=
  ∃ r0 r1 r2 r3, bq_Ev (c + 1) (bq_aT c z top) (bq_aO c z top par on) (bq_aW c z top par tw) (bq_up code c cde) co 0 (-1) 0 r0 ∧
    bq_Ev (c + 1) (bq_aT c z top) (bq_aO c z top par on) (bq_aW c z top par tw) (bq_up code c cde) co 1 (-1) 0 r1 ∧
    bq_Ev (c + 1) (bq_aT c z top) (bq_aO c z top par on) (bq_aW c z top par tw) (bq_up code c cde) co 2 (-1) 0 r2 ∧
    bq_Ev (c + 1) (bq_aT c z top) (bq_aO c z top par on) (bq_aW c z top par tw) (bq_up code c cde) co 3 (-1) 0 r3 ∧ r = r0 + r1 + r2 + r3
section
variable {c top cde : Nat} {par on tw code : Nat → Nat} {pa cd co ra up le wa : Nat → Int32} {we : Nat → Int64} {sb ow ab o t lo mn : Nat → Int32} {su : Nat → Int64} {ot : Nat → Int32}
/-- attach and back: the parents as before -/
theorem bq_PA_b {z : Nat} (hz : bq_V c z) (hc : c < 7) (hP : bq_PA c top par pa) {w : Int32} (hw : w = bq_en top par z) : bq_PA c top par (upd (upd (upd (upd pa (7 + c) (pa z)) z (nI (7 + c))) c (nI (7 + c))) z w) := by
  intro y hy
  have hy' : y < c ∨ (8 ≤ y ∧ y < 7 + c) := hy
  by_cases e : y = z
  · rw [e, pk_us]
    exact hw
  · rw [pk_un e, pk_un (by omega), pk_un e, pk_un (by omega)]
    exact hP y hy
theorem bx_rem {z : Nat} (hz : bq_V c z) (hc : c < 7) {post : SX → Prop}
    (K : post (nI c, upd (upd (upd (upd pa (7 + c) (pa z)) z (nI (7 + c))) c (nI (7 + c))) z (pa z), cd, co, ra, up, le, wa, we, sb)) :
    wpX_removeNewestLeafBeside post (nI (c + 1), upd (upd (upd pa (7 + c) (pa z)) z (nI (7 + c))) c (nI (7 + c)), cd, co, ra, up, le, wa, we, sb) (nI z) := by
  have hz' : z < c ∨ (8 ≤ z ∧ z < 7 + c) := hz
  have z14 := bq_V14 (show c ≤ 7 by omega) hz
  have e1 : (upd (upd (upd pa (7 + c) (pa z)) z (nI (7 + c))) c (nI (7 + c))) z = nI (7 + c) := by
    rw [pk_un (by omega), pk_us]
  have e2 : (upd (upd (upd pa (7 + c) (pa z)) z (nI (7 + c))) c (nI (7 + c))) (7 + c) = pa z := by
    rw [pk_un (by omega), pk_un (by omega), pk_us]
  unfold wpX_removeNewestLeafBeside
  dsimp only
  rw [nI_clamp (show z < 2 ^ 31 by omega), e1, nI_clamp (show 7 + c < 2 ^ 31 by omega), e2]
  exact ⟨pk_in z 14 z14, pk_in (7 + c) 14 (by omega), pk_in z 14 z14, nm_e (nm_r (nI_pred c) K)⟩
theorem bx_bp30 (H : bq_T c top par on tw) (hc : c < 7) (h256 : cde < 256) {post : Int32 → SX → Prop}
    (K : ∀ S pa cd up le wa, bq_PA c top par pa → bq_CX c code cd → (∀ z, bq_V c z → bq_Et c top par on tw code co cde z (S z)) → post (bq_bp c S 14).1 (nI c, pa, cd, co, ra, up, le, wa, we, sb)) :
    ∀ r j n (S : Nat → Int32) pa cd up le wa, j + r = 14 → r < n → bq_PA c top par pa → bq_CX c code cd → (∀ z, z < j → bq_V c z → bq_Et c top par on tw code co cde z (S z)) →
      wX_bestPlace_30 post (nI cde) n (bq_bp c S j).1 (bq_bp c S j).2 (nI j) (nI c) pa cd co ra up le wa we sb := by
  have c7 := bq_c7 H
  intro r
  induction r with
  | zero =>
    intro j n S pa cd up le wa hj hn hP hC hE
    obtain ⟨n', rfl⟩ : ∃ n', n = n' + 1 := ⟨n - 1, by omega⟩
    obtain rfl : j = 14 := by omega
    exact br_t (by decide) (K S pa cd up le wa hP hC (fun z hz => hE z (bq_lt14 H hz) hz))
  | succ r ih =>
    intro j n S pa cd up le wa hj hn hP hC hE
    obtain ⟨n', rfl⟩ : ∃ n', n = n' + 1 := ⟨n - 1, by omega⟩
    refine pk_le 14 j (fun q => absurd q (by omega)) (fun _ => ?_)
    by_cases hv : bq_V c j
    · refine bx_isNode_y c7 hv (br_f (by decide) (bx_add hc hv ?_))
      refine bx_total (bq_aH H hc hv) (bq_aPA H hc hv hP) (bq_CX_u (by omega) hC h256) (fun r0 r1 r2 r3 up' le' wa' h0 h1 h2 h3 => ?_)
      refine bx_rem hv hc ?_
      have key := ih (j + 1) n' (fun i => if i = j then r0 + r1 + r2 + r3 else S i) _ (upd cd c (nI cde)) up' le' wa' (by omega) (by omega) (bq_PA_b hv hc hP (hP j hv)) (fun l hl => by
        rw [pk_un (by omega)]
        exact hC l hl) (fun z hz hzv => by
        show bq_Et c top par on tw code co cde z (if z = j then r0 + r1 + r2 + r3 else S z)
        by_cases e : z = j
        · rw [if_pos e, e]
          exact ⟨r0, r1, r2, r3, h0, h1, h2, h3, rfl⟩
        · rw [if_neg e]
          exact hE z (by omega) hzv)
      have e1 : bq_bp c (fun i => if i = j then r0 + r1 + r2 + r3 else S i) j = bq_bp c S j := bq_bp_cg j (fun i hi => by
        show (if i = j then r0 + r1 + r2 + r3 else S i) = S i
        rw [if_neg (by omega)])
      have e2 : bq_bp c (fun i => if i = j then r0 + r1 + r2 + r3 else S i) (j + 1) = (if r0 + r1 + r2 + r3 < (bq_bp c S j).2 then (nI j, r0 + r1 + r2 + r3) else bq_bp c S j) := by
        show (if j < c ∨ (8 ≤ j ∧ j < 7 + c) then (if (if j = j then r0 + r1 + r2 + r3 else S j) < (bq_bp c (fun i => if i = j then r0 + r1 + r2 + r3 else S i) j).2 then (nI j, (if j = j then r0 + r1 + r2 + r3 else S j)) else bq_bp c (fun i => if i = j then r0 + r1 + r2 + r3 else S i) j) else bq_bp c (fun i => if i = j then r0 + r1 + r2 + r3 else S i) j) = _
        rw [if_pos (show j < c ∨ (8 ≤ j ∧ j < 7 + c) from hv), e1, if_pos rfl]
      rw [e2] at key
      refine br_c (fun h => nm_r (nI_1 j) ?_) (fun h => nm_r (nI_1 j) ?_)
      · rw [if_neg (Int32.not_lt.mpr h)] at key
        exact key
      · rw [if_pos (Int32.not_le.mp h)] at key
        exact key
    · have e2 : bq_bp c S (j + 1) = bq_bp c S j := if_neg hv
      have key := ih (j + 1) n' S pa cd up le wa (by omega) (by omega) hP hC (fun z hz hzv => by
        by_cases e : z = j
        · rw [e] at hzv
          exact absurd hzv hv
        · exact hE z (by omega) hzv)
      rw [e2] at key
      exact bx_isNode_n c7 hv (by omega) (br_t rfl (nm_r (nI_1 j) key))
/-- attach and back: the children as before -/
theorem bq_PC_b {z : Nat} (hz : bq_V c z) (hc : c < 7) (n7 : 7 + c ≠ top) (f : Nat → Nat) (hf : ∀ p, 8 ≤ p → p < 7 + c → f p < 7 + c) (v : Nat) :
    ∀ p, 8 ≤ p → p < 7 + c → (if 7 + c = bq_aT c z top then bq_up (if z = top then f else bq_ra (par z) z (7 + c) f) (7 + c) v else bq_ra (bq_aP c z par (7 + c)) (7 + c) z (bq_up (if z = top then f else bq_ra (par z) z (7 + c) f) (7 + c) v)) p = f p := by
  have hz' : z < c ∨ (8 ≤ z ∧ z < 7 + c) := hz
  intro p h8 h7
  have fp := hf p h8 h7
  have eP : bq_aP c z par (7 + c) = par z := by
    rw [bq_aP, bq_un (by omega), bq_un (by omega), bq_us]
  rw [eP]
  by_cases e : z = top
  · rw [bq_aT, if_pos e, if_pos rfl, if_pos e, bq_un (by omega)]
  · rw [bq_aT, if_neg e, if_neg e]
    rw [if_neg n7]
    by_cases g : p = par z
    · by_cases q : f p = z
      · rw [g] at q ⊢
        rw [q]
        refine bq_ra_g ?_
        rw [bq_un (by omega)]
        exact bq_ra_g q
      · rw [bq_ra_n, bq_un (by omega), bq_ra_n q]
        rw [bq_un (by omega), bq_ra_n q]
        omega
    · rw [bq_ra_o g, bq_un (by omega), bq_ra_o g]
theorem by_bp29 (H : bq_T c top par on tw) (hc : c < 7) (h256 : cde < 256) (hco : ∀ i, i < 16 → ∃ k, k ≤ 9 ∧ co i = nI k) {S : Nat → Int32} (hE : ∀ z, bq_V c z → bq_Et c top par on tw code co cde z (S z)) {post : Int32 → SY → Prop}
    (K : ∀ ow ab o t lo mn su, bq_PA c top par ab → bq_PC c on tw o t → bq_CY c code ow → post (bq_bp c S 14).1 (nI c, nI top, ow, ab, o, t, co, ra, lo, mn, su, ot)) :
    ∀ r j n x2 x3 ow ab o t lo mn su, j + r = 14 → r < n → bq_PA c top par ab → bq_PC c on tw o t → bq_CY c code ow →
      ((bq_bp c S j = (-1, 1000000) ∧ x2 = -1) ∨ (∃ z q, z < 14 ∧ q ≤ 432 ∧ bq_bp c S j = (nI z, nI q) ∧ x2 = nI z ∧ x3 = nI q)) →
      wY_bestPlace_29 post (nI cde) n x2 x3 (nI j) (nI c) (nI top) ow ab o t co ra lo mn su ot := by
  have c7 := bq_c7 H
  intro r
  induction r with
  | zero =>
    intro j n x2 x3 ow ab o t lo mn su hj hn hQ hPC hY hI
    obtain ⟨n', rfl⟩ : ∃ n', n = n' + 1 := ⟨n - 1, by omega⟩
    obtain rfl : j = 14 := by omega
    have e : x2 = (bq_bp c S 14).1 := by
      rcases hI with ⟨a, b⟩ | ⟨z, q, _, _, a, b, _⟩ <;> rw [a, b]
    rw [e]
    exact br_t (by decide) (K ow ab o t lo mn su hQ hPC hY)
  | succ r ih =>
    intro j n x2 x3 ow ab o t lo mn su hj hn hQ hPC hY hI
    obtain ⟨n', rfl⟩ : ∃ n', n = n' + 1 := ⟨n - 1, by omega⟩
    refine pk_le 14 j (fun q => absurd q (by omega)) (fun _ => ?_)
    by_cases hv : bq_V c j
    · have hv' : j < c ∨ (8 ≤ j ∧ j < 7 + c) := hv
      have vt' : top < c ∨ (8 ≤ top ∧ top < 7 + c) := bq_vt H
      refine by_bad_y c7 hv (br_t rfl (by_putIn H hQ hPC hc hv h256 (fun o1 t1 hPC1 => ?_)))
      have H1 := bq_aH H hc hv
      refine by_sum H1 hPC1 (bq_CY_u (by omega) hY) (fun q0 q1 q2 q3 lo1 mn1 su1 g0 g1 g2 g3 => ?_)
      have e7 : (7 + nI (c + 1)) - 1 = nI (7 + c) := by
        rw [show (7 : Int32) = nI 7 from rfl, nI_add, show 7 + (c + 1) = (7 + c) + 1 by omega, nI_pred]
      have hQ1 := bq_aPA H hc hv hQ
      have v7 : bq_V (c + 1) (7 + c) := Or.inr ⟨by omega, by omega⟩
      have n7 : 7 + c ≠ top := by omega
      dsimp only
      rw [e7]
      refine by_repl (c := c + 1) (top := bq_aT c j top) (par := bq_aP c j par) (on := bq_aO c j top par on) (tw := bq_aW c j top par tw) (by omega) (by omega) (hQ1 _ v7) (by omega) hPC1 (fun e => ?_) (fun o2 t2 hPC2 => ?_)
      · have g8 := bq_p8 H1 v7 e
        have g7 := bq_p7 H1 v7 e
        have := bq_lt14 H1 (bq_on H1 g8 g7).1
        exact ⟨g8, g7, bq_pk H1 v7 e, bq_nt H1 g8 g7, by omega⟩
      · have eT : (if 7 + c = bq_aT c j top then j else bq_aT c j top) = top := by
          rw [bq_aT]
          by_cases q : j = top
          · rw [if_pos q, if_pos rfl]
            exact q
          · rw [if_neg q, if_neg n7]
        have eA : bq_en (bq_aT c j top) (bq_aP c j par) (7 + c) = bq_en top par j := by
          rw [← hQ1 _ v7, pk_un (by omega), pk_un (by omega), pk_us]
          exact hQ j hv
        rw [eT, eA]
        have hPC3 : bq_PC c on tw o2 t2 := by
          intro p h8 h7
          obtain ⟨a, b⟩ := hPC2 p h8 (by omega)
          have bo : ∀ p, 8 ≤ p → p < 7 + c → on p < 7 + c := fun p h8 h7 => by
            have : on p < c ∨ (8 ≤ on p ∧ on p < 7 + c) := (bq_on H h8 h7).1
            omega
          have bt : ∀ p, 8 ≤ p → p < 7 + c → tw p < 7 + c := fun p h8 h7 => by
            have : tw p < c ∨ (8 ≤ tw p ∧ tw p < 7 + c) := (bq_tw H h8 h7).1
            omega
          rw [bq_aO, bq_PC_b (top := top) (par := par) hv hc n7 on bo j p h8 h7] at a
          rw [bq_aW, bq_PC_b (top := top) (par := par) hv hc n7 tw bt c p h8 h7] at b
          exact ⟨a, b⟩
        have hQ3 : bq_PA c top par (upd (upd (upd (upd ab (7 + c) (ab j)) j (nI (7 + c))) c (nI (7 + c))) j (bq_en top par j)) := bq_PA_b hv hc hQ rfl
        have hY3 : bq_CY c code (bq_gv ow c cde 0 4) := fun l hl s hs => by
          rw [bq_gv_at c cde 4 0 ow l s (by omega) hs, if_neg (by omega)]
          exact hY l hl s hs
        obtain ⟨r0, r1, r2, r3, h0, h1, h2, h3, er⟩ := hE j hv
        obtain ⟨a0, b0, c0, d0⟩ := bq_EvE H1 hco h0 g0
        obtain ⟨a1, b1, c1, d1⟩ := bq_EvE H1 hco h1 g1
        obtain ⟨a2, b2, c2, d2⟩ := bq_EvE H1 hco h2 g2
        obtain ⟨a3, b3, c3, d3⟩ := bq_EvE H1 hco h3 g3
        have eS : S j = nI (a0 + a1 + a2 + a3) := by
          rw [er, c0, c1, c2, c3, nI_add, nI_add, nI_add]
        have eQ : q0 + q1 + q2 + q3 = nI (a0 + a1 + a2 + a3) := by
          rw [d0, d1, d2, d3, nI_add, nI_add, nI_add]
        rw [eQ]
        have j14 := bq_lt14 H hv
        have e2 : bq_bp c S (j + 1) = (if S j < (bq_bp c S j).2 then (nI j, S j) else bq_bp c S j) := if_pos hv
        refine nm_r (nI_pred c) ?_
        rcases hI with ⟨a, b⟩ | ⟨z, q, z14, hq, a, b, b'⟩
        · rw [b]
          refine br_t (by decide) (nm_r (nI_1 j) (ih (j + 1) n' _ _ _ _ _ _ _ _ _ (by omega) (by omega) hQ3 hPC3 hY3 (Or.inr ⟨j, a0 + a1 + a2 + a3, j14, by omega, ?_, rfl, rfl⟩)))
          rw [e2, a, eS, if_pos]
          exact nI_lt (b := 1000000) (by omega) (by omega)
        · rw [b, b']
          refine br_f (nI_pos (by omega)) (pk_le q (a0 + a1 + a2 + a3) (fun h => nm_r (nI_1 j) (ih (j + 1) n' _ _ _ _ _ _ _ _ _ (by omega) (by omega) hQ3 hPC3 hY3 (Or.inr ⟨z, q, z14, hq, ?_, rfl, rfl⟩))) (fun h => nm_r (nI_1 j) (ih (j + 1) n' _ _ _ _ _ _ _ _ _ (by omega) (by omega) hQ3 hPC3 hY3 (Or.inr ⟨j, a0 + a1 + a2 + a3, j14, by omega, ?_, rfl, rfl⟩))))
          · rw [e2, a, eS, if_neg]
            exact nI_nlt h (by omega)
          · rw [e2, a, eS, if_pos]
            exact nI_lt h (by omega)
    · have e2 : bq_bp c S (j + 1) = bq_bp c S j := if_neg hv
      rw [← e2] at hI
      exact by_bad_n c7 hv (by omega) (br_f (by decide) (nm_r (nI_1 j) (ih (j + 1) n' x2 x3 ow ab o t lo mn su (by omega) (by omega) hQ hPC hY hI)))
end
theorem i_vc_bestPlace {k : Nat} {u : SX} {v : SY} (I : i_Rel k u v) (hk : k + 4 ≤ 2049) (v1 : Int32) : wpX_bestPlace (fun r u' => wpY_bestPlace (fun r' v' => r' = r ∧ i_Rel (k + 4) u' v') v v1) u v1 := by
  have I' : i_Rel (k + 4) u v := I
  obtain ⟨c, top, par, on, tw, code, pa, cd, co, ra, up, le, wa, we, sb, ow, ab, o, t, lo, mn, su, ot, rfl, rfl, H, hP, hC, hQ, hPC, hY, hco⟩ := I
  have c7 := bq_c7 H
  unfold wpX_bestPlace wpY_bestPlace
  dsimp only
  refine bx_isLeafCode v1 (fun cde h256 e => br_f (by decide) ?_) (fun hn => br_t rfl (by_badStates v1 (fun z hz e => absurd e (hn z hz)) (fun _ => br_f (by decide) ⟨rfl, I'⟩)))
  rw [e]
  have Y1 : ∀ {Q : Int32 → Prop}, Q 0 → wpY_badStates Q (nI c, nI top, ow, ab, o, t, co, ra, lo, mn, su, ot) (nI cde) := fun q => by_badStates (nI cde) (fun _ _ _ => q) (fun hn => absurd rfl (hn cde h256))
  refine pk_eq c 7 (fun h => Y1 (br_t rfl (br_f (nI_ge (b := c) (a := 6) (by omega) (by omega)) ⟨rfl, I'⟩))) (fun h => ?_)
  have hc : c < 7 := by omega
  refine ⟨15, bx_bp30 H hc h256 (fun S pa' cd' up' le' wa' hP' hC' hE => ?_) 14 0 15 (fun _ => 0) pa cd up le wa rfl (by omega) hP hC (fun z hz => absurd hz (by omega))⟩
  refine Y1 (br_t rfl (br_t (nI_le (b := 6) (by omega) (by omega)) ⟨15, by_bp29 H hc h256 hco hE (fun ow' ab' o' t' lo' mn' su' hQ' hPC' hY' => ⟨rfl, ?_⟩) 14 0 15 (-1) 0 ow ab o t lo mn su rfl (by omega) hQ hPC hY (Or.inl ⟨rfl, rfl⟩)⟩))
  exact bq_mkR H hP' hC' hQ' hPC' hY' hco
