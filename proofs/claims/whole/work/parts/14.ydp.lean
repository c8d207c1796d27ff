/-! the reference's walks: branch, settle, work, bottom -/
section
variable {c top site m : Nat} {par on tw d code g : Nat → Nat} {ow ab o t co ra lo mn ot : Nat → Int32} {su : Nat → Int64} {pin ps ct tp : Int32}
theorem by_may {post : Int32 → Prop} (hc : c ≤ 7) (hC : bq_CY c code ow) {z s : Nat} (hz : bq_V c z) (hs : s < 4) (hi : site < 4)
    (h1 : bq_ok c site code pin ps z s = true → post 1) (h0 : bq_ok c site code pin ps z s = false → post 0) :
    wpY_may post (ct, tp, ow, ab, o, t, co, ra, lo, mn, su, ot) (nI z) (nI s) (nI site) pin ps := by
  have z14 := bq_V14 hc hz
  have M : (decide (nI z ≠ pin) || decide (nI s = ps)) = true → wY_may_14 post (nI z) (nI s) (nI site) ct tp ow ab o t co ra lo mn su ot := by
    intro hp
    rw [bq_ok, hp, Bool.true_and] at h1 h0
    unfold wY_may_14
    refine pk_lt 6 z (fun q => h1 ?_) (fun q => ?_)
    · rw [decide_eq_true (show c ≤ z by rcases hz with r | r <;> omega), Bool.true_or]
    · have hl : z < c := by rcases hz with r | r <;> omega
      have b := bq_dg_lt (code z) site
      rw [bq_j4, nI_clamp (by omega), hC z hl site hi]
      refine ⟨pk_in (4 * z + site) 28 (by omega), ?_⟩
      rw [decide_eq_false (show ¬ c ≤ z by omega), Bool.false_or] at h1 h0
      exact pk_eq (bq_dg (code z) site) s (fun q => h1 (decide_eq_true q)) (fun q => h0 (decide_eq_false q))
  unfold wpY_may
  dsimp only
  refine br_c (fun e1 => br_c (fun e2 => M ?_) (fun e2 => h0 ?_)) (fun e1 => M ?_)
  · rw [decide_eq_true e2, Bool.or_true]
  · rw [bq_ok, decide_eq_false (fun q => q e1), decide_eq_false e2]
    rfl
  · rw [decide_eq_true e1, Bool.true_or]
theorem by_br14 {post : Int64 → Prop} {k s : Nat} {x3 : Int32} (hk : k < 14) (hs : s < 4)
    (K : (x3 = 0 → post (bq_l 1000 co lo (4 * s) (4 * k) 4).toInt64) ∧ (¬ x3 = 0 → ((x3 = 1 → post (bq_w 1000 co lo mn (4 * s) (4 * k) 4).toInt64) ∧ (¬ x3 = 1 → post (bq_s ra su (4 * s) (4 * k) 4))))) :
    ∀ r j n, j + r = 4 → r < n → wY_branch_14 post (nI k) (nI s) x3 ct tp ow ab o t co ra lo mn su ot n (bq_l 1000 co lo (4 * s) (4 * k) j) (bq_w 1000 co lo mn (4 * s) (4 * k) j) (bq_s ra su (4 * s) (4 * k) j) (nI j) := by
  intro r
  induction r with
  | zero =>
    intro j n hj hn
    obtain ⟨n', rfl⟩ : ∃ n', n = n' + 1 := ⟨n - 1, by omega⟩
    obtain rfl : j = 4 := by omega
    exact br_t (by decide) K
  | succ r ih =>
    intro j n hj hn
    obtain ⟨n', rfl⟩ : ∃ n', n = n' + 1 := ⟨n - 1, by omega⟩
    have key := ih (j + 1) n' (by omega) (by omega)
    refine pk_le 4 j (fun q => absurd q (by omega)) (fun _ => ?_)
    rw [bq_j4, bq_j4, nI_clamp (by omega), nI_clamp (by omega)]
    refine ⟨pk_in (4 * s + j) 16 (by omega), pk_in (4 * k + j) 64 (by omega), nm_e ?_⟩
    have F : ∀ L W, wY_branch_14 post (nI k) (nI s) x3 ct tp ow ab o t co ra lo mn su ot n' L W (bq_s ra su (4 * s) (4 * k) (j + 1)) (nI (j + 1)) →
        wY_branch_82 post (wY_branch_14 post (nI k) (nI s) x3 ct tp ow ab o t co ra lo mn su ot n') (nI k) (nI s) x3 L W (bq_s ra su (4 * s) (4 * k) j) (nI j) ct tp ow ab o t co ra lo mn su ot := by
      intro L W q
      unfold wY_branch_82
      rw [bq_j4, bq_j4, nI_clamp (by omega), nI_clamp (by omega)]
      exact ⟨pk_in (4 * s + j) 16 (by omega), pk_in (4 * k + j) 64 (by omega), nm_e (nm_r (nI_1 j) q)⟩
    refine br_c (fun h => ?_) (fun h => ?_)
    · unfold wY_branch_59
      rw [bq_j4, nI_clamp (by omega)]
      rw [bq_l_1 h] at key
      refine br_c (fun e => ⟨pk_in (4 * k + j) 64 (by omega), nm_e (F _ _ ?_)⟩) (fun e => F _ _ ?_)
      · rw [bq_w_1 h e] at key
        exact key
      · rw [bq_w_2 h e] at key
        exact key
    · unfold wY_branch_59
      rw [bq_j4, nI_clamp (by omega)]
      rw [bq_l_2 h, bq_w_3 h] at key
      exact br_t rfl ⟨pk_in (4 * k + j) 64 (by omega), nm_e (F _ _ key)⟩
theorem by_br0 {post : Int64 → Prop} {k s : Nat} (hk : k < 14) (hs : s < 4) (K : post (bq_l 1000 co lo (4 * s) (4 * k) 4).toInt64) : wpY_branch post (ct, tp, ow, ab, o, t, co, ra, lo, mn, su, ot) (nI k) (nI s) 0 :=
  ⟨5, by_br14 hk hs (br_t rfl K) 4 0 5 rfl (by omega)⟩
theorem by_br1 {post : Int64 → Prop} {k s : Nat} (hk : k < 14) (hs : s < 4) (K : post (bq_w 1000 co lo mn (4 * s) (4 * k) 4).toInt64) : wpY_branch post (ct, tp, ow, ab, o, t, co, ra, lo, mn, su, ot) (nI k) (nI s) 1 :=
  ⟨5, by_br14 hk hs (br_f (by decide) (br_t rfl K)) 4 0 5 rfl (by omega)⟩
theorem by_br2 {post : Int64 → Prop} {k s : Nat} (hk : k < 14) (hs : s < 4) (K : post (bq_s ra su (4 * s) (4 * k) 4)) : wpY_branch post (ct, tp, ow, ab, o, t, co, ra, lo, mn, su, ot) (nI k) (nI s) 2 :=
  ⟨5, by_br14 hk hs (br_f (by decide) (br_f (by decide) K)) 4 0 5 rfl (by omega)⟩
/-- the values that settle stores at node z, state s -/
def bq_vl (on tw : Nat → Nat) (co lo : Nat → Int32) (b : Bool) (z s : Nat) : Int32 := if z < 8 then (if b = true then 0 else 1000) else bq_cap b (bq_l 1000 co lo (4 * s) (4 * on z) 4) (bq_l 1000 co lo (4 * s) (4 * tw z) 4)
def bq_vm (on tw : Nat → Nat) (co lo mn : Nat → Int32) (b : Bool) (z s : Nat) : Int32 := if z < 8 then (if b = true then 1 else 0) else bq_mny b (bq_w 1000 co lo mn (4 * s) (4 * on z) 4) (bq_w 1000 co lo mn (4 * s) (4 * tw z) 4)
def bq_vs (on tw : Nat → Nat) (ra : Nat → Int32) (su : Nat → Int64) (b : Bool) (z s : Nat) : Int64 := if z < 8 then (if b = true then 1 else 0) else (if b = true then 1 else 0) * bq_s ra su (4 * s) (4 * on z) 4 * bq_s ra su (4 * s) (4 * tw z) 4
theorem by_st162 {post : SY → Prop} {J3 : Int32 → (Nat → Int32) → (Nat → Int32) → (Nat → Int32) → (Nat → Int32) → (Nat → Int32) → (Nat → Int32) → (Nat → Int32) → (Nat → Int32) → (Nat → Int64) → (Nat → Int32) → Prop} {z s : Nat} {x2 x3 x4 : Int32} {C W S : Int64} (hz : z < 14) (hs : s < 4)
    (K : J3 (nI (s + 1)) ow ab o t co ra (upd lo (4 * z + s) (if 1000 < C then 1000 else C.toInt32)) (upd mn (4 * z + s) W.toInt32) (vp_updL su (4 * z + s) S) ot) :
    wY_settle_162 post J3 (nI z) x2 x3 x4 (nI s) C W S ct tp ow ab o t co ra lo mn su ot := by
  have G : ∀ v, v = (if 1000 < C then 1000 else C.toInt32) → wY_settle_190 post J3 (nI z) x2 x3 x4 (nI s) W S v ((4 * nI z) + nI s) ct tp ow ab o t co ra lo mn su ot := by
    intro v hv
    unfold wY_settle_190
    rw [bq_j4, nI_clamp (by omega), hv]
    exact ⟨pk_in (4 * z + s) 64 (by omega), nm_e ⟨pk_in (4 * z + s) 64 (by omega), nm_e ⟨pk_in (4 * z + s) 64 (by omega), nm_e (nm_r (nI_1 s) K)⟩⟩⟩
  unfold wY_settle_162
  exact br_c (fun h => G _ (if_neg (Int64.not_lt.mpr h)).symm) (fun h => G _ (if_pos (Int64.not_le.mp h)).symm)
theorem by_st58 (H : bq_T c top par on tw) (hPC : bq_PC c on tw o t) {post : SY → Prop} {J3 : Int32 → (Nat → Int32) → (Nat → Int32) → (Nat → Int32) → (Nat → Int32) → (Nat → Int32) → (Nat → Int32) → (Nat → Int32) → (Nat → Int32) → (Nat → Int64) → (Nat → Int32) → Prop} {z s : Nat} {x2 x3 x4 : Int32} (b : Bool) (hz : bq_V c z) (hs : s < 4)
    (K : J3 (nI (s + 1)) ow ab o t co ra (upd lo (4 * z + s) (bq_vl on tw co lo b z s)) (upd mn (4 * z + s) (bq_vm on tw co lo mn b z s)) (vp_updL su (4 * z + s) (bq_vs on tw ra su b z s)) ot) :
    wY_settle_58 post J3 (nI z) x2 x3 x4 (nI s) (if b = true then 0 else 1000) (if b = true then 1 else 0) (if b = true then 1 else 0) ct tp ow ab o t co ra lo mn su ot := by
  have z14 := bq_lt14 H hz
  unfold wY_settle_58
  refine pk_le z 7 (fun h => ?_) (fun h => ?_)
  · have h8 : z < 8 := by omega
    rw [bq_vl, bq_vm, bq_vs, if_pos h8, if_pos h8, if_pos h8] at K
    refine by_st162 z14 hs ?_
    cases b
    · exact K
    · exact K
  · have h8 : 8 ≤ z := by omega
    have h7 := bq_v7 H hz h8
    rw [bq_vl, bq_vm, bq_vs, if_neg (show ¬ z < 8 by omega), if_neg (show ¬ z < 8 by omega), if_neg (show ¬ z < 8 by omega)] at K
    have n14 := bq_lt14 H (bq_on H h8 h7).1
    have w14 := bq_lt14 H (bq_tw H h8 h7).1
    have zi : vp_in (nI z) 16 := pk_in z 16 (by omega)
    rw [nI_clamp (by omega), (hPC z h8 h7).1, (hPC z h8 h7).2]
    refine ⟨zi, by_br0 n14 hs ⟨zi, by_br0 w14 hs (nm_e ⟨zi, by_br1 n14 hs ⟨zi, by_br1 w14 hs (nm_e ⟨zi, by_br2 n14 hs ⟨zi, by_br2 w14 hs (nm_e ?_)⟩⟩)⟩⟩)⟩⟩
    exact by_st162 z14 hs K
/-- node z settled up to state s -/
def bq_SI (on tw : Nat → Nat) (ok : Nat → Nat → Bool) (co ra lo mn : Nat → Int32) (su : Nat → Int64) (z s : Nat) (lo' mn' : Nat → Int32) (su' : Nat → Int64) : Prop :=
  (∀ i, i < s → lo' (4 * z + i) = bq_vl on tw co lo (ok z i) z i ∧ mn' (4 * z + i) = bq_vm on tw co lo mn (ok z i) z i ∧ su' (4 * z + i) = bq_vs on tw ra su (ok z i) z i) ∧
  (∀ w i, i < 4 → (w ≠ z ∨ s ≤ i) → lo' (4 * w + i) = lo (4 * w + i) ∧ mn' (4 * w + i) = mn (4 * w + i) ∧ su' (4 * w + i) = su (4 * w + i))
theorem bq_SI_s (H : bq_T c top par on tw) {ok : Nat → Nat → Bool} {z s : Nat} {lo' mn' : Nat → Int32} {su' : Nat → Int64} (hz : bq_V c z) (hs : s < 4) (h : bq_SI on tw ok co ra lo mn su z s lo' mn' su') :
    bq_SI on tw ok co ra lo mn su z (s + 1) (upd lo' (4 * z + s) (bq_vl on tw co lo' (ok z s) z s)) (upd mn' (4 * z + s) (bq_vm on tw co lo' mn' (ok z s) z s)) (vp_updL su' (4 * z + s) (bq_vs on tw ra su' (ok z s) z s)) := by
  have e : bq_vl on tw co lo' (ok z s) z s = bq_vl on tw co lo (ok z s) z s ∧ bq_vm on tw co lo' mn' (ok z s) z s = bq_vm on tw co lo mn (ok z s) z s ∧ bq_vs on tw ra su' (ok z s) z s = bq_vs on tw ra su (ok z s) z s := by
    rw [bq_vl, bq_vl, bq_vm, bq_vm, bq_vs, bq_vs]
    by_cases h8 : z < 8
    · rw [if_pos h8, if_pos h8, if_pos h8, if_pos h8, if_pos h8, if_pos h8]
      exact ⟨rfl, rfl, rfl⟩
    · rw [if_neg h8, if_neg h8, if_neg h8, if_neg h8, if_neg h8, if_neg h8]
      obtain ⟨n1, n2⟩ := bq_kne H hz (by omega)
      have k1 := fun i hi => h.2 (on z) i hi (Or.inl n1)
      have k2 := fun i hi => h.2 (tw z) i hi (Or.inl n2)
      rw [bq_l_cg (lo := lo') (lo' := lo) (b := 4 * on z) (b' := 4 * on z) 4 (fun i hi => (k1 i hi).1), bq_l_cg (lo := lo') (lo' := lo) (b := 4 * tw z) (b' := 4 * tw z) 4 (fun i hi => (k2 i hi).1),
        bq_w_cg (lo := lo') (lo' := lo) (mn := mn') (mn' := mn) (b := 4 * on z) (b' := 4 * on z) 4 (fun i hi => (k1 i hi).1) (fun i hi => (k1 i hi).2.1),
        bq_w_cg (lo := lo') (lo' := lo) (mn := mn') (mn' := mn) (b := 4 * tw z) (b' := 4 * tw z) 4 (fun i hi => (k2 i hi).1) (fun i hi => (k2 i hi).2.1),
        bq_s_cg (su := su') (su' := su) (b := 4 * on z) (b' := 4 * on z) 4 (fun i hi => (k1 i hi).2.2), bq_s_cg (su := su') (su' := su) (b := 4 * tw z) (b' := 4 * tw z) 4 (fun i hi => (k2 i hi).2.2)]
      exact ⟨rfl, rfl, rfl⟩
  rw [e.1, e.2.1, e.2.2]
  refine ⟨fun i hi => ?_, fun w i hi hw => ?_⟩
  · by_cases q : i = s
    · rw [q, pk_us, pk_us, pk_uLs]
      exact ⟨rfl, rfl, rfl⟩
    · rw [pk_un (by omega), pk_un (by omega), pk_uLn (by omega)]
      exact h.1 i (by omega)
  · rw [pk_un (by omega), pk_un (by omega), pk_uLn (by omega)]
    exact h.2 w i hi (by omega)
theorem bq_SI_ST {ok : Nat → Nat → Bool} {z : Nat} {lo' mn' : Nat → Int32} {su' : Nat → Int64} (h : bq_SI on tw ok co ra lo mn su z 4 lo' mn' su') : bq_ST on tw ok co ra lo mn su z lo' mn' su' := by
  refine ⟨fun s hs => ⟨fun h8 => ?_, fun h8 => ?_⟩, fun w s hs hw => h.2 w s hs (Or.inl hw)⟩
  · have := h.1 s hs
    rw [bq_vl, bq_vm, bq_vs, if_pos h8, if_pos h8, if_pos h8] at this
    exact this
  · have := h.1 s hs
    rw [bq_vl, bq_vm, bq_vs, if_neg (show ¬ z < 8 by omega), if_neg (show ¬ z < 8 by omega), if_neg (show ¬ z < 8 by omega)] at this
    exact this
theorem by_st3 (H : bq_T c top par on tw) (hPC : bq_PC c on tw o t) (hC : bq_CY c code ow) (hi : site < 4) {post : SY → Prop} {z : Nat} (hz : bq_V c z)
    (K : ∀ lo' mn' su', bq_SI on tw (bq_ok c site code pin ps) co ra lo mn su z 4 lo' mn' su' → post (ct, tp, ow, ab, o, t, co, ra, lo', mn', su', ot)) :
    ∀ r s n lo' mn' su', s + r = 4 → r < n → bq_SI on tw (bq_ok c site code pin ps) co ra lo mn su z s lo' mn' su' → wY_settle_3 post (nI z) (nI site) pin ps ct tp n (nI s) ow ab o t co ra lo' mn' su' ot := by
  intro r
  induction r with
  | zero =>
    intro s n lo' mn' su' hs hn h
    obtain ⟨n', rfl⟩ : ∃ n', n = n' + 1 := ⟨n - 1, by omega⟩
    obtain rfl : s = 4 := by omega
    exact br_t (by decide) (K lo' mn' su' h)
  | succ r ih =>
    intro s n lo' mn' su' hs hn h
    obtain ⟨n', rfl⟩ : ∃ n', n = n' + 1 := ⟨n - 1, by omega⟩
    have key := ih (s + 1) n' _ _ _ (by omega) (by omega) (bq_SI_s H hz (by omega) h)
    have L := by_st58 (ct := ct) (tp := tp) (post := post) (x2 := nI site) (x3 := pin) (x4 := ps) H hPC (bq_ok c site code pin ps z s) hz (by omega) key
    refine pk_le 4 s (fun q => absurd q (by omega)) (fun _ => ?_)
    refine by_may (bq_c7 H) hC hz (by omega) hi (fun e => br_f (by decide) ?_) (fun e => br_t rfl ?_)
    · unfold wY_settle_34 wY_settle_46
      rw [e, if_pos rfl, if_pos rfl] at L
      exact br_f (by decide) (br_f (by decide) L)
    · unfold wY_settle_34 wY_settle_46
      rw [e, if_neg (by decide), if_neg (by decide)] at L
      exact br_t rfl (br_t rfl L)
theorem by_settle (H : bq_T c top par on tw) (hPC : bq_PC c on tw o t) (hC : bq_CY c code ow) (hi : site < 4) {post : SY → Prop} {z : Nat} (hz : bq_V c z)
    (K : ∀ lo' mn' su', bq_ST on tw (bq_ok c site code pin ps) co ra lo mn su z lo' mn' su' → post (ct, tp, ow, ab, o, t, co, ra, lo', mn', su', ot)) : wpY_settle post (ct, tp, ow, ab, o, t, co, ra, lo, mn, su, ot) (nI z) (nI site) pin ps :=
  ⟨5, by_st3 H hPC hC hi hz (fun lo' mn' su' h => K lo' mn' su' (bq_SI_ST h)) 4 0 5 lo mn su rfl (by omega) ⟨fun i hi => absurd hi (by omega), fun _ _ _ _ => ⟨rfl, rfl, rfl⟩⟩⟩
theorem by_wk13 (H : bq_T c top par on tw) (hD : bq_D c top par d) (hPC : bq_PC c on tw o t) (hC : bq_CY c code ow) (hi : site < 4) {post : SY → Prop} {J3 : Int32 → Int32 → Int32 → (Nat → Int32) → (Nat → Int32) → (Nat → Int32) → (Nat → Int32) → (Nat → Int32) → (Nat → Int32) → (Nat → Int32) → (Nat → Int32) → (Nat → Int64) → (Nat → Int32) → Prop} {rd d0 : Nat}
    (K : ∀ lo' mn' su', bq_YD c d on tw (bq_ok c site code pin ps) co ra d0 14 lo' mn' su' → J3 (nI (rd + 1)) (nI c) tp ow ab o t co ra lo' mn' su' ot) :
    ∀ r j n lo mn su, j + r = 14 → r < n → bq_YD c d on tw (bq_ok c site code pin ps) co ra d0 j lo mn su → wY_work_13 post J3 (nI site) pin ps (nI rd) n (nI j) (nI c) tp ow ab o t co ra lo mn su ot := by
  intro r
  induction r with
  | zero =>
    intro j n lo mn su hj hn h
    obtain ⟨n', rfl⟩ : ∃ n', n = n' + 1 := ⟨n - 1, by omega⟩
    obtain rfl : j = 14 := by omega
    exact br_t (by decide) (nm_r (nI_1 rd) (K lo mn su h))
  | succ r ih =>
    intro j n lo mn su hj hn h
    obtain ⟨n', rfl⟩ : ∃ n', n = n' + 1 := ⟨n - 1, by omega⟩
    have c7 := bq_c7 H
    refine pk_le 14 j (fun q => absurd q (by omega)) (fun _ => ?_)
    by_cases hv : bq_V c j
    · refine by_bad_y c7 hv (br_t rfl (by_settle H hPC hC hi hv (fun lo' mn' su' h' => ?_)))
      exact nm_r (nI_1 j) (ih (j + 1) n' lo' mn' su' (by omega) (by omega) (bq_YD_s H hD hv h h'))
    · refine by_bad_n c7 hv (by omega) (br_f (by decide) ?_)
      exact nm_r (nI_1 j) (ih (j + 1) n' lo mn su (by omega) (by omega) (bq_YD_n hv h))
theorem by_wk3 (H : bq_T c top par on tw) (hD : bq_D c top par d) (hPC : bq_PC c on tw o t) (hC : bq_CY c code ow) (hi : site < 4) {post : SY → Prop}
    (K : ∀ lo' mn' su', bq_YS c on tw (bq_ok c site code pin ps) co ra lo' mn' su' → post (nI c, tp, ow, ab, o, t, co, ra, lo', mn', su', ot)) :
    ∀ r rd n lo mn su, rd + r = 7 → r < n → bq_YD c d on tw (bq_ok c site code pin ps) co ra r 0 lo mn su → wY_work_3 post (nI site) pin ps n (nI rd) (nI c) tp ow ab o t co ra lo mn su ot := by
  intro r
  induction r with
  | zero =>
    intro rd n lo mn su hj hn h
    obtain ⟨n', rfl⟩ : ∃ n', n = n' + 1 := ⟨n - 1, by omega⟩
    obtain rfl : rd = 7 := by omega
    exact br_t (by decide) (K lo mn su (bq_YD_0 h))
  | succ r ih =>
    intro rd n lo mn su hj hn h
    obtain ⟨n', rfl⟩ : ∃ n', n = n' + 1 := ⟨n - 1, by omega⟩
    refine pk_le 7 rd (fun q => absurd q (by omega)) (fun _ => ⟨15, ?_⟩)
    exact by_wk13 H hD hPC hC hi (fun lo' mn' su' h' => ih (rd + 1) n' lo' mn' su' (by omega) (by omega) (bq_YD_r H h')) 14 0 15 lo mn su rfl (by omega) h
theorem by_work (H : bq_T c top par on tw) (hPC : bq_PC c on tw o t) (hC : bq_CY c code ow) (hi : site < 4) {post : SY → Prop}
    (K : ∀ lo' mn' su', bq_YS c on tw (bq_ok c site code pin ps) co ra lo' mn' su' → post (nI c, tp, ow, ab, o, t, co, ra, lo', mn', su', ot)) : wpY_work post (nI c, tp, ow, ab, o, t, co, ra, lo, mn, su, ot) (nI site) pin ps := by
  obtain ⟨d, hD⟩ := bq_ex H
  exact ⟨8, by_wk3 H hD hPC hC hi K 7 0 8 lo mn su rfl (by omega) (bq_YD_7 hD)⟩
theorem by_bot6 {post : Int32 → Prop} {tpn : Nat} (htp : tpn < 14) (K : post (bq_m4 1000 lo (4 * tpn) 4)) :
    ∀ r j n, j + r = 4 → r < n → wY_bottom_6 post ct (nI tpn) ow ab o t co ra lo mn su ot n (bq_m4 1000 lo (4 * tpn) j) (nI j) := by
  intro r
  induction r with
  | zero =>
    intro j n hj hn
    obtain ⟨n', rfl⟩ : ∃ n', n = n' + 1 := ⟨n - 1, by omega⟩
    obtain rfl : j = 4 := by omega
    exact br_t (by decide) K
  | succ r ih =>
    intro j n hj hn
    obtain ⟨n', rfl⟩ : ∃ n', n = n' + 1 := ⟨n - 1, by omega⟩
    have key := ih (j + 1) n' (by omega) (by omega)
    refine pk_le 4 j (fun q => absurd q (by omega)) (fun _ => ?_)
    rw [bq_j4, nI_clamp (by omega)]
    refine ⟨pk_in (4 * tpn + j) 64 (by omega), ?_⟩
    refine br_c (fun h => nm_r (nI_1 j) ?_) (fun h => ⟨pk_in (4 * tpn + j) 64 (by omega), nm_e (nm_r (nI_1 j) ?_)⟩)
    · rw [show bq_m4 1000 lo (4 * tpn) (j + 1) = bq_m4 1000 lo (4 * tpn) j from if_neg (Int32.not_lt.mpr h)] at key
      exact key
    · rw [show bq_m4 1000 lo (4 * tpn) (j + 1) = lo (4 * tpn + j) from if_pos (Int32.not_le.mp h)] at key
      exact key
theorem by_bottom {post : Int32 → Prop} {tpn : Nat} (htp : tpn < 14) (K : post (bq_m4 1000 lo (4 * tpn) 4)) : wpY_bottom post (ct, nI tpn, ow, ab, o, t, co, ra, lo, mn, su, ot) :=
  ⟨5, by_bot6 htp K 4 0 5 rfl (by omega)⟩
theorem by_cheap (H : bq_T c top par on tw) (hPC : bq_PC c on tw o t) (hC : bq_CY c code ow) (hi : site < 4) {post : Int32 → SY → Prop}
    (K : ∀ lo' mn' su', bq_YS c on tw (bq_ok c site code (-1) 0) co ra lo' mn' su' → post (bq_m4 1000 lo' (4 * top) 4) (nI c, nI top, ow, ab, o, t, co, ra, lo', mn', su', ot)) : wpY_cheapest post (nI c, nI top, ow, ab, o, t, co, ra, lo, mn, su, ot) (nI site) := by
  unfold wpY_cheapest
  dsimp only
  exact by_work H hPC hC hi (fun lo' mn' su' h => by_bottom (bq_lt14 H (bq_vt H)) (K lo' mn' su' h))
theorem by_sum (H : bq_T c top par on tw) (hPC : bq_PC c on tw o t) (hC : bq_CY c code ow) {post : Int32 → SY → Prop}
    (K : ∀ r0 r1 r2 r3 lo' mn' su', (∃ lo mn su, bq_YS c on tw (bq_ok c 0 code (-1) 0) co ra lo mn su ∧ r0 = bq_m4 1000 lo (4 * top) 4) →
      (∃ lo mn su, bq_YS c on tw (bq_ok c 1 code (-1) 0) co ra lo mn su ∧ r1 = bq_m4 1000 lo (4 * top) 4) →
      (∃ lo mn su, bq_YS c on tw (bq_ok c 2 code (-1) 0) co ra lo mn su ∧ r2 = bq_m4 1000 lo (4 * top) 4) →
      (∃ lo mn su, bq_YS c on tw (bq_ok c 3 code (-1) 0) co ra lo mn su ∧ r3 = bq_m4 1000 lo (4 * top) 4) → post (r0 + r1 + r2 + r3) (nI c, nI top, ow, ab, o, t, co, ra, lo', mn', su', ot)) : wpY_sumOfAll post (nI c, nI top, ow, ab, o, t, co, ra, lo, mn, su, ot) := by
  unfold wpY_sumOfAll
  dsimp only
  refine by_cheap (site := 0) H hPC hC (by omega) (fun lo0 mn0 su0 h0 => ?_)
  refine by_cheap (site := 1) H hPC hC (by omega) (fun lo1 mn1 su1 h1 => ?_)
  refine by_cheap (site := 2) H hPC hC (by omega) (fun lo2 mn2 su2 h2 => ?_)
  refine by_cheap (site := 3) H hPC hC (by omega) (fun lo3 mn3 su3 h3 => ?_)
  exact K _ _ _ _ lo3 mn3 su3 ⟨lo0, mn0, su0, h0, rfl⟩ ⟨lo1, mn1, su1, h1, rfl⟩ ⟨lo2, mn2, su2, h2, rfl⟩ ⟨lo3, mn3, su3, h3, rfl⟩
end
