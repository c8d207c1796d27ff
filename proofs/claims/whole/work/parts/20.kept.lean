/-! keptBy -/
theorem bq_szI : ∀ i, i < 7 → ∀ m, m < 128 → (nI m >>> (nI i &&& 31)) &&& 1 = nI (m / 2 ^ i % 2) := by decide +kernel
def bq_sz (m : Nat) : Nat → Nat
  | 0 => 0
  | i + 1 => bq_sz m i + m / 2 ^ i % 2
theorem bq_sz7 (f : Nat → Bool) : bq_sz (bq_mk f 7) 7 = bq_ct f 7 := by
  show 0 + bq_mk f 7 / 1 % 2 + bq_mk f 7 / 2 % 2 + bq_mk f 7 / 4 % 2 + bq_mk f 7 / 8 % 2 + bq_mk f 7 / 16 % 2 + bq_mk f 7 / 32 % 2 + bq_mk f 7 / 64 % 2 = bq_ct f 7
  rw [Nat.div_one, Nat.zero_add]
  exact bq_bit f
/-- the sets before, as the component keeps them: 0 where there is no node -/
def bq_FB (c top : Nat) (par : Nat → Nat) (w : Nat) : Nat := if w < 7 + c then bq_B c top par w else 0
theorem bq_B128 (c top : Nat) (par : Nat → Nat) (w : Nat) : bq_B c top par w < 128 := bq_mk_lt _ 7
theorem bq_FB128 (c top : Nat) (par : Nat → Nat) (w : Nat) : bq_FB c top par w < 128 := by
  rw [bq_FB]
  by_cases h : w < 7 + c
  · rw [if_pos h]
    exact bq_B128 c top par w
  · rw [if_neg h]
    omega
section
variable {c top : Nat} {par on tw par2 on2 tw2 code : Nat → Nat} {pa cd co ra up le wa : Nat → Int32} {we : Nat → Int64} {sb ow ab o t lo mn : Nat → Int32} {su : Nat → Int64} {ot : Nat → Int32}
theorem bq_nV {w : Nat} (hc : c ≤ 7) (h8 : 8 ≤ w) : bq_V c w ↔ w < 7 + c := by
  constructor
  · intro h
    rcases h with q | q <;> omega
  · intro h
    exact Or.inr ⟨h8, h⟩
theorem bx_was3 {F : Nat → Nat} {v : Nat} {lc : Int32} (hF : ∀ w, 8 ≤ w → w < 14 → sb w = nI (F w) ∧ F w < 128) (hv : v < 128) {post : Int32 → Prop} (h1 : bq_hs F v 8 6 = true → post 1) (h0 : ¬ bq_hs F v 8 6 = true → post 0) :
    ∀ r j n, j + r = 14 → 8 ≤ j → r < n → (∀ w, 8 ≤ w → w < j → F w ≠ v) → wX_wasSetBefore_3 post (nI v) lc pa cd co ra up le wa we sb n (nI j) := by
  intro r
  induction r with
  | zero =>
    intro j n hj h8 hn hw
    obtain ⟨n', rfl⟩ : ∃ n', n = n' + 1 := ⟨n - 1, by omega⟩
    refine pk_le 14 j (fun _ => h0 (fun q => ?_)) (fun q => absurd q (by omega))
    obtain ⟨i, a, b, e⟩ := (bq_hs_t 6).mp q
    exact hw i a (by omega) e
  | succ r ih =>
    intro j n hj h8 hn hw
    obtain ⟨n', rfl⟩ : ∃ n', n = n' + 1 := ⟨n - 1, by omega⟩
    obtain ⟨e, b⟩ := hF j h8 (by omega)
    refine pk_le 14 j (fun q => absurd q (by omega)) (fun _ => ⟨pk_in j 14 (by omega), ?_⟩)
    rw [nI_clamp (by omega), e]
    refine pk_eq (F j) v (fun q => h1 ((bq_hs_t 6).mpr ⟨j, h8, by omega, q⟩)) (fun q => nm_r (nI_1 j) (ih (j + 1) n' (by omega) (by omega) (by omega) (fun w a b => ?_)))
    by_cases f : w = j
    · rw [f]
      exact q
    · exact hw w a (by omega)
theorem bx_k17 (H : bq_T c top par on tw) (hP : bq_PA c top par pa) {post : Int32 → SX → Prop} {x1 x2 : Int32}
    (K : ∀ sb', (∀ w, 8 ≤ w → w < 14 → sb' w = nI (bq_FB c top par w)) → wpX_exchangePlaces (fun u => match u with | (f_leafCount_15, a_parentOf_16, a_codeOf_17, a_costOf_18, a_rateOf_19, a_upwards_20, a_leastAt_21, a_waysAt_22, a_weightAt_23, a_setBefore_24) => (∃ n69 : Nat, wX_keptBy_69 post x1 x2 f_leafCount_15 a_parentOf_16 a_codeOf_17 a_costOf_18 a_rateOf_19 a_upwards_20 a_leastAt_21 a_waysAt_22 a_weightAt_23 a_setBefore_24 n69 0 8)) (nI c, pa, cd, co, ra, up, le, wa, we, sb') x1 x2) :
    ∀ r j n sb, j + r = 14 → 8 ≤ j → r < n → (∀ w, 8 ≤ w → w < j → sb w = nI (bq_FB c top par w)) → wX_keptBy_17 post x1 x2 (nI c) n (nI j) pa cd co ra up le wa we sb := by
  have c7 := bq_c7 H
  intro r
  induction r with
  | zero =>
    intro j n sb hj h8 hn hw
    obtain ⟨n', rfl⟩ : ∃ n', n = n' + 1 := ⟨n - 1, by omega⟩
    obtain rfl : j = 14 := by omega
    exact br_t (by decide) (K sb hw)
  | succ r ih =>
    intro j n sb hj h8 hn hw
    obtain ⟨n', rfl⟩ : ∃ n', n = n' + 1 := ⟨n - 1, by omega⟩
    refine pk_le 14 j (fun q => absurd q (by omega)) (fun _ => ?_)
    have G : wX_keptBy_17 post x1 x2 (nI c) n' (nI (j + 1)) pa cd co ra up le wa we (upd sb j (nI (bq_FB c top par j))) := by
      refine ih (j + 1) n' _ (by omega) (by omega) (by omega) (fun w a b => ?_)
      by_cases f : w = j
      · rw [f, pk_us]
      · rw [pk_un f]
        exact hw w a (by omega)
    rw [nI_clamp (by omega)]
    by_cases hv : bq_V c j
    · rw [bq_FB, if_pos ((bq_nV c7 h8).mp hv)] at G
      exact bx_isNode_y c7 hv (br_f (by decide) (bx_set H hP (by omega) ⟨pk_in j 14 (by omega), nm_e (nm_r (nI_1 j) G)⟩))
    · rw [bq_FB, if_neg (fun q => hv ((bq_nV c7 h8).mpr q))] at G
      exact bx_isNode_n c7 hv (by omega) (br_t rfl ⟨pk_in j 14 (by omega), nm_e (nm_r (nI_1 j) G)⟩)
/-- the component's term for node i: F the sets before, G those after -/
def bq_fX (c top : Nat) (F G : Nat → Nat) (i : Nat) : Nat := if i < 7 + c ∧ i ≠ top ∧ bq_hs F (G i) 8 6 = true then 1 else 0
theorem bx_k69 (H : bq_T c top par on tw) (hP : bq_PA c top par pa) {F : Nat → Nat} (hF : ∀ w, 8 ≤ w → w < 14 → sb w = nI (F w) ∧ F w < 128) {post : Int32 → SX → Prop} {x1 x2 : Int32}
    (K : wpX_exchangePlaces (fun u => match u with | (f_leafCount_27, a_parentOf_28, a_codeOf_29, a_costOf_30, a_rateOf_31, a_upwards_32, a_leastAt_33, a_waysAt_34, a_weightAt_35, a_setBefore_36) => (post (nI (bq_sm (bq_fX c top F (bq_B c top par)) 8 6)) (f_leafCount_27, a_parentOf_28, a_codeOf_29, a_costOf_30, a_rateOf_31, a_upwards_32, a_leastAt_33, a_waysAt_34, a_weightAt_35, a_setBefore_36))) (nI c, pa, cd, co, ra, up, le, wa, we, sb) x1 x2) :
    ∀ r i n, i + r = 6 → r < n → wX_keptBy_69 post x1 x2 (nI c) pa cd co ra up le wa we sb n (nI (bq_sm (bq_fX c top F (bq_B c top par)) 8 i)) (nI (8 + i)) := by
  have c7 := bq_c7 H
  intro r
  induction r with
  | zero =>
    intro i n hi hn
    obtain ⟨n', rfl⟩ : ∃ n', n = n' + 1 := ⟨n - 1, by omega⟩
    obtain rfl : i = 6 := by omega
    exact br_t (by decide) K
  | succ r ih =>
    intro i n hi hn
    obtain ⟨n', rfl⟩ : ∃ n', n = n' + 1 := ⟨n - 1, by omega⟩
    have key := ih (i + 1) n' (by omega) (by omega)
    have ei : nI (8 + i) + 1 = nI (8 + (i + 1)) := nI_1 (8 + i)
    have es : bq_sm (bq_fX c top F (bq_B c top par)) 8 (i + 1) = bq_sm (bq_fX c top F (bq_B c top par)) 8 i + bq_fX c top F (bq_B c top par) (8 + i) := rfl
    rw [es] at key
    refine pk_le 14 (8 + i) (fun q => absurd q (by omega)) (fun _ => ?_)
    by_cases hv : bq_V c (8 + i)
    · refine bx_isNode_y c7 hv (br_f (by decide) ⟨pk_in (8 + i) 14 (by omega), ?_⟩)
      rw [nI_clamp (by omega), hP _ hv]
      by_cases et : 8 + i = top
      · rw [show bq_fX c top F (bq_B c top par) (8 + i) = 0 from if_neg (fun q => q.2.1 et), Nat.add_zero] at key
        exact br_t (by rw [et, bq_en_t]) (nm_r ei key)
      · have p14 := bq_lt14 H (bq_pv H hv et)
        refine br_f (by rw [bq_en_n et]; exact bq_nm1 (by omega)) (bx_set H hP (by omega) ?_)
        refine ⟨7, bx_was3 hF (bq_B128 c top par (8 + i)) (fun q => br_f (by decide) ?_) (fun q => br_t rfl ?_) 6 8 7 rfl (by omega) (by omega) (fun w a b => absurd b (by omega))⟩
        · rw [show bq_fX c top F (bq_B c top par) (8 + i) = 1 from if_pos ⟨(bq_nV c7 (by omega)).mp hv, et, q⟩] at key
          exact nm_r (nI_1 _) (nm_r ei key)
        · rw [show bq_fX c top F (bq_B c top par) (8 + i) = 0 from if_neg (fun w => q w.2.2), Nat.add_zero] at key
          exact nm_r (Int32.add_zero _) (nm_r ei key)
    · rw [show bq_fX c top F (bq_B c top par) (8 + i) = 0 from if_neg (fun q => hv ((bq_nV c7 (by omega)).mpr q.1)), Nat.add_zero] at key
      exact bx_isNode_n c7 hv (by omega) (br_t rfl (nm_r ei key))
theorem by_size4 {post : Int32 → Prop} {ct tp : Int32} {m : Nat} (hm : m < 128) (K : post (nI (bq_sz m 7))) :
    ∀ r i n, i + r = 7 → r < n → wY_size_4 post (nI m) ct tp ow ab o t co ra lo mn su ot n (nI (bq_sz m i)) (nI i) := by
  intro r
  induction r with
  | zero =>
    intro i n hi hn
    obtain ⟨n', rfl⟩ : ∃ n', n = n' + 1 := ⟨n - 1, by omega⟩
    obtain rfl : i = 7 := by omega
    exact br_t (by decide) K
  | succ r ih =>
    intro i n hi hn
    obtain ⟨n', rfl⟩ : ∃ n', n = n' + 1 := ⟨n - 1, by omega⟩
    have key := ih (i + 1) n' (by omega) (by omega)
    refine pk_le 7 i (fun q => absurd q (by omega)) (fun _ => nm_r (e' := nI (bq_sz m (i + 1))) ?_ (nm_r (nI_1 i) key))
    rw [bq_szI i (by omega) m hm, nI_add]
    rfl
theorem by_size {post : Int32 → Prop} {ct tp : Int32} {w : Nat} (K : post (nI (bq_n c top par w))) : wpY_size post (ct, tp, ow, ab, o, t, co, ra, lo, mn, su, ot) (nI (bq_B c top par w)) := by
  refine ⟨8, by_size4 (bq_B128 c top par w) ?_ 7 0 8 rfl (by omega)⟩
  rw [bq_B, bq_sz7]
  exact K
theorem by_shared3 (H : bq_T c top par on tw) (hQ : bq_PA c top par ab) {v : Nat} {tp : Int32} (hv : v < 128) {post : Int32 → Prop} (h1 : bq_hs (bq_B c top par) v 8 (c - 1) = true → post 1) (h0 : ¬ bq_hs (bq_B c top par) v 8 (c - 1) = true → post 0) :
    ∀ r j n, j + r = 7 + c → 8 ≤ j → r < n → (∀ w, 8 ≤ w → w < j → bq_B c top par w ≠ v) → wY_shared_3 post (nI v) (nI c) tp ow ab o t co ra lo mn su ot n (nI j) := by
  have c7 := bq_c7 H
  have c1 := bq_c1 H
  have e7 : (7 : Int32) + nI c = nI (7 + c) := nI_add 7 c
  intro r
  induction r with
  | zero =>
    intro j n hj h8 hn hw
    obtain ⟨n', rfl⟩ : ∃ n', n = n' + 1 := ⟨n - 1, by omega⟩
    unfold wY_shared_3
    rw [e7]
    refine pk_le (7 + c) j (fun _ => h0 (fun q => ?_)) (fun q => absurd q (by omega))
    obtain ⟨i, a, b, e⟩ := (bq_hs_t (c - 1)).mp q
    exact hw i a (by omega) e
  | succ r ih =>
    intro j n hj h8 hn hw
    obtain ⟨n', rfl⟩ : ∃ n', n = n' + 1 := ⟨n - 1, by omega⟩
    unfold wY_shared_3
    rw [e7]
    refine pk_le (7 + c) j (fun q => absurd q (by omega)) (fun _ => pk_le 14 j (fun q => absurd q (by omega)) (fun _ => by_below H hQ (by omega) ?_))
    have b := bq_B128 c top par j
    refine pk_eq (bq_B c top par j) v (fun q => h1 ((bq_hs_t (c - 1)).mpr ⟨j, h8, by omega, q⟩)) (fun q => nm_r (nI_1 j) (ih (j + 1) n' (by omega) (by omega) (by omega) (fun w a b => ?_)))
    by_cases f : w = j
    · rw [f]
      exact q
    · exact hw w a (by omega)
theorem by_k42 (H : bq_T c top par on tw) (hQ : bq_PA c top par ab) {post : Int32 → SY → Prop} {x1 x2 tp : Int32}
    (K : ∀ ot', (∀ w, 8 ≤ w → w < 7 + c → ot' w = nI (bq_B c top par w)) → wY_keptBy_76 post x1 x2 (nI c) tp ow ab o t co ra lo mn su ot') :
    ∀ r j n ot, j + r = 7 + c → 8 ≤ j → r < n → (∀ w, 8 ≤ w → w < j → ot w = nI (bq_B c top par w)) → wY_keptBy_42 post x1 x2 (nI c) tp n (nI j) ow ab o t co ra lo mn su ot := by
  have c7 := bq_c7 H
  have e7 : (7 : Int32) + nI c = nI (7 + c) := nI_add 7 c
  intro r
  induction r with
  | zero =>
    intro j n ot hj h8 hn hw
    obtain ⟨n', rfl⟩ : ∃ n', n = n' + 1 := ⟨n - 1, by omega⟩
    unfold wY_keptBy_42
    rw [e7]
    exact pk_le (7 + c) j (fun _ => K ot (fun w a b => hw w a (by omega))) (fun q => absurd q (by omega))
  | succ r ih =>
    intro j n ot hj h8 hn hw
    obtain ⟨n', rfl⟩ : ∃ n', n = n' + 1 := ⟨n - 1, by omega⟩
    unfold wY_keptBy_42
    rw [e7]
    refine pk_le (7 + c) j (fun q => absurd q (by omega)) (fun _ => pk_le 14 j (fun q => absurd q (by omega)) (fun _ => by_below H hQ (by omega) ⟨pk_in j 16 (by omega), ?_⟩))
    rw [nI_clamp (by omega)]
    refine nm_e (nm_r (nI_1 j) (ih (j + 1) n' _ (by omega) (by omega) (by omega) (fun w a b => ?_)))
    by_cases f : w = j
    · rw [f, pk_us]
    · rw [pk_un f]
      exact hw w a (by omega)
/-- the reference's term for node i: F before, G after -/
def bq_fY (c top : Nat) (F G : Nat → Nat) (i : Nat) : Nat := if i ≠ top ∧ bq_hs G (F i) 8 (c - 1) = true then 1 else 0
theorem by_k88 (H : bq_T c top par on tw) (H2 : bq_T c top par2 on2 tw2) (hQ : bq_PA c top par2 ab) {post : Int32 → SY → Prop} {x1 x2 tp : Int32}
    (ho : ∀ w, 8 ≤ w → w < 7 + c → ot w = nI (bq_B c top par w))
    (K : wY_keptBy_148 post x1 x2 (nI (bq_sm (bq_fY c top (bq_B c top par) (bq_B c top par2)) 8 (c - 1))) (nI c) tp ow ab o t co ra lo mn su ot) :
    ∀ r i n, i + r = c - 1 → r < n → wY_keptBy_88 post x1 x2 (nI c) tp ow ab o t co ra lo mn su ot n (nI (bq_sm (bq_fY c top (bq_B c top par) (bq_B c top par2)) 8 i)) (nI (8 + i)) := by
  have c7 := bq_c7 H
  have c1 := bq_c1 H
  have e7 : (7 : Int32) + nI c = nI (7 + c) := nI_add 7 c
  intro r
  induction r with
  | zero =>
    intro i n hi hn
    obtain ⟨n', rfl⟩ : ∃ n', n = n' + 1 := ⟨n - 1, by omega⟩
    unfold wY_keptBy_88
    rw [e7]
    obtain rfl : i = c - 1 := by omega
    exact pk_le (7 + c) (8 + (c - 1)) (fun _ => K) (fun q => absurd q (by omega))
  | succ r ih =>
    intro i n hi hn
    obtain ⟨n', rfl⟩ : ∃ n', n = n' + 1 := ⟨n - 1, by omega⟩
    have key := ih (i + 1) n' (by omega) (by omega)
    have ei : nI (8 + i) + 1 = nI (8 + (i + 1)) := nI_1 (8 + i)
    have es : bq_sm (bq_fY c top (bq_B c top par) (bq_B c top par2)) 8 (i + 1) = bq_sm (bq_fY c top (bq_B c top par) (bq_B c top par2)) 8 i + bq_fY c top (bq_B c top par) (bq_B c top par2) (8 + i) := rfl
    rw [es] at key
    have hv : bq_V c (8 + i) := Or.inr ⟨by omega, by omega⟩
    have vi : vp_in (nI (8 + i)) 16 := pk_in (8 + i) 16 (by omega)
    unfold wY_keptBy_88
    rw [e7]
    refine pk_le (7 + c) (8 + i) (fun q => absurd q (by omega)) (fun _ => pk_le 14 (8 + i) (fun q => absurd q (by omega)) (fun _ => ⟨vi, ?_⟩))
    rw [nI_clamp (by omega), ho _ (by omega) (by omega)]
    refine by_size ?_
    have n7 : bq_n c top par (8 + i) ≤ 7 := bq_n_le (8 + i)
    by_cases et : 8 + i = top
    · have en : bq_n c top par (8 + i) = c := by
        rw [et]
        exact bq_n_top H
      rw [show bq_fY c top (bq_B c top par) (bq_B c top par2) (8 + i) = 0 from if_neg (fun q => q.1 et), Nat.add_zero] at key
      rw [en]
      exact br_t (nI_le (Nat.le_refl _) (by omega)) (nm_r ei key)
    · have en := bq_n_lt H hv et
      refine br_f (nI_ge en (by omega)) ⟨vi, ⟨c, by_shared3 H2 hQ (bq_B128 c top par (8 + i)) (fun q => br_f (by decide) ?_) (fun q => br_t rfl ?_) (c - 1) 8 c (by omega) (by omega) (by omega) (fun w a b => absurd b (by omega))⟩⟩
      · rw [show bq_fY c top (bq_B c top par) (bq_B c top par2) (8 + i) = 1 from if_pos ⟨et, q⟩] at key
        exact nm_r (nI_1 _) (nm_r ei key)
      · rw [show bq_fY c top (bq_B c top par) (bq_B c top par2) (8 + i) = 0 from if_neg (fun w => q w.2), Nat.add_zero] at key
        exact nm_r ei key
theorem bq_sm_tail {f g : Nat → Nat} {a n : Nat} (h : ∀ i, a ≤ i → i < a + n → f i = g i) (h0 : ∀ i, a + n ≤ i → f i = 0) : ∀ m, bq_sm f a (n + m) = bq_sm g a n := by
  intro m
  induction m with
  | zero => exact bq_sm_cg n h
  | succ m ih =>
    show bq_sm f a (n + m) + f (a + (n + m)) = _
    rw [ih, h0 _ (by omega)]
    rfl
theorem bq_count (H : bq_T c top par on tw) (H2 : bq_T c top par2 on2 tw2) : bq_sm (bq_fX c top (bq_FB c top par) (bq_B c top par2)) 8 6 = bq_sm (bq_fY c top (bq_B c top par) (bq_B c top par2)) 8 (c - 1) := by
  have c7 := bq_c7 H
  have c1 := bq_c1 H
  have e1 := bq_sm_tail (f := bq_fX c top (bq_FB c top par) (bq_B c top par2)) (g := fun i => if i ≠ top ∧ bq_hs (bq_B c top par) (bq_B c top par2 i) 8 (c - 1) = true then 1 else 0) (a := 8) (n := c - 1) (fun i h1 h2 => by
    have hz : bq_B c top par2 i ≠ 0 := bq_B_pos H2 (Or.inr ⟨h1, by omega⟩)
    have eh : bq_hs (bq_FB c top par) (bq_B c top par2 i) 8 6 = true ↔ bq_hs (bq_B c top par) (bq_B c top par2 i) 8 (c - 1) = true := by
      rw [bq_hs_t, bq_hs_t]
      constructor
      · intro ⟨w, a, b, e⟩
        rw [bq_FB] at e
        by_cases q : w < 7 + c
        · rw [if_pos q] at e
          exact ⟨w, a, by omega, e⟩
        · rw [if_neg q] at e
          exact absurd e.symm hz
      · intro ⟨w, a, b, e⟩
        refine ⟨w, a, by omega, ?_⟩
        rw [bq_FB, if_pos (by omega)]
        exact e
    show bq_fX c top (bq_FB c top par) (bq_B c top par2) i = (if i ≠ top ∧ bq_hs (bq_B c top par) (bq_B c top par2 i) 8 (c - 1) = true then 1 else 0)
    rw [bq_fX]
    by_cases q : i ≠ top ∧ bq_hs (bq_B c top par) (bq_B c top par2 i) 8 (c - 1) = true
    · rw [if_pos q, if_pos ⟨by omega, q.1, eh.mpr q.2⟩]
    · rw [if_neg q, if_neg (fun w => q ⟨w.2.1, eh.mp w.2.2⟩)]) (fun i h => if_neg (fun w => by omega)) (6 - (c - 1))
  rw [show c - 1 + (6 - (c - 1)) = 6 by omega] at e1
  rw [e1]
  have V : ∀ i, 8 ≤ i → i < 8 + (c - 1) → bq_V c i := fun i a b => Or.inr ⟨a, by omega⟩
  refine bq_kept (F := bq_B c top par) (G := bq_B c top par2) (fun i j a b a' b' e => bq_B_inj H (V i a b) a (V j a' b') a' e) (fun i j a b a' b' e => bq_B_inj H2 (V i a b) a (V j a' b') a' e) (fun i j a b a' b' e => ⟨fun q => ?_, fun q => ?_⟩)
  · rw [q] at e a
    rw [← bq_B_top H H2] at e
    exact bq_B_inj H (V j a' b') a' (bq_vt H) a e
  · rw [q] at e a'
    rw [bq_B_top H H2] at e
    exact (bq_B_inj H2 (bq_vt H) a' (V i a b) a e).symm
theorem bq_upd2 {f : Nat → Int32} {x y : Nat} (xy : x ≠ y) : upd (upd (upd (upd f x (f y)) y (f x)) x ((upd (upd f x (f y)) y (f x)) y)) y ((upd (upd f x (f y)) y (f x)) x) = f := by
  have ex : (upd (upd f x (f y)) y (f x)) x = f y := by rw [pk_un xy, pk_us]
  have ey : (upd (upd f x (f y)) y (f x)) y = f x := pk_us
  rw [ex, ey]
  funext j
  by_cases a : j = y
  · rw [a, pk_us]
  · rw [pk_un a]
    by_cases b : j = x
    · rw [b, pk_us]
    · rw [pk_un b, pk_un a, pk_un b]
theorem bq_wO2 {x y : Nat} (xy : x ≠ y) (f : Nat → Nat) (hf : ∀ p, 8 ≤ p → p < 7 + c → par (f p) = p) : ∀ p, 8 ≤ p → p < 7 + c → bq_wO x y (bq_wP x y par) (bq_wO x y par f) p = f p := by
  intro p h8 h7
  have ex : bq_wP x y par x = par y := by rw [bq_wP, bq_un xy, bq_us]
  have ey : bq_wP x y par y = par x := by rw [bq_wP, bq_us]
  have k := hf p h8 h7
  rw [bq_wO, ex, ey]
  by_cases e : par x = par y
  · rw [if_pos e.symm, bq_wO, if_pos e]
  · rw [if_neg (fun q => e q.symm), bq_wO, if_neg e]
    by_cases a : f p = x
    · rw [a] at k
      have hpy : p ≠ par y := fun q => e (k.trans q)
      have e1 : bq_ra (par x) x y f p = y := by
        rw [k]
        exact bq_ra_g a
      have e2 : bq_ra (par y) y x (bq_ra (par x) x y f) p = y := by
        rw [bq_ra_o hpy]
        exact e1
      have e3 : bq_ra (par y) x y (bq_ra (par y) y x (bq_ra (par x) x y f)) p = y := by
        rw [bq_ra_o hpy]
        exact e2
      rw [a]
      rw [k] at e3 ⊢
      exact bq_ra_g e3
    · by_cases b : f p = y
      · rw [b] at k
        have hpx : p ≠ par x := fun q => e (q.symm.trans k.symm)
        have e1 : bq_ra (par x) x y f p = y := by
          rw [bq_ra_o hpx]
          exact b
        have e2 : bq_ra (par y) y x (bq_ra (par x) x y f) p = x := by
          rw [k]
          exact bq_ra_g e1
        have e3 : bq_ra (par y) x y (bq_ra (par y) y x (bq_ra (par x) x y f)) p = y := by
          rw [k] at e2 ⊢
          exact bq_ra_g e2
        rw [bq_ra_o hpx, b]
        exact e3
      · have e1 : bq_ra (par x) x y f p = f p := bq_ra_n a
        have e2 : bq_ra (par y) y x (bq_ra (par x) x y f) p = f p := by
          rw [bq_ra_n (by rw [e1]; exact b)]
          exact e1
        have e3 : bq_ra (par y) x y (bq_ra (par y) y x (bq_ra (par x) x y f)) p = f p := by
          rw [bq_ra_n (by rw [e2]; exact a)]
          exact e2
        rw [bq_ra_n (by rw [e3]; exact b)]
        exact e3
end
theorem i_vc_keptBy {k : Nat} {u : SX} {v : SY} (I : i_Rel k u v) (hk : k + 4 ≤ 2049) (v1 : Int32) (v2 : Int32) : wpX_keptBy (fun r u' => wpY_keptBy (fun r' v' => r' = r ∧ i_Rel (k + 4) u' v') v v1 v2) u v1 v2 := by
  have I' : i_Rel (k + 4) u v := I
  obtain ⟨c, top, par, on, tw, code, pa, cd, co, ra, up, le, wa, we, sb, ow, ab, o, t, lo, mn, su, ot, rfl, rfl, H, hP, hC, hQ, hPC, hY, hco⟩ := I
  have c7 := bq_c7 H
  have c1 := bq_c1 H
  unfold wpX_keptBy wpY_keptBy
  dsimp only
  refine bx_refuse H hP (fun hn => ?_) (fun x hx e hn => ?_) (fun x y hx hy e e2 a => ?_) (fun x y hx hy e e2 a b => ?_) (fun x y hx hy e e2 a b => ?_)
  · exact br_f (by decide) (by_bad c7 v1 (fun z hz e => absurd e (hn z hz)) (fun _ => br_f (by decide) ⟨rfl, I'⟩))
  · rw [e]
    exact br_f (by decide) (by_bad_y c7 hx (br_t rfl (by_bad c7 v2 (fun z hz e => absurd e (hn z hz)) (fun _ => br_f (by decide) ⟨rfl, I'⟩))))
  · have x14 := bq_lt14 H hx
    rw [e, e2]
    exact br_f (by decide) (by_bad_y c7 hx (br_t rfl (by_bad_y c7 hy (br_t rfl (by_over H hQ (by omega) hy (fun _ => br_f (by decide) ⟨rfl, I'⟩) (fun q => absurd a q))))))
  · have x14 := bq_lt14 H hx
    have y14 := bq_lt14 H hy
    rw [e, e2]
    exact br_f (by decide) (by_bad_y c7 hx (br_t rfl (by_bad_y c7 hy (br_t rfl (by_over H hQ (by omega) hy (fun q => absurd q a) (fun _ => br_t rfl (by_over H hQ (by omega) hx (fun _ => br_f (by decide) ⟨rfl, I'⟩) (fun q => absurd b q))))))))
  · have x14 := bq_lt14 H hx
    have y14 := bq_lt14 H hy
    have xt := bq_ntop H hy a
    have yt := bq_ntop H hx b
    have xy : x ≠ y := fun q => a (by rw [q]; exact bq_A_rf y)
    have H2 := bq_wH H hx hy a b
    rw [e, e2]
    refine br_t rfl ⟨7, bx_k17 H hP (fun sb' hsb => ?_) 6 8 7 sb rfl (by omega) (by omega) (fun w a b => absurd b (by omega))⟩
    refine bx_exch c7 hx hy ⟨7, bx_k69 H2 (bq_wPA H hx hy xt yt hP) (F := bq_FB c top par) (fun w a b => ⟨hsb w a b, bq_FB128 c top par w⟩) ?_ 6 0 7 rfl (by omega)⟩
    refine bx_exch c7 hx hy ?_
    dsimp only
    rw [bq_upd2 xy, bq_count H H2]
    refine by_bad_y c7 hx (br_t rfl (by_bad_y c7 hy (br_t rfl (by_over H hQ (by omega) hy (fun q => absurd q a) (fun _ => br_t rfl (by_over H hQ (by omega) hx (fun q => absurd q b) (fun _ => br_t rfl ⟨c, ?_⟩)))))))
    refine by_k42 H hQ (fun ot' hot => ?_) (c - 1) 8 c ot (by omega) (by omega) (by omega) (fun w a b => absurd b (by omega))
    unfold wY_keptBy_76
    refine by_exch H hQ hPC hx hy xt yt (fun o1 t1 hPC1 => ⟨c, ?_⟩)
    have hQ1 := bq_wPA H hx hy xt yt hQ
    refine by_k88 H H2 hQ1 hot ?_ (c - 1) 0 c (by omega) (by omega)
    unfold wY_keptBy_148
    refine by_exch H2 hQ1 hPC1 hx hy xt yt (fun o2 t2 hPC2 => ⟨rfl, ?_⟩)
    rw [bq_upd2 xy]
    refine bq_mkR H hP hC hQ (fun p h8 h7 => ?_) hY hco
    obtain ⟨q1, q2⟩ := hPC2 p h8 h7
    rw [bq_wO2 xy on (fun p h8 h7 => (bq_on H h8 h7).2.2) p h8 h7] at q1
    rw [bq_wO2 xy tw (fun p h8 h7 => (bq_tw H h8 h7).2.2) p h8 h7] at q2
    exact ⟨q1, q2⟩
