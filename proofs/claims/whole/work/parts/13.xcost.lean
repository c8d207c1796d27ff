/-! carrying costs and weights up; leastCost; weight -/
section
variable {st : Int32} {co lo mn : Nat → Int32} {a b t : Nat}
theorem bq_l_1 (h : bq_l st co lo a b t ≤ co (a + t) + lo (b + t)) : bq_l st co lo a b (t + 1) = bq_l st co lo a b t := if_neg (Int32.not_lt.mpr h)
theorem bq_l_2 (h : ¬ bq_l st co lo a b t ≤ co (a + t) + lo (b + t)) : bq_l st co lo a b (t + 1) = co (a + t) + lo (b + t) := if_pos (Int32.not_le.mp h)
theorem bq_w_1 (h : bq_l st co lo a b t ≤ co (a + t) + lo (b + t)) (e : co (a + t) + lo (b + t) = bq_l st co lo a b t) : bq_w st co lo mn a b (t + 1) = bq_w st co lo mn a b t + mn (b + t) := by
  have h' := Int32.not_lt.mpr h
  simp only [bq_w, if_neg h', if_pos e]
theorem bq_w_2 (h : bq_l st co lo a b t ≤ co (a + t) + lo (b + t)) (e : ¬ co (a + t) + lo (b + t) = bq_l st co lo a b t) : bq_w st co lo mn a b (t + 1) = bq_w st co lo mn a b t := by
  have h' := Int32.not_lt.mpr h
  simp only [bq_w, if_neg h', if_neg e]
theorem bq_w_3 (h : ¬ bq_l st co lo a b t ≤ co (a + t) + lo (b + t)) : bq_w st co lo mn a b (t + 1) = 0 + mn (b + t) := by
  have h' := Int32.not_le.mp h
  simp only [bq_w, if_pos h', if_true]
end
section
variable {c top site m : Nat} {par on tw d code g : Nat → Nat} {pa cd co ra up le wa sb : Nat → Int32} {we : Nat → Int64} {pin ps : Int32}
theorem bx_cc26 {post : SX → Prop} {J11 : Int32 → (Nat → Int32) → (Nat → Int32) → (Nat → Int32) → (Nat → Int32) → (Nat → Int32) → (Nat → Int32) → (Nat → Int32) → (Nat → Int64) → (Nat → Int32) → Prop} {k p s : Nat} (hk : k < 14) (hp : p < 14) (hs : s < 4)
    (K : J11 (nI (s + 1)) pa cd co ra up (upd le (4 * p + s) (le (4 * p + s) + bq_l 2000000 co le (4 * s) (4 * k) 4)) (upd wa (4 * p + s) (wa (4 * p + s) * bq_w 2000000 co le wa (4 * s) (4 * k) 4)) we sb) :
    ∀ r t n, t + r = 4 → r < n → wX_carryCostsUp_26 post J11 (nI k) (nI (4 * p)) (nI s) (nI c) pa cd co ra up le wa we sb n (bq_l 2000000 co le (4 * s) (4 * k) t) (bq_w 2000000 co le wa (4 * s) (4 * k) t) (nI t) := by
  intro r
  induction r with
  | zero =>
    intro t n ht hn
    obtain ⟨n', rfl⟩ : ∃ n', n = n' + 1 := ⟨n - 1, by omega⟩
    obtain rfl : t = 4 := by omega
    refine br_t (by decide) ?_
    rw [nI_add, nI_clamp (by omega)]
    exact ⟨pk_in (4 * p + s) 56 (by omega), pk_in (4 * p + s) 56 (by omega), nm_e ⟨pk_in (4 * p + s) 56 (by omega), pk_in (4 * p + s) 56 (by omega), nm_e (nm_r (nI_1 s) K)⟩⟩
  | succ r ih =>
    intro t n ht hn
    obtain ⟨n', rfl⟩ : ∃ n', n = n' + 1 := ⟨n - 1, by omega⟩
    have key := ih (t + 1) n' (by omega) (by omega)
    refine pk_le 4 t (fun q => absurd q (by omega)) (fun _ => ?_)
    rw [bq_i4, bq_i4, nI_clamp (by omega), nI_clamp (by omega)]
    refine ⟨pk_in (4 * s + t) 16 (by omega), pk_in (4 * k + t) 56 (by omega), nm_e ?_⟩
    refine br_c (fun h => ?_) (fun h => ?_)
    · unfold wX_carryCostsUp_71
      rw [bq_i4, nI_clamp (by omega)]
      rw [bq_l_1 h] at key
      refine br_c (fun e => ⟨pk_in (4 * k + t) 56 (by omega), nm_e (nm_r (nI_1 t) ?_)⟩) (fun e => nm_r (nI_1 t) ?_)
      · rw [bq_w_1 h e] at key
        exact key
      · rw [bq_w_2 h e] at key
        exact key
    · unfold wX_carryCostsUp_71
      rw [bq_i4, nI_clamp (by omega)]
      rw [bq_l_2 h, bq_w_3 h] at key
      exact br_t rfl ⟨pk_in (4 * k + t) 56 (by omega), nm_e (nm_r (nI_1 t) key)⟩
/-- after s of the four states of p have been carried to -/
def bq_CI (co le wa : Nat → Int32) (k p s : Nat) (le' wa' : Nat → Int32) : Prop :=
  (∀ i, i < s → le' (4 * p + i) = le (4 * p + i) + bq_l 2000000 co le (4 * i) (4 * k) 4 ∧ wa' (4 * p + i) = wa (4 * p + i) * bq_w 2000000 co le wa (4 * i) (4 * k) 4) ∧
  (∀ w i, i < 4 → (w ≠ p ∨ s ≤ i) → le' (4 * w + i) = le (4 * w + i) ∧ wa' (4 * w + i) = wa (4 * w + i))
theorem bq_CI_s {k p s : Nat} {le' wa' : Nat → Int32} (hkp : k ≠ p) (hs : s < 4) (h : bq_CI co le wa k p s le' wa') :
    bq_CI co le wa k p (s + 1) (upd le' (4 * p + s) (le' (4 * p + s) + bq_l 2000000 co le' (4 * s) (4 * k) 4)) (upd wa' (4 * p + s) (wa' (4 * p + s) * bq_w 2000000 co le' wa' (4 * s) (4 * k) 4)) := by
  have e1 : bq_l 2000000 co le' (4 * s) (4 * k) 4 = bq_l 2000000 co le (4 * s) (4 * k) 4 := bq_l_cg 4 (fun i hi => (h.2 k i hi (Or.inl hkp)).1)
  have e2 : bq_w 2000000 co le' wa' (4 * s) (4 * k) 4 = bq_w 2000000 co le wa (4 * s) (4 * k) 4 := bq_w_cg 4 (fun i hi => (h.2 k i hi (Or.inl hkp)).1) (fun i hi => (h.2 k i hi (Or.inl hkp)).2)
  refine ⟨fun i hi => ?_, fun w i hi hw => ?_⟩
  · by_cases e : i = s
    · rw [e, pk_us, pk_us, e1, e2, (h.2 p s hs (Or.inr (Nat.le_refl _))).1, (h.2 p s hs (Or.inr (Nat.le_refl _))).2]
      exact ⟨rfl, rfl⟩
    · rw [pk_un (by omega), pk_un (by omega)]
      exact h.1 i (by omega)
  · rw [pk_un (by omega), pk_un (by omega)]
    exact h.2 w i hi (by omega)
theorem bx_cc11 {post : SX → Prop} {k p : Nat} (hk : k < 14) (hp : p < 14) (hkp : k ≠ p)
    (K : ∀ le' wa', bq_CI co le wa k p 4 le' wa' → post (nI c, pa, cd, co, ra, up, le', wa', we, sb)) :
    ∀ r s n le' wa', s + r = 4 → r < n → bq_CI co le wa k p s le' wa' → wX_carryCostsUp_11 post (nI k) (nI (4 * p)) (nI c) n (nI s) pa cd co ra up le' wa' we sb := by
  intro r
  induction r with
  | zero =>
    intro s n le' wa' hs hn h
    obtain ⟨n', rfl⟩ : ∃ n', n = n' + 1 := ⟨n - 1, by omega⟩
    obtain rfl : s = 4 := by omega
    exact br_t (by decide) (K le' wa' h)
  | succ r ih =>
    intro s n le' wa' hs hn h
    obtain ⟨n', rfl⟩ : ∃ n', n = n' + 1 := ⟨n - 1, by omega⟩
    refine pk_le 4 s (fun q => absurd q (by omega)) (fun _ => ⟨5, ?_⟩)
    exact bx_cc26 hk hp (by omega) (ih (s + 1) n' _ _ (by omega) (by omega) (bq_CI_s hkp (by omega) h)) 4 0 5 rfl (by omega)
theorem bx_carry (H : bq_T c top par on tw) (hP : bq_PA c top par pa) {k : Nat} (hk : bq_V c k) (kt : k ≠ top) {post : SX → Prop}
    (K : ∀ le' wa', bq_CI co le wa k (par k) 4 le' wa' → post (nI c, pa, cd, co, ra, up, le', wa', we, sb)) : wpX_carryCostsUp post (nI c, pa, cd, co, ra, up, le, wa, we, sb) (nI k) := by
  have k14 := bq_lt14 H hk
  have p14 := bq_lt14 H (bq_pv H hk kt)
  have kp : k ≠ par k := fun q => bq_par_nA H hk kt (by rw [← q]; exact bq_A_rf k)
  refine ⟨pk_in k 14 k14, nm_r (e' := nI (4 * par k)) ?_ ⟨5, ?_⟩⟩
  · rw [nI_clamp (by omega), hP k hk, bq_en_n kt, bq_k4]
  · exact bx_cc11 k14 p14 kp K 4 0 5 le wa rfl (by omega) ⟨fun i hi => absurd hi (by omega), fun _ _ _ _ => ⟨rfl, rfl⟩⟩
theorem bx_lc60 {post : Int32 → SX → Prop} {tp : Nat} (htp : tp < 14) {lc : Int32} (K : post (bq_m4 (le (4 * tp)) le (4 * tp + 1) 3) (lc, pa, cd, co, ra, up, le, wa, we, sb)) :
    ∀ r j n, j + r = 3 → r < n → wX_leastCost_60 post (nI (4 * tp)) lc pa cd co ra up le wa we sb n (bq_m4 (le (4 * tp)) le (4 * tp + 1) j) (nI (1 + j)) := by
  intro r
  induction r with
  | zero =>
    intro j n hj hn
    obtain ⟨n', rfl⟩ : ∃ n', n = n' + 1 := ⟨n - 1, by omega⟩
    obtain rfl : j = 3 := by omega
    exact br_t (by decide) K
  | succ r ih =>
    intro j n hj hn
    obtain ⟨n', rfl⟩ : ∃ n', n = n' + 1 := ⟨n - 1, by omega⟩
    have key := ih (j + 1) n' (by omega) (by omega)
    have ej : nI (1 + j) + 1 = nI (1 + (j + 1)) := nI_1 (1 + j)
    refine pk_le 4 (1 + j) (fun q => absurd q (by omega)) (fun _ => ?_)
    rw [nI_add, nI_clamp (by omega), ← Nat.add_assoc]
    refine ⟨pk_in (4 * tp + 1 + j) 56 (by omega), ?_⟩
    refine br_c (fun h => nm_r ej ?_) (fun h => ⟨pk_in (4 * tp + 1 + j) 56 (by omega), nm_e (nm_r ej ?_)⟩)
    · rw [show bq_m4 (le (4 * tp)) le (4 * tp + 1) (j + 1) = bq_m4 (le (4 * tp)) le (4 * tp + 1) j from if_neg (Int32.not_lt.mpr h)] at key
      exact key
    · rw [show bq_m4 (le (4 * tp)) le (4 * tp + 1) (j + 1) = le (4 * tp + 1 + j) from if_pos (Int32.not_le.mp h)] at key
      exact key
theorem bx_lc16 (H : bq_T c top par on tw) (hD : bq_D c top par d) (hP : bq_PA c top par pa) {ok : Nat → Nat → Bool} {post : Int32 → SX → Prop}
    (hu : ∀ j, j < m → up j = nI (g j)) (hG : bq_G c top d g m)
    (K : ∀ le' wa', bq_XS c on tw ok co le' wa' → post (bq_m4 (le' (4 * top)) le' (4 * top + 1) 3) (nI c, pa, cd, co, ra, up, le', wa', we, sb)) :
    ∀ r i n le wa, i + r = m → r < n → bq_XI c on tw ok co g i le wa → wX_leastCost_16 post (nI m) n (nI i) (nI c) pa cd co ra up le wa we sb := by
  have m13 := hG.2.2.2
  intro r
  induction r with
  | zero =>
    intro i n le wa hi hn h
    obtain ⟨n', rfl⟩ : ∃ n', n = n' + 1 := ⟨n - 1, by omega⟩
    obtain rfl : i = m := by omega
    have t14 := bq_lt14 H (bq_vt H)
    refine br_t (nI_le (Nat.le_refl _) (by omega)) (bx_root H hP (nm_r (bq_k4 top) ?_))
    refine ⟨pk_in (4 * top) 56 (by omega), nm_r (e' := le (4 * top)) (by rw [nI_clamp (by omega)]) ⟨4, ?_⟩⟩
    exact bx_lc60 t14 (K le wa (bq_XI_m H hG h)) 3 0 4 rfl (by omega)
  | succ r ih =>
    intro i n le wa hi hn h
    obtain ⟨n', rfl⟩ : ∃ n', n = n' + 1 := ⟨n - 1, by omega⟩
    refine pk_le m i (fun q => absurd q (by omega)) (fun _ => ⟨pk_in i 14 (by omega), ?_⟩)
    rw [nI_clamp (by omega), hu i (by omega)]
    obtain ⟨vk, kt⟩ := hG.1 i (by omega)
    refine bx_carry H hP vk kt (fun le' wa' h' => ?_)
    refine nm_r (nI_1 i) (ih (i + 1) n' le' wa' (by omega) (by omega) ?_)
    exact bq_XI_s H hD hG (by omega) h (fun s hs => (h'.1 s hs).1) (fun s hs => (h'.1 s hs).2) (fun z s hs hz => h'.2 z s hs (Or.inl hz))
theorem bx_leastCost (H : bq_T c top par on tw) (hP : bq_PA c top par pa) (hC : bq_CX c code cd) (hi : site < 4) {post : Int32 → SX → Prop}
    (K : ∀ up' le' wa', bq_XS c on tw (bq_ok c site code pin ps) co le' wa' → post (bq_m4 (le' (4 * top)) le' (4 * top + 1) 3) (nI c, pa, cd, co, ra, up', le', wa', we, sb)) : wpX_leastCost post (nI c, pa, cd, co, ra, up, le, wa, we, sb) (nI site) pin ps := by
  obtain ⟨d, hD⟩ := bq_ex H
  have c7 := bq_c7 H
  unfold wpX_leastCost
  dsimp only
  refine bx_startCosts c7 hC hi (fun le1 wa1 h1 => ?_)
  refine bx_list H hD hP (fun m up' g hu hG => ?_)
  refine ⟨m + 1, bx_lc16 H hD hP hu hG (fun le' wa' h => K up' le' wa' h) m 0 (m + 1) le1 wa1 (by omega) (by omega) ?_⟩
  refine bq_XI_0 (fun z hz s hs => h1 z s hs ?_)
  have := bq_lt14 H hz
  omega
/-- weights -/
def bq_SW (ok : Nat → Nat → Bool) (i : Nat) (we : Nat → Int64) : Prop := ∀ z s, s < 4 → 4 * z + s < i → we (4 * z + s) = (if ok z s = true then 1 else 0)
theorem bq_SW_s {ok : Nat → Nat → Bool} {z s : Nat} (hs : s < 4) (h : bq_SW ok (4 * z + s) we) : bq_SW ok (4 * z + (s + 1)) (vp_updL we (4 * z + s) (if ok z s = true then 1 else 0)) := by
  intro w i hi hw
  by_cases e : 4 * w + i = 4 * z + s
  · have e1 : w = z := by omega
    have e2 : i = s := by omega
    rw [e1, e2, pk_uLs]
  · rw [pk_uLn e]
    exact h w i hi (by omega)
theorem bx_sw10 (hc : c ≤ 7) (hC : bq_CX c code cd) (hi : site < 4) {post : SX → Prop} {J2 : Int32 → (Nat → Int32) → (Nat → Int32) → (Nat → Int32) → (Nat → Int32) → (Nat → Int32) → (Nat → Int32) → (Nat → Int32) → (Nat → Int64) → (Nat → Int32) → Prop} {z : Nat} (hz : z < 14)
    (K : ∀ we', bq_SW (bq_ok c site code (-1) 0) (4 * (z + 1)) we' → J2 (nI (z + 1)) pa cd co ra up le wa we' sb) :
    ∀ r s n we, s + r = 4 → r < n → bq_SW (bq_ok c site code (-1) 0) (4 * z + s) we → wX_startWeights_10 post J2 (nI site) (nI z) (nI c) n (nI s) pa cd co ra up le wa we sb := by
  intro r
  induction r with
  | zero =>
    intro s n we hs hn h
    obtain ⟨n', rfl⟩ : ∃ n', n = n' + 1 := ⟨n - 1, by omega⟩
    refine pk_le 4 s (fun _ => nm_r (nI_1 z) (K we ?_)) (fun q => absurd q (by omega))
    rw [show 4 * (z + 1) = 4 * z + s by omega]
    exact h
  | succ r ih =>
    intro s n we hs hn h
    obtain ⟨n', rfl⟩ : ∃ n', n = n' + 1 := ⟨n - 1, by omega⟩
    have key := ih (s + 1) n' _ (by omega) (by omega) (bq_SW_s (by omega) h)
    rw [bq_ok_u (by omega)] at key
    refine pk_le 4 s (fun q => absurd q (by omega)) (fun _ => ?_)
    rw [bq_i4, nI_clamp (by omega)]
    refine bx_mayHave hc hC hz (by omega) hi (fun q => br_f (by decide) ⟨pk_in (4 * z + s) 56 (by omega), nm_e (nm_r (nI_1 s) ?_)⟩) (fun q => br_t rfl ⟨pk_in (4 * z + s) 56 (by omega), nm_e (nm_r (nI_1 s) ?_)⟩)
    · rw [q, if_pos rfl] at key
      exact key
    · rw [q, if_neg (by decide)] at key
      exact key
theorem bx_sw2 (hc : c ≤ 7) (hC : bq_CX c code cd) (hi : site < 4) {post : SX → Prop}
    (K : ∀ we', bq_SW (bq_ok c site code (-1) 0) 56 we' → post (nI c, pa, cd, co, ra, up, le, wa, we', sb)) :
    ∀ r z n we, z + r = 14 → r < n → bq_SW (bq_ok c site code (-1) 0) (4 * z) we → wX_startWeights_2 post (nI site) (nI c) n (nI z) pa cd co ra up le wa we sb := by
  intro r
  induction r with
  | zero =>
    intro z n we hz hn h
    obtain ⟨n', rfl⟩ : ∃ n', n = n' + 1 := ⟨n - 1, by omega⟩
    refine pk_le 14 z (fun _ => K we ?_) (fun q => absurd q (by omega))
    rw [show 56 = 4 * z by omega]
    exact h
  | succ r ih =>
    intro z n we hz hn h
    obtain ⟨n', rfl⟩ : ∃ n', n = n' + 1 := ⟨n - 1, by omega⟩
    refine pk_le 14 z (fun q => absurd q (by omega)) (fun _ => ⟨5, ?_⟩)
    exact bx_sw10 hc hC hi (by omega) (fun we' h' => ih (z + 1) n' we' (by omega) (by omega) h') 4 0 5 we rfl (by omega) h
theorem bx_cw22 {post : SX → Prop} {J11 : Int32 → (Nat → Int32) → (Nat → Int32) → (Nat → Int32) → (Nat → Int32) → (Nat → Int32) → (Nat → Int32) → (Nat → Int32) → (Nat → Int64) → (Nat → Int32) → Prop} {k p s : Nat} (hk : k < 14) (hp : p < 14) (hs : s < 4)
    (K : J11 (nI (s + 1)) pa cd co ra up le wa (vp_updL we (4 * p + s) (we (4 * p + s) * bq_s ra we (4 * s) (4 * k) 4)) sb) :
    ∀ r t n, t + r = 4 → r < n → wX_carryWeightsUp_22 post J11 (nI k) (nI (4 * p)) (nI s) (nI c) pa cd co ra up le wa we sb n (bq_s ra we (4 * s) (4 * k) t) (nI t) := by
  intro r
  induction r with
  | zero =>
    intro t n ht hn
    obtain ⟨n', rfl⟩ : ∃ n', n = n' + 1 := ⟨n - 1, by omega⟩
    obtain rfl : t = 4 := by omega
    refine br_t (by decide) ?_
    rw [nI_add, nI_clamp (by omega)]
    exact ⟨pk_in (4 * p + s) 56 (by omega), pk_in (4 * p + s) 56 (by omega), nm_e (nm_r (nI_1 s) K)⟩
  | succ r ih =>
    intro t n ht hn
    obtain ⟨n', rfl⟩ : ∃ n', n = n' + 1 := ⟨n - 1, by omega⟩
    have key := ih (t + 1) n' (by omega) (by omega)
    refine pk_le 4 t (fun q => absurd q (by omega)) (fun _ => ?_)
    rw [bq_i4, bq_i4, nI_clamp (by omega), nI_clamp (by omega)]
    exact ⟨pk_in (4 * s + t) 16 (by omega), pk_in (4 * k + t) 56 (by omega), nm_e (nm_r (nI_1 t) key)⟩
def bq_CW (ra : Nat → Int32) (we : Nat → Int64) (k p s : Nat) (we' : Nat → Int64) : Prop :=
  (∀ i, i < s → we' (4 * p + i) = we (4 * p + i) * bq_s ra we (4 * i) (4 * k) 4) ∧ (∀ w i, i < 4 → (w ≠ p ∨ s ≤ i) → we' (4 * w + i) = we (4 * w + i))
theorem bq_CW_s {k p s : Nat} {we' : Nat → Int64} (hkp : k ≠ p) (hs : s < 4) (h : bq_CW ra we k p s we') :
    bq_CW ra we k p (s + 1) (vp_updL we' (4 * p + s) (we' (4 * p + s) * bq_s ra we' (4 * s) (4 * k) 4)) := by
  have e1 : bq_s ra we' (4 * s) (4 * k) 4 = bq_s ra we (4 * s) (4 * k) 4 := bq_s_cg 4 (fun i hi => h.2 k i hi (Or.inl hkp))
  refine ⟨fun i hi => ?_, fun w i hi hw => ?_⟩
  · by_cases e : i = s
    · rw [e, pk_uLs, e1, h.2 p s hs (Or.inr (Nat.le_refl _))]
    · rw [pk_uLn (by omega)]
      exact h.1 i (by omega)
  · rw [pk_uLn (by omega)]
    exact h.2 w i hi (by omega)
theorem bx_cw11 {post : SX → Prop} {k p : Nat} (hk : k < 14) (hp : p < 14) (hkp : k ≠ p)
    (K : ∀ we', bq_CW ra we k p 4 we' → post (nI c, pa, cd, co, ra, up, le, wa, we', sb)) :
    ∀ r s n we', s + r = 4 → r < n → bq_CW ra we k p s we' → wX_carryWeightsUp_11 post (nI k) (nI (4 * p)) (nI c) n (nI s) pa cd co ra up le wa we' sb := by
  intro r
  induction r with
  | zero =>
    intro s n we' hs hn h
    obtain ⟨n', rfl⟩ : ∃ n', n = n' + 1 := ⟨n - 1, by omega⟩
    obtain rfl : s = 4 := by omega
    exact br_t (by decide) (K we' h)
  | succ r ih =>
    intro s n we' hs hn h
    obtain ⟨n', rfl⟩ : ∃ n', n = n' + 1 := ⟨n - 1, by omega⟩
    refine pk_le 4 s (fun q => absurd q (by omega)) (fun _ => ⟨5, ?_⟩)
    exact bx_cw22 hk hp (by omega) (ih (s + 1) n' _ (by omega) (by omega) (bq_CW_s hkp (by omega) h)) 4 0 5 rfl (by omega)
theorem bx_carryW (H : bq_T c top par on tw) (hP : bq_PA c top par pa) {k : Nat} (hk : bq_V c k) (kt : k ≠ top) {post : SX → Prop}
    (K : ∀ we', bq_CW ra we k (par k) 4 we' → post (nI c, pa, cd, co, ra, up, le, wa, we', sb)) : wpX_carryWeightsUp post (nI c, pa, cd, co, ra, up, le, wa, we, sb) (nI k) := by
  have k14 := bq_lt14 H hk
  have p14 := bq_lt14 H (bq_pv H hk kt)
  have kp : k ≠ par k := fun q => bq_par_nA H hk kt (by rw [← q]; exact bq_A_rf k)
  refine ⟨pk_in k 14 k14, nm_r (e' := nI (4 * par k)) ?_ ⟨5, ?_⟩⟩
  · rw [nI_clamp (by omega), hP k hk, bq_en_n kt, bq_k4]
  · exact bx_cw11 k14 p14 kp K 4 0 5 we rfl (by omega) ⟨fun i hi => absurd hi (by omega), fun _ _ _ _ => rfl⟩
/-- the sum of n longs -/
def bq_sL (we : Nat → Int64) (b : Nat) : Nat → Int64
  | 0 => 0
  | t + 1 => bq_sL we b t + we (b + t)
theorem bx_w58 {post : Int64 → SX → Prop} {tp : Nat} (htp : tp < 14) {lc : Int32} (K : post (bq_sL we (4 * tp) 4) (lc, pa, cd, co, ra, up, le, wa, we, sb)) :
    ∀ r j n, j + r = 4 → r < n → wX_weight_58 post (nI (4 * tp)) lc pa cd co ra up le wa we sb n (bq_sL we (4 * tp) j) (nI j) := by
  intro r
  induction r with
  | zero =>
    intro j n hj hn
    obtain ⟨n', rfl⟩ : ∃ n', n = n' + 1 := ⟨n - 1, by omega⟩
    obtain rfl : j = 4 := by omega
    exact br_t (by decide) K
  | succ r ih =>
    intro j n hj hn
    obtain ⟨n', rfl⟩ : ∃ n', n = n' + 1 := ⟨n - 1, by omega⟩
    have key := ih (j + 1) n' (by omega) (by omega)
    refine pk_le 4 j (fun q => absurd q (by omega)) (fun _ => ?_)
    rw [nI_add, nI_clamp (by omega)]
    exact ⟨pk_in (4 * tp + j) 56 (by omega), nm_e (nm_r (nI_1 j) key)⟩
theorem bx_w24 (H : bq_T c top par on tw) (hD : bq_D c top par d) (hP : bq_PA c top par pa) {ok : Nat → Nat → Bool} {post : Int64 → SX → Prop}
    (hu : ∀ j, j < m → up j = nI (g j)) (hG : bq_G c top d g m)
    (K : ∀ we', bq_XW c on tw ok ra we' → post (bq_sL we' (4 * top) 4) (nI c, pa, cd, co, ra, up, le, wa, we', sb)) :
    ∀ r i n we, i + r = m → r < n → bq_XK c on tw ok ra g i we → wX_weight_24 post (nI m) n (nI i) (nI c) pa cd co ra up le wa we sb := by
  have m13 := hG.2.2.2
  intro r
  induction r with
  | zero =>
    intro i n we hi hn h
    obtain ⟨n', rfl⟩ : ∃ n', n = n' + 1 := ⟨n - 1, by omega⟩
    obtain rfl : i = m := by omega
    have t14 := bq_lt14 H (bq_vt H)
    refine br_t (nI_le (Nat.le_refl _) (by omega)) (bx_root H hP (nm_r (bq_k4 top) ⟨5, ?_⟩))
    exact bx_w58 t14 (K we (bq_XK_m H hG h)) 4 0 5 rfl (by omega)
  | succ r ih =>
    intro i n we hi hn h
    obtain ⟨n', rfl⟩ : ∃ n', n = n' + 1 := ⟨n - 1, by omega⟩
    refine pk_le m i (fun q => absurd q (by omega)) (fun _ => ⟨pk_in i 14 (by omega), ?_⟩)
    rw [nI_clamp (by omega), hu i (by omega)]
    obtain ⟨vk, kt⟩ := hG.1 i (by omega)
    refine bx_carryW H hP vk kt (fun we' h' => ?_)
    refine nm_r (nI_1 i) (ih (i + 1) n' we' (by omega) (by omega) ?_)
    exact bq_XK_s H hD hG (by omega) h (fun s hs => h'.1 s hs) (fun z s hs hz => h'.2 z s hs (Or.inl hz))
theorem bx_weight (H : bq_T c top par on tw) (hP : bq_PA c top par pa) (hC : bq_CX c code cd) {x : Int32} {post : Int64 → SX → Prop}
    (K0 : (∀ k, k < 4 → x ≠ nI k) → post (-1) (nI c, pa, cd, co, ra, up, le, wa, we, sb))
    (K : ∀ site, site < 4 → x = nI site → ∀ up' we', bq_XW c on tw (bq_ok c site code (-1) 0) ra we' → post (bq_sL we' (4 * top) 4) (nI c, pa, cd, co, ra, up', le, wa, we', sb)) : wpX_weight post (nI c, pa, cd, co, ra, up, le, wa, we, sb) x := by
  obtain ⟨d, hD⟩ := bq_ex H
  have c7 := bq_c7 H
  unfold wpX_weight
  dsimp only
  refine bx_isSite x (fun site hi e => br_f (by decide) ?_) (fun hn => br_t rfl (K0 hn))
  rw [e]
  refine ⟨15, bx_sw2 c7 hC hi (fun we1 h1 => ?_) 14 0 15 we rfl (by omega) (fun z s _ h => absurd h (by omega))⟩
  refine bx_list H hD hP (fun m up' g hu hG => ?_)
  refine ⟨m + 1, bx_w24 H hD hP hu hG (fun we' h => K site hi e up' we' h) m 0 (m + 1) we1 (by omega) (by omega) ?_⟩
  refine bq_XK_0 (fun z hz s hs => h1 z s hs ?_)
  have := bq_lt14 H hz
  omega
end
