/-! the component's walks for least, ways, states and weight -/
theorem bq_dgX : ∀ s, s < 4 → ∀ code, code < 256 → (nI code >>> ((2 * (3 - nI s)) &&& 31)) &&& 3 = nI (bq_dg code s) := by decide +kernel
theorem bq_i4 (z s : Nat) : nI z * 4 + nI s = nI (4 * z + s) := by
  rw [show (4 : Int32) = nI 4 from rfl, pk_mul, nI_add, Nat.mul_comm z 4]
theorem bq_j4 (z s : Nat) : 4 * nI z + nI s = nI (4 * z + s) := by
  rw [show (4 : Int32) = nI 4 from rfl, pk_mul, nI_add]
theorem bq_k4 (z : Nat) : nI z * 4 = nI (4 * z) := by
  rw [show (4 : Int32) = nI 4 from rfl, pk_mul, Nat.mul_comm z 4]
section
variable {c top site m : Nat} {par on tw d code g : Nat → Nat} {pa cd co ra up le wa sb : Nat → Int32} {we : Nat → Int64} {pin ps : Int32}
theorem bx_mayHave {post : Int32 → Prop} (hc : c ≤ 7) (hC : bq_CX c code cd) {z s site : Nat} (hz : z < 14) (hs : s < 4) (hi : site < 4)
    (h1 : (decide (c ≤ z) || decide (bq_dg (code z) site = s)) = true → post 1) (h0 : (decide (c ≤ z) || decide (bq_dg (code z) site = s)) = false → post 0) :
    wpX_mayHave post (nI c, pa, cd, co, ra, up, le, wa, we, sb) (nI z) (nI s) (nI site) := by
  unfold wpX_mayHave
  dsimp only
  by_cases hl : z < c
  · refine bx_isLeaf_y hc hl (br_f (by decide) ?_)
    unfold wpX_stateOf
    dsimp only
    obtain ⟨h256, e⟩ := hC z hl
    have b := bq_dg_lt (code z) site
    refine ⟨pk_in z 7 (by omega), ?_⟩
    rw [nI_clamp (by omega), e, bq_dgX site hi (code z) h256]
    have e1 : decide (c ≤ z) = false := decide_eq_false (by omega)
    rw [e1, Bool.false_or] at h1 h0
    exact pk_eq (bq_dg (code z) site) s (fun q => h1 (decide_eq_true q)) (fun q => h0 (decide_eq_false q))
  · refine bx_isLeaf_n hc hl (by omega) (br_t rfl (h1 ?_))
    rw [decide_eq_true (show c ≤ z by omega), Bool.true_or]
/-- what startCosts has done, below index i -/
def bq_SC (ok : Nat → Nat → Bool) (i : Nat) (le wa : Nat → Int32) : Prop := ∀ z s, s < 4 → 4 * z + s < i → le (4 * z + s) = (if ok z s = true then 0 else 1000000) ∧ wa (4 * z + s) = 1
theorem bq_SC_s {ok : Nat → Nat → Bool} {z s : Nat} (hs : s < 4) (h : bq_SC ok (4 * z + s) le wa) : bq_SC ok (4 * z + (s + 1)) (upd le (4 * z + s) (if ok z s = true then 0 else 1000000)) (upd wa (4 * z + s) 1) := by
  intro w i hi hw
  by_cases e : 4 * w + i = 4 * z + s
  · have e1 : w = z := by omega
    have e2 : i = s := by omega
    rw [e1, e2, pk_us, pk_us]
    exact ⟨rfl, rfl⟩
  · rw [pk_un e, pk_un e]
    exact h w i hi (by omega)
theorem bx_sc13 (hc : c ≤ 7) (hC : bq_CX c code cd) (hi : site < 4) {post : SX → Prop} {J3 : Int32 → (Nat → Int32) → (Nat → Int32) → (Nat → Int32) → (Nat → Int32) → (Nat → Int32) → (Nat → Int32) → (Nat → Int32) → (Nat → Int64) → (Nat → Int32) → Prop} {z : Nat} (hz : z < 14)
    (K : ∀ le' wa', bq_SC (bq_ok c site code pin ps) (4 * (z + 1)) le' wa' → J3 (nI (z + 1)) pa cd co ra up le' wa' we sb) :
    ∀ r s n le wa, s + r = 4 → r < n → bq_SC (bq_ok c site code pin ps) (4 * z + s) le wa → wX_startCosts_13 post J3 (nI site) pin ps (nI z) (nI c) n (nI s) pa cd co ra up le wa we sb := by
  intro r
  induction r with
  | zero =>
    intro s n le wa hs hn h
    obtain ⟨n', rfl⟩ : ∃ n', n = n' + 1 := ⟨n - 1, by omega⟩
    refine pk_le 4 s (fun _ => nm_r (nI_1 z) (K le wa ?_)) (fun q => absurd q (by omega))
    rw [show 4 * (z + 1) = 4 * z + s by omega]
    exact h
  | succ r ih =>
    intro s n le wa hs hn h
    obtain ⟨n', rfl⟩ : ∃ n', n = n' + 1 := ⟨n - 1, by omega⟩
    refine pk_le 4 s (fun q => absurd q (by omega)) (fun _ => ?_)
    have G : ∀ v, v = (if bq_ok c site code pin ps z s = true then 0 else 1000000) →
        wX_startCosts_72 post J3 (wX_startCosts_13 post J3 (nI site) pin ps (nI z) (nI c) n') (nI site) pin ps (nI z) (nI s) v ((nI z * 4) + nI s) (nI c) pa cd co ra up le wa we sb := by
      intro v hv
      unfold wX_startCosts_72
      rw [bq_i4, nI_clamp (by omega), hv]
      exact ⟨pk_in (4 * z + s) 56 (by omega), nm_e ⟨pk_in (4 * z + s) 56 (by omega), nm_e (nm_r (nI_1 s) (ih (s + 1) n' _ _ (by omega) (by omega) (bq_SC_s (by omega) h)))⟩⟩
    have M : (decide (nI z ≠ pin) || decide (nI s = ps)) = true → wX_startCosts_31 post J3 (wX_startCosts_13 post J3 (nI site) pin ps (nI z) (nI c) n') (nI site) pin ps (nI z) (nI s) (nI c) pa cd co ra up le wa we sb := by
      intro hp
      unfold wX_startCosts_31 wX_startCosts_36
      refine br_f (by decide) (bx_mayHave hc hC hz (by omega) hi (fun q => br_f (by decide) (G 0 ?_)) (fun q => br_t rfl ?_))
      · rw [bq_ok, hp, q]
        rfl
      · unfold wX_startCosts_70
        refine G 1000000 ?_
        rw [bq_ok, hp, q]
        rfl
    refine br_c (fun e1 => br_c (fun e2 => M ?_) (fun e2 => ?_)) (fun e1 => M ?_)
    · rw [decide_eq_true e2, Bool.or_true]
    · unfold wX_startCosts_36 wX_startCosts_70
      refine br_t rfl (G 1000000 ?_)
      rw [bq_ok, decide_eq_false (fun q => q e1), decide_eq_false e2]
      rfl
    · rw [decide_eq_true e1, Bool.true_or]
theorem bx_sc3 (hc : c ≤ 7) (hC : bq_CX c code cd) (hi : site < 4) {post : SX → Prop}
    (K : ∀ le' wa', bq_SC (bq_ok c site code pin ps) 56 le' wa' → post (nI c, pa, cd, co, ra, up, le', wa', we, sb)) :
    ∀ r z n le wa, z + r = 14 → r < n → bq_SC (bq_ok c site code pin ps) (4 * z) le wa → wX_startCosts_3 post (nI site) pin ps (nI c) n (nI z) pa cd co ra up le wa we sb := by
  intro r
  induction r with
  | zero =>
    intro z n le wa hz hn h
    obtain ⟨n', rfl⟩ : ∃ n', n = n' + 1 := ⟨n - 1, by omega⟩
    refine pk_le 14 z (fun _ => K le wa ?_) (fun q => absurd q (by omega))
    rw [show 56 = 4 * z by omega]
    exact h
  | succ r ih =>
    intro z n le wa hz hn h
    obtain ⟨n', rfl⟩ : ∃ n', n = n' + 1 := ⟨n - 1, by omega⟩
    refine pk_le 14 z (fun q => absurd q (by omega)) (fun _ => ⟨5, ?_⟩)
    exact bx_sc13 hc hC hi (by omega) (fun le' wa' h' => ih (z + 1) n' le' wa' (by omega) (by omega) h') 4 0 5 le wa rfl (by omega) h
theorem bx_startCosts (hc : c ≤ 7) (hC : bq_CX c code cd) (hi : site < 4) {post : SX → Prop}
    (K : ∀ le' wa', bq_SC (bq_ok c site code pin ps) 56 le' wa' → post (nI c, pa, cd, co, ra, up, le', wa', we, sb)) : wpX_startCosts post (nI c, pa, cd, co, ra, up, le, wa, we, sb) (nI site) pin ps :=
  ⟨15, bx_sc3 hc hC hi K 14 0 15 le wa rfl (by omega) (fun z s _ h => absurd h (by omega))⟩
/-- the list, while it grows: depth dep, node z is next -/
def bq_LI (c top : Nat) (d : Nat → Nat) (dep z m : Nat) (up : Nat → Int32) : Prop := ∃ g : Nat → Nat,
  (∀ j, j < m → up j = nI (g j) ∧ bq_V c (g j) ∧ g j ≠ top ∧ (dep < d (g j) ∨ (d (g j) = dep ∧ g j < z))) ∧
  (∀ i j, i < j → j < m → g i ≠ g j ∧ d (g j) ≤ d (g i)) ∧ (∀ w, bq_V c w → w ≠ top → (dep < d w ∨ (d w = dep ∧ w < z)) → ∃ j, j < m ∧ g j = w)
theorem bq_Lm (H : bq_T c top par on tw) (h1 : ∀ j, j < m → bq_V c (g j) ∧ g j ≠ top) (h2 : ∀ i j, i < j → j < m → g i ≠ g j) : m ≤ 13 := by
  have := bq_pig 14 (m + 1) (bq_up g m top) (fun i hi => by
    by_cases e : i = m
    · rw [e, bq_us]
      exact bq_lt14 H (bq_vt H)
    · rw [bq_un e]
      exact bq_lt14 H (h1 i (by omega)).1) (fun i j hi hj q => by
    by_cases ei : i = m
    · by_cases ej : j = m
      · omega
      · rw [ei, bq_us, bq_un ej] at q
        exact absurd q.symm (h1 j (by omega)).2
    · by_cases ej : j = m
      · rw [ej, bq_us, bq_un ei] at q
        exact absurd q (h1 i (by omega)).2
      · rw [bq_un ei, bq_un ej] at q
        rcases Nat.lt_trichotomy i j with r | r | r
        · exact absurd q (h2 i j r (by omega))
        · exact r
        · exact absurd q.symm (h2 j i r (by omega)))
  omega
theorem bq_LI_add (H : bq_T c top par on tw) (hD : bq_D c top par d) {dep z : Nat} (hz : bq_V c z) (hd : d z = dep + 1) (h : bq_LI c top d (dep + 1) z m up) : m < 13 ∧ bq_LI c top d (dep + 1) (z + 1) (m + 1) (upd up m (nI z)) := by
  obtain ⟨g, a, b, e⟩ := h
  have zt : z ≠ top := fun q => by
    have := hD.1
    rw [← q] at this
    omega
  have a' : ∀ j, j < m + 1 → (upd up m (nI z)) j = nI (bq_up g m z j) ∧ bq_V c (bq_up g m z j) ∧ bq_up g m z j ≠ top ∧ (dep + 1 < d (bq_up g m z j) ∨ (d (bq_up g m z j) = dep + 1 ∧ bq_up g m z j < z + 1)) := by
    intro j hj
    by_cases q : j = m
    · rw [q, pk_us, bq_us]
      exact ⟨rfl, hz, zt, Or.inr ⟨hd, by omega⟩⟩
    · rw [pk_un q, bq_un q]
      obtain ⟨a1, a2, a3, a4⟩ := a j (by omega)
      exact ⟨a1, a2, a3, by omega⟩
  have b' : ∀ i j, i < j → j < m + 1 → bq_up g m z i ≠ bq_up g m z j ∧ d (bq_up g m z j) ≤ d (bq_up g m z i) := by
    intro i j hij hj
    rw [bq_un (show i ≠ m by omega)]
    by_cases q : j = m
    · rw [q, bq_us]
      obtain ⟨_, _, _, a4⟩ := a i (by omega)
      refine ⟨fun r => ?_, by omega⟩
      rw [r] at a4
      omega
    · rw [bq_un q]
      exact b i j hij (by omega)
  refine ⟨?_, bq_up g m z, a', b', ?_⟩
  · have := bq_Lm (m := m + 1) (g := bq_up g m z) H (fun j hj => ⟨(a' j hj).2.1, (a' j hj).2.2.1⟩) (fun i j p q => (b' i j p q).1)
    omega
  · intro w hw wt hg
    by_cases q : w = z
    · exact ⟨m, by omega, by rw [bq_us, q]⟩
    · obtain ⟨j, hj, ej⟩ := e w hw wt (by omega)
      exact ⟨j, by omega, by rw [bq_un (by omega)]; exact ej⟩
theorem bq_LI_skip {dep z : Nat} (hz : bq_V c z → d z ≠ dep) (h : bq_LI c top d dep z m up) : bq_LI c top d dep (z + 1) m up := by
  obtain ⟨g, a, b, e⟩ := h
  refine ⟨g, fun j hj => ?_, b, fun w hw wt hg => ?_⟩
  · obtain ⟨a1, a2, a3, a4⟩ := a j hj
    exact ⟨a1, a2, a3, by omega⟩
  · by_cases q : w = z
    · rw [q] at hw hg
      have := hz hw
      rw [q]
      rw [q] at wt
      exact e z hw wt (by omega)
    · exact e w hw wt (by omega)
theorem bq_LI_next (H : bq_T c top par on tw) {dep : Nat} (h : bq_LI c top d (dep + 1) 14 m up) : bq_LI c top d dep 0 m up := by
  obtain ⟨g, a, b, e⟩ := h
  refine ⟨g, fun j hj => ?_, b, fun w hw wt hg => ?_⟩
  · obtain ⟨a1, a2, a3, a4⟩ := a j hj
    exact ⟨a1, a2, a3, by omega⟩
  · have := bq_lt14 H hw
    exact e w hw wt (by omega)
theorem bq_LI_0 (hD : bq_D c top par d) : bq_LI c top d 6 0 0 up :=
  ⟨fun _ => 0, fun j hj => absurd hj (by omega), fun i j _ hj => absurd hj (by omega), fun w hw _ hg => by
    have := hD.2.2 w hw
    omega⟩
theorem bq_LI_end (H : bq_T c top par on tw) (hD : bq_D c top par d) (h : bq_LI c top d 0 0 m up) : ∃ g : Nat → Nat, (∀ j, j < m → up j = nI (g j)) ∧ bq_G c top d g m := by
  obtain ⟨g, a, b, e⟩ := h
  refine ⟨g, fun j hj => (a j hj).1, fun j hj => ⟨(a j hj).2.1, (a j hj).2.2.1⟩, b, fun z hz zt => ?_, ?_⟩
  · have := hD.2.1 z hz zt
    exact e z hz zt (by omega)
  · exact bq_Lm H (fun j hj => ⟨(a j hj).2.1, (a j hj).2.2.1⟩) (fun i j p q => (b i j p q).1)
theorem bx_lu11 (H : bq_T c top par on tw) (hD : bq_D c top par d) (hP : bq_PA c top par pa) {post : Int32 → SX → Prop} {J5 : Int32 → Int32 → (Nat → Int32) → (Nat → Int32) → (Nat → Int32) → (Nat → Int32) → (Nat → Int32) → (Nat → Int32) → (Nat → Int32) → (Nat → Int64) → (Nat → Int32) → Prop} {dep : Nat} (h6 : dep < 6)
    (K : ∀ m' up', bq_LI c top d dep 0 m' up' → J5 (nI m') (nI dep) pa cd co ra up' le wa we sb) :
    ∀ r z n m up, z + r = 14 → r < n → bq_LI c top d (dep + 1) z m up → wX_listUpwards_11 post J5 (nI (dep + 1)) (nI c) n (nI m) (nI z) pa cd co ra up le wa we sb := by
  intro r
  induction r with
  | zero =>
    intro z n m up hz hn h
    obtain ⟨n', rfl⟩ : ∃ n', n = n' + 1 := ⟨n - 1, by omega⟩
    rw [show z = 14 by omega] at h
    exact pk_le 14 z (fun _ => nm_r (pk_m1 dep) (K m up (bq_LI_next H h))) (fun q => absurd q (by omega))
  | succ r ih =>
    intro z n m up hz hn h
    obtain ⟨n', rfl⟩ : ∃ n', n = n' + 1 := ⟨n - 1, by omega⟩
    have c7 := bq_c7 H
    refine pk_le 14 z (fun q => absurd q (by omega)) (fun _ => ?_)
    by_cases hv : bq_V c z
    · refine bx_isNode_y c7 hv (br_f (by decide) (bx_depth H hD hP hv ?_))
      have d6 := hD.2.2 z hv
      refine pk_eq (d z) (dep + 1) (fun e => ?_) (fun e => ?_)
      · obtain ⟨m13, h'⟩ := bq_LI_add H hD hv e h
        refine ⟨pk_in m 14 (by omega), nm_r (e' := upd up m (nI z)) (by rw [nI_clamp (by omega)]) (nm_r (nI_1 m) (nm_r (nI_1 z) (ih (z + 1) n' (m + 1) _ (by omega) (by omega) h')))⟩
      · exact nm_r (nI_1 z) (ih (z + 1) n' m up (by omega) (by omega) (bq_LI_skip (fun _ => e) h))
    · refine bx_isNode_n c7 hv (by omega) (br_t rfl ?_)
      exact nm_r (nI_1 z) (ih (z + 1) n' m up (by omega) (by omega) (bq_LI_skip (fun q => absurd q hv) h))
theorem bx_lu5 (H : bq_T c top par on tw) (hD : bq_D c top par d) (hP : bq_PA c top par pa) {post : Int32 → SX → Prop}
    (K : ∀ m' up', bq_LI c top d 0 0 m' up' → post (nI m') (nI c, pa, cd, co, ra, up', le, wa, we, sb)) :
    ∀ dep n m up, dep ≤ 6 → dep < n → bq_LI c top d dep 0 m up → wX_listUpwards_5 post (nI c) n (nI m) (nI dep) pa cd co ra up le wa we sb := by
  intro dep
  induction dep with
  | zero =>
    intro n m up _ hn h
    obtain ⟨n', rfl⟩ : ∃ n', n = n' + 1 := ⟨n - 1, by omega⟩
    exact br_t (by decide) (K m up h)
  | succ dep ih =>
    intro n m up h6 hn h
    obtain ⟨n', rfl⟩ : ∃ n', n = n' + 1 := ⟨n - 1, by omega⟩
    refine pk_le (dep + 1) 0 (fun q => absurd q (by omega)) (fun _ => ⟨15, ?_⟩)
    exact bx_lu11 H hD hP (by omega) (fun m' up' h' => ih n' m' up' (by omega) (by omega) h') 14 0 15 m up rfl (by omega) h
theorem bx_list (H : bq_T c top par on tw) (hD : bq_D c top par d) (hP : bq_PA c top par pa) {post : Int32 → SX → Prop}
    (K : ∀ m' up' g, (∀ j, j < m' → up' j = nI (g j)) → bq_G c top d g m' → post (nI m') (nI c, pa, cd, co, ra, up', le, wa, we, sb)) : wpX_listUpwards post (nI c, pa, cd, co, ra, up, le, wa, we, sb) := by
  refine ⟨7, bx_lu5 H hD hP (fun m' up' h => ?_) 6 7 0 up (by omega) (by omega) (bq_LI_0 hD)⟩
  obtain ⟨g, a, b⟩ := bq_LI_end H hD h
  exact K m' up' g a b
end
