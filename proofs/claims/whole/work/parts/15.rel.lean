/-! the relation, and the methods that only look at the tree -/
def i_Rel (_ : Nat) (u : SX) (v : SY) : Prop :=
  ∃ (c top : Nat) (par on tw code : Nat → Nat) (pa cd co ra up le wa : Nat → Int32) (we : Nat → Int64) (sb ow ab o t lo mn : Nat → Int32) (su : Nat → Int64) (ot : Nat → Int32),
    u = (nI c, pa, cd, co, ra, up, le, wa, we, sb) ∧ v = (nI c, nI top, ow, ab, o, t, co, ra, lo, mn, su, ot) ∧ bq_T c top par on tw ∧ bq_PA c top par pa ∧ bq_CX c code cd ∧ bq_PA c top par ab ∧ bq_PC c on tw o t ∧ bq_CY c code ow ∧ (∀ i, i < 16 → ∃ k, k ≤ 9 ∧ co i = nI k)
section
variable {k c top : Nat} {par on tw code : Nat → Nat} {pa cd co ra up le wa : Nat → Int32} {we : Nat → Int64} {sb ow ab o t lo mn : Nat → Int32} {su : Nat → Int64} {ot : Nat → Int32}
theorem bq_mkR (H : bq_T c top par on tw) (hP : bq_PA c top par pa) (hC : bq_CX c code cd) (hQ : bq_PA c top par ab) (hPC : bq_PC c on tw o t) (hY : bq_CY c code ow) (hco : ∀ i, i < 16 → ∃ k, k ≤ 9 ∧ co i = nI k) : i_Rel k (nI c, pa, cd, co, ra, up, le, wa, we, sb) (nI c, nI top, ow, ab, o, t, co, ra, lo, mn, su, ot) :=
  ⟨c, top, par, on, tw, code, pa, cd, co, ra, up, le, wa, we, sb, ow, ab, o, t, lo, mn, su, ot, rfl, rfl, H, hP, hC, hQ, hPC, hY, hco⟩
end
theorem i_up {k : Nat} {u : SX} {v : SY} (h : i_Rel k u v) : i_Rel (k + 4) u v := h
theorem i_vc_leaves {k : Nat} {u : SX} {v : SY} (I : i_Rel k u v) (hk : k + 4 ≤ 2049) : wpX_leaves (fun r => wpY_leaves (fun r' => r' = r ∧ i_Rel (k + 4) u v) v) u := by
  have I' : i_Rel (k + 4) u v := I
  obtain ⟨c, top, par, on, tw, code, pa, cd, co, ra, up, le, wa, we, sb, ow, ab, o, t, lo, mn, su, ot, rfl, rfl, H, hP, hC, hQ, hPC, hY, hco⟩ := I
  exact ⟨rfl, I'⟩
theorem i_vc_root {k : Nat} {u : SX} {v : SY} (I : i_Rel k u v) (hk : k + 4 ≤ 2049) : wpX_root (fun r => wpY_root (fun r' => r' = r ∧ i_Rel (k + 4) u v) v) u := by
  have I' : i_Rel (k + 4) u v := I
  obtain ⟨c, top, par, on, tw, code, pa, cd, co, ra, up, le, wa, we, sb, ow, ab, o, t, lo, mn, su, ot, rfl, rfl, H, hP, hC, hQ, hPC, hY, hco⟩ := I
  exact bx_root H hP ⟨rfl, I'⟩
theorem i_vc_parent {k : Nat} {u : SX} {v : SY} (I : i_Rel k u v) (hk : k + 4 ≤ 2049) (v1 : Int32) : wpX_parent (fun r => wpY_parent (fun r' => r' = r ∧ i_Rel (k + 4) u v) v v1) u v1 := by
  have I' : i_Rel (k + 4) u v := I
  obtain ⟨c, top, par, on, tw, code, pa, cd, co, ra, up, le, wa, we, sb, ow, ab, o, t, lo, mn, su, ot, rfl, rfl, H, hP, hC, hQ, hPC, hY, hco⟩ := I
  have c7 := bq_c7 H
  unfold wpX_parent wpY_parent
  dsimp only
  refine bx_isNode c7 v1 (fun z hz e => br_f (by decide) ?_) (fun hn => br_t rfl ?_)
  · have z14 := bq_lt14 H hz
    have t14 := bq_lt14 H (bq_vt H)
    rw [e, nI_clamp (by omega), hP z hz]
    refine ⟨pk_in z 14 z14, ?_⟩
    by_cases et : z = top
    · refine br_t (by rw [et, bq_en_t]) (by_bad_y c7 hz (br_t rfl (br_t (by rw [et]) ⟨rfl, I'⟩)))
    · have p14 := bq_lt14 H (bq_pv H hz et)
      refine br_f (by rw [bq_en_n et]; exact bq_nm1 (by omega)) ⟨pk_in z 14 z14, by_bad_y c7 hz (br_t rfl (br_f (fun q => et ((nI_eq (by omega) (by omega)).mp q)) ⟨pk_in z 16 (by omega), ?_, I'⟩))⟩
      exact hQ z hz
  · exact by_bad c7 v1 (fun z hz e => absurd e (hn z hz)) (fun _ => br_f (by decide) ⟨rfl, I'⟩)
theorem i_vc_leavesBelow {k : Nat} {u : SX} {v : SY} (I : i_Rel k u v) (hk : k + 4 ≤ 2049) (v1 : Int32) : wpX_leavesBelow (fun r => wpY_leavesBelow (fun r' => r' = r ∧ i_Rel (k + 4) u v) v v1) u v1 := by
  have I' : i_Rel (k + 4) u v := I
  obtain ⟨c, top, par, on, tw, code, pa, cd, co, ra, up, le, wa, we, sb, ow, ab, o, t, lo, mn, su, ot, rfl, rfl, H, hP, hC, hQ, hPC, hY, hco⟩ := I
  have c7 := bq_c7 H
  unfold wpX_leavesBelow wpY_leavesBelow
  dsimp only
  refine bx_isNode c7 v1 (fun z hz e => br_f (by decide) ?_) (fun hn => br_t rfl ?_)
  · have z14 := bq_lt14 H hz
    rw [e]
    exact bx_set H hP (by omega) (by_bad_y c7 hz (br_t rfl (by_below H hQ (by omega) ⟨rfl, I'⟩)))
  · exact by_bad c7 v1 (fun z hz e => absurd e (hn z hz)) (fun _ => br_f (by decide) ⟨rfl, I'⟩)
/-- the meeting: the first at or above z that is at or above y -/
def bq_me (top : Nat) (par : Nat → Nat) (y : Nat) : Nat → Nat → Nat
  | 0, z => z
  | n + 1, z => if bq_A top par z y then z else bq_me top par y n (par z)
section
variable {c top : Nat} {par on tw d : Nat → Nat} {pa cd co ra up le wa : Nat → Int32} {we : Nat → Int64} {sb ow ab o t lo mn : Nat → Int32} {su : Nat → Int64} {ot : Nat → Int32}
theorem bq_me_t (H : bq_T c top par on tw) {y : Nat} (hy : bq_V c y) : ∀ n, bq_me top par y n top = top := by
  intro n
  cases n with
  | zero => rfl
  | succ n => exact if_pos (bq_A_all H y hy)
theorem bq_me_st (H : bq_T c top par on tw) (hD : bq_D c top par d) {y : Nat} (hy : bq_V c y) : ∀ n m z, bq_V c z → d z ≤ n → d z ≤ m → bq_me top par y n z = bq_me top par y m z := by
  intro n
  induction n with
  | zero =>
    intro m z hz h0 _
    rw [bq_d0 hD hz (by omega), bq_me_t H hy, bq_me_t H hy]
  | succ n ih =>
    intro m z hz h0 h1
    by_cases et : z = top
    · rw [et, bq_me_t H hy, bq_me_t H hy]
    · have hd := hD.2.1 z hz et
      obtain ⟨m', rfl⟩ : ∃ m', m = m' + 1 := ⟨m - 1, by omega⟩
      show (if bq_A top par z y then z else bq_me top par y n (par z)) = (if bq_A top par z y then z else bq_me top par y m' (par z))
      rw [ih m' (par z) (bq_pv H hz et) (by omega) (by omega)]
theorem bx_meet23 (H : bq_T c top par on tw) (hP : bq_PA c top par pa) {post : Int32 → Prop} {lc : Int32} {y : Nat} (hy : bq_V c y) :
    ∀ m z k n, bq_V c z → k + m = 6 → m < n → post (nI (bq_me top par y m z)) → wX_meet_23 post (nI y) lc pa cd co ra up le wa we sb n (nI z) (nI k) := by
  intro m
  induction m with
  | zero =>
    intro z k n hz hk hn h
    obtain ⟨n', rfl⟩ : ∃ n', n = n' + 1 := ⟨n - 1, by omega⟩
    exact pk_le 6 k (fun _ => h) (fun q => absurd q (by omega))
  | succ m ih =>
    intro z k n hz hk hn h
    obtain ⟨n', rfl⟩ : ∃ n', n = n' + 1 := ⟨n - 1, by omega⟩
    have z14 := bq_lt14 H hz
    refine pk_le 6 k (fun q => absurd q (by omega)) (fun _ => ?_)
    refine bx_above H hP (by omega) hy (fun hA => br_f (by decide) ?_) (fun hA => br_t rfl ?_)
    · rw [show bq_me top par y (m + 1) z = z from if_pos hA] at h
      exact h
    · rw [show bq_me top par y (m + 1) z = bq_me top par y m (par z) from if_neg hA] at h
      have zt := bq_ntop H hy hA
      refine ⟨pk_in z 14 z14, nm_r (e' := nI (par z)) ?_ (nm_r (nI_1 k) (ih (par z) (k + 1) n' (bq_pv H hz zt) (by omega) (by omega) h))⟩
      rw [nI_clamp (by omega), hP z hz, bq_en_n zt]
theorem by_meet23 (H : bq_T c top par on tw) (hQ : bq_PA c top par ab) {post : Int32 → Prop} {ct tp : Int32} {y : Nat} (hy : bq_V c y) :
    ∀ m z k n, bq_V c z → k + m = 16 → m < n → post (nI (bq_me top par y m z)) → wY_meet_23 post (nI y) ct tp ow ab o t co ra lo mn su ot n (nI z) (nI k) := by
  intro m
  induction m with
  | zero =>
    intro z k n hz hk hn h
    obtain ⟨n', rfl⟩ : ∃ n', n = n' + 1 := ⟨n - 1, by omega⟩
    exact pk_le 16 k (fun _ => h) (fun q => absurd q (by omega))
  | succ m ih =>
    intro z k n hz hk hn h
    obtain ⟨n', rfl⟩ : ∃ n', n = n' + 1 := ⟨n - 1, by omega⟩
    have z14 := bq_lt14 H hz
    refine pk_le 16 k (fun q => absurd q (by omega)) (fun _ => ?_)
    refine by_over H hQ (by omega) hy (fun hA => br_f (by decide) ?_) (fun hA => br_t rfl ?_)
    · rw [show bq_me top par y (m + 1) z = z from if_pos hA] at h
      exact h
    · rw [show bq_me top par y (m + 1) z = bq_me top par y m (par z) from if_neg hA] at h
      have zt := bq_ntop H hy hA
      have p14 := bq_lt14 H (bq_pv H hz zt)
      rw [nI_clamp (by omega), hQ z hz, bq_en_n zt]
      exact ⟨pk_in z 16 (by omega), br_t (nI_pos' (by omega)) ⟨pk_in z 16 (by omega), nm_e (nm_r (nI_1 k) (ih (par z) (k + 1) n' (bq_pv H hz zt) (by omega) (by omega) h))⟩⟩
end
theorem i_vc_meet {k : Nat} {u : SX} {v : SY} (I : i_Rel k u v) (hk : k + 4 ≤ 2049) (v1 : Int32) (v2 : Int32) : wpX_meet (fun r => wpY_meet (fun r' => r' = r ∧ i_Rel (k + 4) u v) v v1 v2) u v1 v2 := by
  have I' : i_Rel (k + 4) u v := I
  obtain ⟨c, top, par, on, tw, code, pa, cd, co, ra, up, le, wa, we, sb, ow, ab, o, t, lo, mn, su, ot, rfl, rfl, H, hP, hC, hQ, hPC, hY, hco⟩ := I
  have c7 := bq_c7 H
  obtain ⟨d, hD⟩ := bq_ex H
  unfold wpX_meet wpY_meet
  dsimp only
  refine bx_isNode c7 v1 (fun x hx e => br_f (by decide) ?_) (fun hn => br_t rfl ?_)
  · refine bx_isNode c7 v2 (fun y hy e2 => br_f (by decide) ?_) (fun hn => br_t rfl ?_)
    · rw [e, e2]
      have d6 := hD.2.2 x hx
      refine ⟨7, bx_meet23 H hP hy 6 x 0 7 hx rfl (by omega) ?_⟩
      refine by_bad_y c7 hx (br_t rfl (by_bad_y c7 hy (br_t rfl ⟨17, by_meet23 H hQ hy 16 x 0 17 hx rfl (by omega) ⟨?_, ?_⟩⟩)))
      · rw [bq_me_st H hD hy 16 6 x hx (by omega) (by omega)]
      · exact I'
    · rw [e]
      exact by_bad_y c7 hx (br_t rfl (by_bad c7 v2 (fun z hz e => absurd e (hn z hz)) (fun _ => br_f (by decide) ⟨rfl, I'⟩)))
  · exact by_bad c7 v1 (fun z hz e => absurd e (hn z hz)) (fun _ => br_f (by decide) ⟨rfl, I'⟩)
