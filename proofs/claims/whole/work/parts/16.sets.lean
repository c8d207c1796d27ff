/-! cost, rate, attach, mutate, swap -/
theorem bq_co_u {co : Nat → Int32} {i : Nat} {v : Int32} (hco : ∀ i, i < 16 → ∃ k, k ≤ 9 ∧ co i = nI k) (h0 : ¬ v < 0) (h9 : v ≤ 9) : ∀ j, j < 16 → ∃ k, k ≤ 9 ∧ upd co i v j = nI k := by
  intro j hj
  by_cases e : j = i
  · rw [e, pk_us]
    obtain ⟨q, hq, rfl⟩ := nI_of h0
    refine ⟨q, ?_, rfl⟩
    have := (nI_leI (b := 9) hq (by omega)).mp h9
    omega
  · rw [pk_un e]
    exact hco j hj
theorem i_vc_cost {k : Nat} {u : SX} {v : SY} (I : i_Rel k u v) (hk : k + 4 ≤ 2049) (v1 : Int32) (v2 : Int32) (v3 : Int32) : wpX_cost (fun r u' => wpY_cost (fun r' v' => r' = r ∧ i_Rel (k + 4) u' v') v v1 v2 v3) u v1 v2 v3 := by
  have I' : i_Rel (k + 4) u v := I
  obtain ⟨c, top, par, on, tw, code, pa, cd, co, ra, up, le, wa, we, sb, ow, ab, o, t, lo, mn, su, ot, rfl, rfl, H, hP, hC, hQ, hPC, hY, hco⟩ := I
  unfold wpX_cost wpY_cost
  dsimp only
  refine bx_isState v1 (fun a ha e => br_f (by decide) ?_) (fun hn => br_t rfl (by_badState v1 (fun z hz e => absurd e (hn z hz)) (fun _ => br_f (by decide) ⟨rfl, I'⟩)))
  have Y1 : ∀ {Q : Int32 → Prop}, Q 0 → wpY_badState Q (nI c, nI top, ow, ab, o, t, co, ra, lo, mn, su, ot) v1 := fun q => by_badState v1 (fun _ _ _ => q) (fun hn => absurd e (hn a ha))
  refine bx_isState v2 (fun b hb e2 => br_f (by decide) ?_) (fun hn => br_t rfl (Y1 (br_t rfl (by_badState v2 (fun z hz e => absurd e (hn z hz)) (fun _ => br_f (by decide) ⟨rfl, I'⟩)))))
  have Y2 : ∀ {Q : Int32 → Prop}, Q 0 → wpY_badState Q (nI c, nI top, ow, ab, o, t, co, ra, lo, mn, su, ot) v2 := fun q => by_badState v2 (fun _ _ _ => q) (fun hn => absurd e2 (hn b hb))
  refine br_c (fun h => Y1 (br_t rfl (Y2 (br_t rfl (br_t h ⟨rfl, I'⟩))))) (fun h => br_c (fun h9 => ?_) (fun h9 => Y1 (br_t rfl (Y2 (br_t rfl (br_f h (br_f h9 ⟨rfl, I'⟩)))))))
  have ex : (v1 * 4) + v2 = nI (4 * a + b) := by rw [e, e2, bq_i4]
  have ey : (4 * v1) + v2 = nI (4 * a + b) := by rw [e, e2, bq_j4]
  rw [ex, ey, nI_clamp (by omega)]
  have hi : vp_in (nI (4 * a + b)) 16 := pk_in (4 * a + b) 16 (by omega)
  exact ⟨hi, nm_e ⟨hi, nm_e (Y1 (br_t rfl (Y2 (br_t rfl (br_f h (br_t h9 ⟨hi, nm_e ⟨hi, nm_e ⟨rfl, bq_mkR H hP hC hQ hPC hY (bq_co_u hco h h9)⟩⟩⟩))))))⟩⟩
theorem i_vc_rate {k : Nat} {u : SX} {v : SY} (I : i_Rel k u v) (hk : k + 4 ≤ 2049) (v1 : Int32) (v2 : Int32) (v3 : Int32) : wpX_rate (fun r u' => wpY_rate (fun r' v' => r' = r ∧ i_Rel (k + 4) u' v') v v1 v2 v3) u v1 v2 v3 := by
  have I' : i_Rel (k + 4) u v := I
  obtain ⟨c, top, par, on, tw, code, pa, cd, co, ra, up, le, wa, we, sb, ow, ab, o, t, lo, mn, su, ot, rfl, rfl, H, hP, hC, hQ, hPC, hY, hco⟩ := I
  unfold wpX_rate wpY_rate
  dsimp only
  refine bx_isState v1 (fun a ha e => br_f (by decide) ?_) (fun hn => br_t rfl (by_badState v1 (fun z hz e => absurd e (hn z hz)) (fun _ => br_f (by decide) ⟨rfl, I'⟩)))
  have Y1 : ∀ {Q : Int32 → Prop}, Q 0 → wpY_badState Q (nI c, nI top, ow, ab, o, t, co, ra, lo, mn, su, ot) v1 := fun q => by_badState v1 (fun _ _ _ => q) (fun hn => absurd e (hn a ha))
  refine bx_isState v2 (fun b hb e2 => br_f (by decide) ?_) (fun hn => br_t rfl (Y1 (br_t rfl (by_badState v2 (fun z hz e => absurd e (hn z hz)) (fun _ => br_f (by decide) ⟨rfl, I'⟩)))))
  have Y2 : ∀ {Q : Int32 → Prop}, Q 0 → wpY_badState Q (nI c, nI top, ow, ab, o, t, co, ra, lo, mn, su, ot) v2 := fun q => by_badState v2 (fun _ _ _ => q) (fun hn => absurd e2 (hn b hb))
  refine br_c (fun h => Y1 (br_t rfl (Y2 (br_t rfl (br_t h ⟨rfl, I'⟩))))) (fun h => br_c (fun h9 => ?_) (fun h9 => Y1 (br_t rfl (Y2 (br_t rfl (br_f h (br_f h9 ⟨rfl, I'⟩)))))))
  have ex : (v1 * 4) + v2 = nI (4 * a + b) := by rw [e, e2, bq_i4]
  have ey : (4 * v1) + v2 = nI (4 * a + b) := by rw [e, e2, bq_j4]
  rw [ex, ey, nI_clamp (by omega)]
  have hi : vp_in (nI (4 * a + b)) 16 := pk_in (4 * a + b) 16 (by omega)
  exact ⟨hi, nm_e ⟨hi, nm_e (Y1 (br_t rfl (Y2 (br_t rfl (br_f h (br_t h9 ⟨hi, nm_e ⟨hi, nm_e ⟨rfl, bq_mkR H hP hC hQ hPC hY hco⟩⟩⟩))))))⟩⟩
theorem bq_CX_u {c c' l cde : Nat} {code : Nat → Nat} {cd : Nat → Int32} (hl : ∀ i, i < c' → i ≠ l → i < c) (hC : bq_CX c code cd) (h : cde < 256) : bq_CX c' (bq_up code l cde) (upd cd l (nI cde)) := by
  intro i hi
  by_cases e : i = l
  · rw [e, bq_us, pk_us]
    exact ⟨h, rfl⟩
  · rw [bq_un e, pk_un e]
    exact hC i (hl i hi e)
theorem bq_CY_u {c c' l cde : Nat} {code : Nat → Nat} {ow : Nat → Int32} (hl : ∀ i, i < c' → i ≠ l → i < c) (hY : bq_CY c code ow) : bq_CY c' (bq_up code l cde) (bq_gv ow l cde 0 4) := by
  intro i hi s hs
  rw [bq_gv_at l cde 4 0 ow i s (by omega) hs]
  by_cases e : i = l
  · rw [if_pos ⟨e, by omega, by omega⟩, e, bq_us]
  · rw [if_neg (fun q => e q.1), bq_un e]
    exact hY i (hl i hi e) s hs
theorem i_vc_attach {k : Nat} {u : SX} {v : SY} (I : i_Rel k u v) (hk : k + 4 ≤ 2049) (v1 : Int32) (v2 : Int32) : wpX_attach (fun r u' => wpY_attach (fun r' v' => r' = r ∧ i_Rel (k + 4) u' v') v v1 v2) u v1 v2 := by
  have I' : i_Rel (k + 4) u v := I
  obtain ⟨c, top, par, on, tw, code, pa, cd, co, ra, up, le, wa, we, sb, ow, ab, o, t, lo, mn, su, ot, rfl, rfl, H, hP, hC, hQ, hPC, hY, hco⟩ := I
  have c7 := bq_c7 H
  unfold wpX_attach wpY_attach
  dsimp only
  refine bx_isNode c7 v1 (fun z hz e => br_f (by decide) ?_) (fun hn => br_t rfl (by_bad c7 v1 (fun z hz e => absurd e (hn z hz)) (fun _ => br_f (by decide) ⟨rfl, I'⟩)))
  rw [e]
  refine bx_isLeafCode v2 (fun cde h256 e2 => br_f (by decide) ?_) (fun hn => br_t rfl (by_bad_y c7 hz (br_t rfl (by_badStates v2 (fun z hz e => absurd e (hn z hz)) (fun _ => br_f (by decide) ⟨rfl, I'⟩)))))
  rw [e2]
  have Y1 : ∀ {Q : Int32 → Prop}, Q 0 → wpY_badStates Q (nI c, nI top, ow, ab, o, t, co, ra, lo, mn, su, ot) (nI cde) := fun q => by_badStates (nI cde) (fun _ _ _ => q) (fun hn => absurd rfl (hn cde h256))
  refine pk_eq c 7 (fun h => by_bad_y c7 hz (br_t rfl (Y1 (br_t rfl (br_f (nI_ge (b := c) (a := 6) (by omega) (by omega)) ⟨rfl, I'⟩))))) (fun h => ?_)
  have hc : c < 7 := by omega
  refine bx_add hc hz ?_
  refine by_bad_y c7 hz (br_t rfl (Y1 (br_t rfl (br_t (nI_le (b := 6) (by omega) (by omega)) (by_putIn H hQ hPC hc hz h256 (fun o' t' hPC' => ?_))))))
  refine ⟨nI_pred c, ?_⟩
  exact bq_mkR (bq_aH H hc hz) (bq_aPA H hc hz hP) (bq_CX_u (by omega) hC h256) (bq_aPA H hc hz hQ) hPC' (bq_CY_u (by omega) hY) hco
theorem i_vc_mutate {k : Nat} {u : SX} {v : SY} (I : i_Rel k u v) (hk : k + 4 ≤ 2049) (v1 : Int32) (v2 : Int32) : wpX_mutate (fun r u' => wpY_mutate (fun r' v' => r' = r ∧ i_Rel (k + 4) u' v') v v1 v2) u v1 v2 := by
  have I' : i_Rel (k + 4) u v := I
  obtain ⟨c, top, par, on, tw, code, pa, cd, co, ra, up, le, wa, we, sb, ow, ab, o, t, lo, mn, su, ot, rfl, rfl, H, hP, hC, hQ, hPC, hY, hco⟩ := I
  have c7 := bq_c7 H
  unfold wpX_mutate wpY_mutate
  dsimp only
  refine bx_isLeaf c7 v1 (fun z hz e => br_f (by decide) ?_) (fun hn => br_t rfl ?_)
  · rw [e]
    have Y0 : ∀ {Q R : Prop}, Q → ((6 < nI z → R) ∧ (¬ 6 < nI z → Q)) := fun q => br_f (nI_nlt (b := z) (a := 6) (by omega) (by omega)) q
    refine bx_isLeafCode v2 (fun cde h256 e2 => br_f (by decide) ?_) (fun hn => br_t rfl (Y0 (by_bad_y c7 (Or.inl hz) (br_t rfl (by_badStates v2 (fun z hz e => absurd e (hn z hz)) (fun _ => br_f (by decide) ⟨rfl, I'⟩))))))
    rw [e2]
    have Y1 : ∀ {Q : Int32 → Prop}, Q 0 → wpY_badStates Q (nI c, nI top, ow, ab, o, t, co, ra, lo, mn, su, ot) (nI cde) := fun q => by_badStates (nI cde) (fun _ _ _ => q) (fun hn => absurd rfl (hn cde h256))
    obtain ⟨z256, ez⟩ := hC z hz
    have hi : vp_in (nI z) 7 := pk_in z 7 (by omega)
    rw [nI_clamp (by omega), ez]
    refine ⟨hi, nm_e ⟨hi, nm_e ?_⟩⟩
    refine Y0 (by_bad_y c7 (Or.inl hz) (br_t rfl (Y1 (br_t rfl (by_held (by omega) z256 (hY z hz) (by_give (by omega) h256 ⟨rfl, ?_⟩))))))
    exact bq_mkR H hP (bq_CX_u (fun i hi _ => hi) hC h256) hQ hPC (bq_CY_u (fun i hi _ => hi) hY) hco
  · refine br_c (fun _ => ⟨rfl, I'⟩) (fun h6 => by_bad c7 v1 (fun z hz e => ?_) (fun _ => br_f (by decide) ⟨rfl, I'⟩))
    have z14 := bq_lt14 H hz
    rcases hz with q | q
    · exact absurd e (hn z q)
    · rw [e] at h6
      exact absurd (nI_lt (a := 6) (b := z) (by omega) (by omega)) h6
section
variable {c top : Nat} {par on tw code : Nat → Nat} {pa cd co ra up le wa : Nat → Int32} {we : Nat → Int64} {sb : Nat → Int32}
theorem bx_refuse (H : bq_T c top par on tw) (hP : bq_PA c top par pa) {v1 v2 : Int32} {post : Int32 → Prop} (h1 : (∀ z, bq_V c z → v1 ≠ nI z) → post (-1))
    (h2 : ∀ x, bq_V c x → v1 = nI x → (∀ z, bq_V c z → v2 ≠ nI z) → post (-1))
    (h3 : ∀ x y, bq_V c x → bq_V c y → v1 = nI x → v2 = nI y → bq_A top par x y → post (-2))
    (h4 : ∀ x y, bq_V c x → bq_V c y → v1 = nI x → v2 = nI y → ¬ bq_A top par x y → bq_A top par y x → post (-2))
    (h5 : ∀ x y, bq_V c x → bq_V c y → v1 = nI x → v2 = nI y → ¬ bq_A top par x y → ¬ bq_A top par y x → post 0) : wpX_refusalOfSwap post (nI c, pa, cd, co, ra, up, le, wa, we, sb) v1 v2 := by
  have c7 := bq_c7 H
  unfold wpX_refusalOfSwap
  dsimp only
  refine bx_isNode c7 v1 (fun x hx e => br_f (by decide) ?_) (fun hn => br_t rfl (h1 hn))
  refine bx_isNode c7 v2 (fun y hy e2 => br_f (by decide) ?_) (fun hn => br_t rfl (h2 x hx e hn))
  have x14 := bq_lt14 H hx
  have y14 := bq_lt14 H hy
  have k3 := h3 x y hx hy e e2
  have k4 := h4 x y hx hy e e2
  have k5 := h5 x y hx hy e e2
  rw [e, e2]
  exact bx_above H hP (by omega) hy (fun a => br_f (by decide) (k3 a)) (fun a => br_t rfl (bx_above H hP (by omega) hx (fun b => br_f (by decide) (k4 a b)) (fun b => br_t rfl (k5 a b))))
end
theorem i_vc_swap {k : Nat} {u : SX} {v : SY} (I : i_Rel k u v) (hk : k + 4 ≤ 2049) (v1 : Int32) (v2 : Int32) : wpX_swap (fun r u' => wpY_swap (fun r' v' => r' = r ∧ i_Rel (k + 4) u' v') v v1 v2) u v1 v2 := by
  have I' : i_Rel (k + 4) u v := I
  obtain ⟨c, top, par, on, tw, code, pa, cd, co, ra, up, le, wa, we, sb, ow, ab, o, t, lo, mn, su, ot, rfl, rfl, H, hP, hC, hQ, hPC, hY, hco⟩ := I
  have c7 := bq_c7 H
  unfold wpX_swap wpY_swap
  dsimp only
  refine bx_refuse H hP (fun hn => ?_) (fun x hx e hn => ?_) (fun x y hx hy e e2 a => ?_) (fun x y hx hy e e2 a b => ?_) (fun x y hx hy e e2 a b => ?_)
  · exact br_f (by decide) (by_bad c7 v1 (fun z hz e => absurd e (hn z hz)) (fun _ => br_f (by decide) ⟨rfl, I'⟩))
  · rw [e]
    exact br_f (by decide) (by_bad_y c7 hx (br_t rfl (by_bad c7 v2 (fun z hz e => absurd e (hn z hz)) (fun _ => br_f (by decide) ⟨rfl, I'⟩))))
  · have x14 := bq_lt14 H hx
    rw [e, e2]
    exact br_f (by decide) (by_bad_y c7 hx (br_t rfl (by_bad_y c7 hy (br_t rfl (by_over H hQ (by omega) hy (fun _ => br_f (by decide) ⟨rfl, I'⟩) (fun q => absurd a q))))))
  · have x14 := bq_lt14 H hx
    have y14 := bq_lt14 H hy
    rw [e, e2]
    exact br_f (by decide) (by_bad_y c7 hx (br_t rfl (by_bad_y c7 hy (br_t rfl (by_over H hQ (by omega) hy (fun q => absurd q a) (fun _ => br_t rfl (by_over H hQ (by omega) hx (fun _ => br_f (by decide) ⟨rfl, I'⟩) (fun q => absurd b q))))))))
  · have x14 := bq_lt14 H hx
    have y14 := bq_lt14 H hy
    have xt := bq_ntop H hy a
    have yt := bq_ntop H hx b
    rw [e, e2]
    refine br_t rfl (bx_exch c7 hx hy ?_)
    refine by_bad_y c7 hx (br_t rfl (by_bad_y c7 hy (br_t rfl (by_over H hQ (by omega) hy (fun q => absurd q a) (fun _ => br_t rfl (by_over H hQ (by omega) hx (fun q => absurd q b) (fun _ => br_t rfl (by_exch H hQ hPC hx hy xt yt (fun o' t' hPC' => ⟨rfl, ?_⟩)))))))))
    exact bq_mkR (bq_wH H hx hy a b) (bq_wPA H hx hy xt yt hP) hC (bq_wPA H hx hy xt yt hQ) hPC' hY hco
