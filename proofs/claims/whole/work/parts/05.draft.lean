/-! the draft's methods, and reading -/
theorem rg_c (p : Int32) (n : Nat) (hn : n < 2 ^ 31) : (∀ j, j < n → p ≠ nI j) ∨ ∃ j, j < n ∧ p = nI j := by
  rcases pk_ix p hn with h | h | h
  · exact Or.inl (fun j hj e => nI_pos (by omega) (e ▸ h))
  · refine Or.inl (fun j hj e => ?_)
    rw [e] at h
    exact nI_ge hj hn h
  · exact Or.inr h
theorem rg_lt {p f : Int32} {A B : Prop} (n : Nat) (ha : (∀ j, j < n → p ≠ nI j) → A) (hb : ∀ j, j < n → p = nI j → B) (hf : f = nI n := by rfl) (hn : n < 2 ^ 31 := by omega) : (p < 0 → A) ∧ (¬ p < 0 → ((p < f → B) ∧ (¬ p < f → A))) := by
  subst hf
  refine br_c (fun h => ha (fun j hj e => nI_pos (by omega) (e ▸ h))) (fun h => ?_)
  obtain ⟨j, hj, rfl⟩ := nI_of h
  refine pk_lt j n (fun h => hb j h rfl) (fun h => ha (fun q hq e => ?_))
  rw [nI_eq hj (by omega)] at e
  omega
theorem rg_le {p f : Int32} {A B : Prop} (n : Nat) (ha : (∀ j, j < n + 1 → p ≠ nI j) → A) (hb : ∀ j, j < n + 1 → p = nI j → B) (hf : f = nI n := by rfl) (hn : n < 2 ^ 30 := by omega) : (p < 0 → A) ∧ (¬ p < 0 → ((p ≤ f → B) ∧ (¬ p ≤ f → A))) := by
  subst hf
  refine br_c (fun h => ha (fun j hj e => nI_pos (by omega) (e ▸ h))) (fun h => ?_)
  obtain ⟨j, hj, rfl⟩ := nI_of h
  refine pk_le j n (fun h => hb j (by omega) rfl) (fun h => ha (fun q hq e => ?_))
  rw [nI_eq hj (by omega)] at e
  omega
theorem rg_ge {p f : Int32} {A B : Prop} (n : Nat) (ha : (∀ j, j < n → p ≠ nI j) → A) (hb : ∀ j, j < n → p = nI j → B) (hf : f = nI n := by rfl) (hn : n < 2 ^ 31 := by omega) : (p < 0 → A) ∧ (¬ p < 0 → ((f ≤ p → A) ∧ (¬ f ≤ p → B))) := by
  subst hf
  refine br_c (fun h => ha (fun j hj e => nI_pos (by omega) (e ▸ h))) (fun h => ?_)
  obtain ⟨j, hj, rfl⟩ := nI_of h
  refine pk_le n j (fun h => ha (fun q hq e => ?_)) (fun h => hb j h rfl)
  rw [nI_eq hj (by omega)] at e
  omega
theorem rg_no {p : Int32} {n j : Nat} {P : Prop} (h : ∀ j, j < n → p ≠ nI j) (hj : j < n) (e : p = nI j) : P := absurd e (h j hj)
def ex_n (g : Nat → Nat) (n j : Nat) : Nat → Nat := fun s => if s = n then j else g s
theorem ex_s {g : Nat → Nat} {n j : Nat} : ex_n g n j n = j := if_pos rfl
theorem ex_o {g : Nat → Nat} {n j s : Nat} (h : s < n) : ex_n g n j s = g s := if_neg (by omega)
theorem ex_us {f : Nat → Int32} {n : Nat} {x : Int32} (hn : n < 2 ^ 31) : upd f (nI n).toNatClampNeg x n = x := by rw [nI_clamp hn]; exact pk_us
theorem ex_uo {f : Nat → Int32} {n s : Nat} {x : Int32} (hn : n < 2 ^ 31) (h : s < n) : upd f (nI n).toNatClampNeg x s = f s := by rw [nI_clamp hn]; exact pk_un (by omega)
theorem bz_b (v : Int32) : ∃ b, lw_bz v = bo_i b := by
  rcases lw_bz_01 v with h | h
  · exact ⟨false, h⟩
  · exact ⟨true, h⟩
section
variable {opY soY coY ouY kyY liY diY cmY rrY wiY : Int32} {ceY oceY bceY rsY : Nat → Int64} {maY omaY bmaY unY rqY bunY brqY rfY acY brfY bacY srY csY ccY cpY cwY okY osY ocY koY ciY kfY cbY goY geY keY : Nat → Int32} {post : Int32 → SY → Prop} {ns nc no nk : Nat}
theorem yv_source {p : Int32} (h3 : ns ≤ 3) (hb : (∀ j, j < 3 → p ≠ nI j) → post (-1) (opY, nI ns, coY, ouY, kyY, liY, diY, cmY, rrY, wiY, ceY, oceY, bceY, maY, omaY, bmaY, unY, rqY, bunY, brqY, rfY, acY, brfY, bacY, srY, csY, ccY, cpY, cwY, okY, osY, ocY, koY, ciY, kfY, cbY, goY, rsY, geY, keY)) (hf : ∀ j, j < 3 → p = nI j → ns = 3 → post (-2) (opY, nI ns, coY, ouY, kyY, liY, diY, cmY, rrY, wiY, ceY, oceY, bceY, maY, omaY, bmaY, unY, rqY, bunY, brqY, rfY, acY, brfY, bacY, srY, csY, ccY, cpY, cwY, okY, osY, ocY, koY, ciY, kfY, cbY, goY, rsY, geY, keY)) (hi : ∀ j, j < 3 → p = nI j → ns < 3 → post (nI (ns + 1) - 1) (opY, nI (ns + 1), coY, ouY, kyY, liY, diY, cmY, rrY, wiY, ceY, oceY, bceY, maY, omaY, bmaY, unY, rqY, bunY, brqY, rfY, acY, brfY, bacY, upd srY (nI ns).toNatClampNeg p, csY, ccY, cpY, cwY, okY, osY, ocY, koY, ciY, kfY, cbY, goY, rsY, geY, keY)) : wpY_source post (opY, nI ns, coY, ouY, kyY, liY, diY, cmY, rrY, wiY, ceY, oceY, bceY, maY, omaY, bmaY, unY, rqY, bunY, brqY, rfY, acY, brfY, bacY, srY, csY, ccY, cpY, cwY, okY, osY, ocY, koY, ciY, kfY, cbY, goY, rsY, geY, keY) p := by
  unfold wpY_source
  dsimp only
  refine ym_within (n := 3) (by decide) (fun h => br_t rfl (hb h)) (fun j hj e => br_f (by decide) ?_)
  refine pk_eq ns 3 (fun z => hf j hj e z) (fun z => ?_)
  exact nm_r (nI_1 ns) ⟨vp_in_nI (by omega) (by decide), nm_e (hi j hj e (by omega))⟩
theorem yv_condition {p1 p2 p3 p5 : Int32} {b : Bool} (h3 : ns ≤ 3) (hb : ((∀ j, j < ns → p1 ≠ nI j) ∨ (∀ j, j < 3 → p2 ≠ nI j) ∨ (∀ j, j < 6 → p3 ≠ nI j) ∨ (b = true ∧ ∀ w, w < 3 * ns → p5 ≠ nI w)) → post (-1) (opY, nI ns, coY, ouY, kyY, liY, diY, cmY, rrY, wiY, ceY, oceY, bceY, maY, omaY, bmaY, unY, rqY, bunY, brqY, rfY, acY, brfY, bacY, srY, csY, ccY, cpY, cwY, okY, osY, ocY, koY, ciY, kfY, cbY, goY, rsY, geY, keY))
    (hok : ∀ j1 j2 j3, j1 < ns → j2 < 3 → j3 < 6 → p1 = nI j1 → p2 = nI j2 → p3 = nI j3 → (b = true → ∃ w, p5 = nI w ∧ w < 3 * ns) → wY_condition_49 post p1 p2 p3 (bo_i b) p5 opY (nI ns) coY ouY kyY liY diY cmY rrY wiY ceY oceY bceY maY omaY bmaY unY rqY bunY brqY rfY acY brfY bacY srY csY ccY cpY cwY okY osY ocY koY ciY kfY cbY goY rsY geY keY) : wpY_condition post (opY, nI ns, coY, ouY, kyY, liY, diY, cmY, rrY, wiY, ceY, oceY, bceY, maY, omaY, bmaY, unY, rqY, bunY, brqY, rfY, acY, brfY, bacY, srY, csY, ccY, cpY, cwY, okY, osY, ocY, koY, ciY, kfY, cbY, goY, rsY, geY, keY) p1 p2 p3 (bo_i b) p5 := by
  unfold wpY_condition
  dsimp only
  refine ym_within (n := ns) (by omega) (fun h => br_t rfl (hb (Or.inl h))) (fun j1 h1 e1 => br_f (by decide) (ym_within (n := 3) (by decide) (fun h => br_t rfl (hb (Or.inr (Or.inl h)))) (fun j2 h2 e2 => br_f (by decide) (ym_within (n := 6) (by decide) (fun h => br_t rfl (hb (Or.inr (Or.inr (Or.inl h))))) (fun j3 h3 e3 => br_f (by decide) ?_)))))
  by_cases hbt : b = true
  · refine br_f (bo_n.mpr hbt) ?_
    rw [nz_3m]
    exact ym_within (n := 3 * ns) (by omega) (fun h => br_t rfl (hb (Or.inr (Or.inr (Or.inr ⟨hbt, h⟩))))) (fun w hw ew => br_f (by decide) (hok j1 j2 j3 h1 h2 h3 e1 e2 e3 (fun _ => ⟨w, ew, hw⟩)))
  · exact br_t (bo_0.mpr (by simpa using hbt)) (hok j1 j2 j3 h1 h2 h3 e1 e2 e3 (fun z => absurd z hbt))
theorem yv_output {p1 p2 p3 : Int32} (h3 : ns ≤ 3) (hb : ((∀ j, j < 7 → p1 ≠ nI j) ∨ (p1 ≠ 1 ∧ ((∀ j, j < ns → p2 ≠ nI j) ∨ ∀ j, j < 3 → p3 ≠ nI j))) → post (-1) (opY, nI ns, coY, ouY, kyY, liY, diY, cmY, rrY, wiY, ceY, oceY, bceY, maY, omaY, bmaY, unY, rqY, bunY, brqY, rfY, acY, brfY, bacY, srY, csY, ccY, cpY, cwY, okY, osY, ocY, koY, ciY, kfY, cbY, goY, rsY, geY, keY))
    (hok : (∃ j, j < 7 ∧ p1 = nI j) → (p1 ≠ 1 → (∃ j, j < ns ∧ p2 = nI j) ∧ ∃ j, j < 3 ∧ p3 = nI j) → wY_output_35 post p1 p2 p3 opY (nI ns) coY ouY kyY liY diY cmY rrY wiY ceY oceY bceY maY omaY bmaY unY rqY bunY brqY rfY acY brfY bacY srY csY ccY cpY cwY okY osY ocY koY ciY kfY cbY goY rsY geY keY) : wpY_output post (opY, nI ns, coY, ouY, kyY, liY, diY, cmY, rrY, wiY, ceY, oceY, bceY, maY, omaY, bmaY, unY, rqY, bunY, brqY, rfY, acY, brfY, bacY, srY, csY, ccY, cpY, cwY, okY, osY, ocY, koY, ciY, kfY, cbY, goY, rsY, geY, keY) p1 p2 p3 := by
  unfold wpY_output
  dsimp only
  refine ym_within (n := 7) (by decide) (fun h => br_t rfl (hb (Or.inl h))) (fun j1 h1 e1 => br_f (by decide) ?_)
  by_cases e : p1 = 1
  · exact br_t e (hok ⟨j1, h1, e1⟩ (fun z => absurd e z))
  · refine br_f e (ym_within (n := ns) (by omega) (fun h => br_t rfl (hb (Or.inr ⟨e, Or.inl h⟩))) (fun j2 h2 e2 => br_f (by decide) (ym_within (n := 3) (by decide) (fun h => br_t rfl (hb (Or.inr ⟨e, Or.inr h⟩))) (fun j3 h3 e3 => br_f (by decide) (hok ⟨j1, h1, e1⟩ (fun _ => ⟨⟨j2, h2, e2⟩, ⟨j3, h3, e3⟩⟩))))))
theorem yv_key {p : Int32} {f : Int32} (h4 : no ≤ 4) (h2 : nk ≤ 2) (hb : (∀ j, j < no → p ≠ nI j) → post (-1) (opY, soY, coY, nI no, nI nk, liY, diY, cmY, rrY, wiY, ceY, oceY, bceY, maY, omaY, bmaY, unY, rqY, bunY, brqY, rfY, acY, brfY, bacY, srY, csY, ccY, cpY, cwY, okY, osY, ocY, koY, ciY, kfY, cbY, goY, rsY, geY, keY)) (hf : ∀ j, j < no → p = nI j → nk = 2 → post (-2) (opY, soY, coY, nI no, nI nk, liY, diY, cmY, rrY, wiY, ceY, oceY, bceY, maY, omaY, bmaY, unY, rqY, bunY, brqY, rfY, acY, brfY, bacY, srY, csY, ccY, cpY, cwY, okY, osY, ocY, koY, ciY, kfY, cbY, goY, rsY, geY, keY)) (hi : ∀ j, j < no → p = nI j → nk < 2 → post (nI (nk + 1)) (opY, soY, coY, nI no, nI (nk + 1), liY, diY, cmY, rrY, wiY, ceY, oceY, bceY, maY, omaY, bmaY, unY, rqY, bunY, brqY, rfY, acY, brfY, bacY, srY, csY, ccY, cpY, cwY, okY, osY, ocY, upd koY (nI nk).toNatClampNeg p, ciY, upd kfY (nI nk).toNatClampNeg (vp_nar .boolean f), cbY, goY, rsY, geY, keY)) : wpY_key post (opY, soY, coY, nI no, nI nk, liY, diY, cmY, rrY, wiY, ceY, oceY, bceY, maY, omaY, bmaY, unY, rqY, bunY, brqY, rfY, acY, brfY, bacY, srY, csY, ccY, cpY, cwY, okY, osY, ocY, koY, ciY, kfY, cbY, goY, rsY, geY, keY) p f := by
  unfold wpY_key
  dsimp only
  refine ym_within (n := no) (by omega) (fun h => br_t rfl (hb h)) (fun j hj e => br_f (by decide) ?_)
  refine pk_eq nk 2 (fun z => hf j hj e z) (fun z => ?_)
  have hv : vp_in (nI nk) 2 := vp_in_nI (by omega) (by decide)
  refine ⟨hv, nm_e ⟨hv, nm_e (nm_r (nI_1 nk) ?_)⟩⟩
  rw [nI_1]
  exact hi j hj e (by omega)
end
section
variable {opY soY coY ouY kyY liY diY cmY rrY wiY : Int32} {ceY oceY bceY rsY : Nat → Int64} {maY omaY bmaY unY rqY bunY brqY rfY acY brfY bacY srY csY ccY cpY cwY okY osY ocY koY ciY kfY cbY goY geY keY : Nat → Int32} {post : Int64 → Prop} {nr w : Nat} {N : Nat → Nat} {D : Nat → Nat → Int64}
theorem yv_cell {p q : Int32} (h60 : nr ≤ 60) (h4 : 0 < nr → w ≤ 4 ∧ wiY = nI w) (hb : ((∀ j, j < nr → p ≠ nI j) ∨ ∀ j, j < w → q ≠ nI j) → post nu_l) (hi : ∀ i j, i < nr → j < w → p = nI i → q = nI j → post (rsY (4 * i + j))) : wpY_cell post (opY, soY, coY, ouY, kyY, liY, diY, cmY, nI nr, wiY, ceY, oceY, bceY, maY, omaY, bmaY, unY, rqY, bunY, brqY, rfY, acY, brfY, bacY, srY, csY, ccY, cpY, cwY, okY, osY, ocY, koY, ciY, kfY, cbY, goY, rsY, geY, keY) p q := by
  unfold wpY_cell
  dsimp only
  refine ym_within (n := nr) (by omega) (fun h => br_t rfl (hb (Or.inl h))) (fun i h1 e1 => br_f (by decide) ?_)
  obtain ⟨h4, rfl⟩ := h4 (by omega)
  refine ym_within (n := w) (by omega) (fun h => br_t rfl (hb (Or.inr h))) (fun j h2 e2 => br_f (by decide) ?_)
  have := hi i j h1 h2 e1 e2
  subst e1 e2
  rw [nz_4, nI_clamp (by omega)]
  exact ⟨vp_in_nI (by omega) (by decide), this⟩
theorem yv_value {p q r : Int32} (hC : db_yc N D ceY maY) (hb : ((∀ j, j < 3 → p ≠ nI j) ∨ (∀ j, j < 3 → r ≠ nI j) ∨ ∃ t, t < 3 ∧ p = nI t ∧ ∀ j, j < N t → q ≠ nI j) → post nu_l) (hi : ∀ t i c, t < 3 → c < 3 → i < N t → p = nI t → q = nI i → r = nI c → post (D (3 * t + c) i)) : wpY_value post (opY, soY, coY, ouY, kyY, liY, diY, cmY, rrY, wiY, ceY, oceY, bceY, maY, omaY, bmaY, unY, rqY, bunY, brqY, rfY, acY, brfY, bacY, srY, csY, ccY, cpY, cwY, okY, osY, ocY, koY, ciY, kfY, cbY, goY, rsY, geY, keY) p q r := by
  unfold wpY_value
  dsimp only
  refine ym_within (n := 3) (by decide) (fun h => br_t rfl (hb (Or.inl h))) (fun t h1 e1 => br_f (by decide) (ym_within (n := 3) (by decide) (fun h => br_t rfl (hb (Or.inr (Or.inl h)))) (fun c h3 e3 => br_f (by decide) ?_)))
  subst e1 e3
  obtain ⟨hm, hN⟩ := hC.1 t h1
  refine ⟨vp_in_nI h1 (by decide), ?_⟩
  rw [nI_clamp (by omega), hm]
  refine ym_within (n := N t) (by omega) (fun h => br_t rfl (hb (Or.inr (Or.inr ⟨t, h1, rfl, h⟩)))) (fun i h2 e2 => br_f (by decide) ?_)
  have := hi t i c h1 h3 h2 rfl e2 rfl
  subst e2
  rw [nz_48, nz_3m, nI_add, nI_add, nI_clamp (by omega)]
  have e := hC.2 (3 * t + c) i (by omega) (by rw [show (3 * t + c) / 3 = t by omega]; exact h2)
  rw [show (3 * t + c) / 3 = t by omega, show (3 * t + c) % 3 = c by omega] at e
  rw [e]
  exact ⟨vp_in_nI (by omega) (by decide), this⟩
end
theorem i_vc_source {k : Nat} {u : SX} {v : SY} (I : i_Rel k u v) (hk : k + 6 ≤ 3072) (v1 : Int32) : wpX_source (fun r u' => wpY_source (fun r' v' => r' = r ∧ i_Rel (k + 6) u' v') v v1) u v1 := by
  rcases u with ⟨toX, soX, coX, ouX, kyX, moX, diX, rrX, rwX, ceX, rcX, unX, rqX, taX, acX, sceX, srcX, sunX, srqX, staX, sacX, stX, cfX, cpX, chX, csX, okX, ocX, koX, kfX, cbX, mkX, fvX, ovX, rsX, rtX⟩
  rcases v with ⟨opY, soY, coY, ouY, kyY, liY, diY, cmY, rrY, wiY, ceY, oceY, bceY, maY, omaY, bmaY, unY, rqY, bunY, brqY, rfY, acY, brfY, bacY, srY, csY, ccY, cpY, cwY, okY, osY, ocY, koY, ciY, kfY, cbY, goY, rsY, geY, keY⟩
  obtain ⟨hdb, hsv, hdr, hli, hre⟩ := I
  have keep := hdr
  obtain ⟨ns, nc, no, nk, S, CS, CC, CO, CI, CW, OK, OS, OC, KO, ⟨rfl, rfl, rfl, rfl⟩, ⟨rfl, rfl, rfl, rfl⟩, hS, hc, ho, hq, hK⟩ := hdr
  have h3 := hK.1.1
  unfold wpX_source
  dsimp only
  refine xm_out v1 (fun hout => br_f (by decide) ?_) (fun j hj e => br_t rfl (pk_lt ns 3 (fun h => ?_) (fun h => ?_)))
  · exact yv_source h3 (fun _ => ⟨rfl, hdb, hsv, keep, hli, hre⟩) (fun j hj e => rg_no hout hj e) (fun j hj e => rg_no hout hj e)
  · refine ⟨vp_in_nI h (by decide), nm_e (nm_r (nI_1 ns) ?_)⟩
    refine yv_source h3 (fun z => rg_no z hj e) (fun _ _ _ z => absurd h (by omega)) (fun _ _ _ _ => ⟨rfl, hdb, hsv, ?_, hli, hre⟩)
    subst e
    refine ⟨ns + 1, nc, no, nk, ex_n S ns j, CS, CC, CO, CI, CW, OK, OS, OC, KO, ⟨rfl, rfl, rfl, rfl⟩, ⟨rfl, rfl, rfl, rfl⟩, lt_s (fun s hs => ?_) ?_, hc, ho, hq, ⟨⟨by omega, hK.1.2⟩, lt_s (fun s hs => ?_) ?_, fun k hk => ?_, fun k hk => ?_, hK.2.2.2.2⟩⟩
    · rw [ex_uo (by omega) hs, ex_uo (by omega) hs, ex_o hs]
      exact hS s hs
    · rw [ex_us (by omega), ex_us (by omega), ex_s]
      exact ⟨rfl, rfl⟩
    · rw [ex_o hs]
      exact hK.2.1 s hs
    · rw [ex_s]
      exact hj
    · obtain ⟨a, b, c, d⟩ := hK.2.2.1 k hk
      refine ⟨by omega, b, c, fun z => ?_⟩
      obtain ⟨w, e, hw⟩ := d z
      exact ⟨w, e, by omega⟩
    · obtain ⟨a, b, c⟩ := hK.2.2.2.1 k hk
      exact ⟨a, fun z => by have := b z; omega, c⟩
  · exact yv_source h3 (fun z => rg_no z hj e) (fun _ _ _ _ => ⟨rfl, hdb, hsv, keep, hli, hre⟩) (fun _ _ _ z => absurd h (by omega))
theorem i_vc_condition {k : Nat} {u : SX} {v : SY} (I : i_Rel k u v) (hk : k + 6 ≤ 3072) (v1 : Int32) (v2 : Int32) (v3 : Int32) (v4 : Int32) (v5 : Int32) : wpX_condition (fun r u' => wpY_condition (fun r' v' => r' = r ∧ i_Rel (k + 6) u' v') v v1 v2 v3 (lw_bz v4) v5) u v1 v2 v3 (lw_bz v4) v5 := by
  rcases u with ⟨toX, soX, coX, ouX, kyX, moX, diX, rrX, rwX, ceX, rcX, unX, rqX, taX, acX, sceX, srcX, sunX, srqX, staX, sacX, stX, cfX, cpX, chX, csX, okX, ocX, koX, kfX, cbX, mkX, fvX, ovX, rsX, rtX⟩
  rcases v with ⟨opY, soY, coY, ouY, kyY, liY, diY, cmY, rrY, wiY, ceY, oceY, bceY, maY, omaY, bmaY, unY, rqY, bunY, brqY, rfY, acY, brfY, bacY, srY, csY, ccY, cpY, cwY, okY, osY, ocY, koY, ciY, kfY, cbY, goY, rsY, geY, keY⟩
  obtain ⟨hdb, hsv, hdr, hli, hre⟩ := I
  have keep := hdr
  obtain ⟨ns, nc, no, nk, S, CS, CC, CO, CI, CW, OK, OS, OC, KO, ⟨rfl, rfl, rfl, rfl⟩, ⟨rfl, rfl, rfl, rfl⟩, hS, hc, ho, hq, hK⟩ := hdr
  have h3 := hK.1.1
  have h6 := hK.1.2.1
  obtain ⟨b, eb⟩ := bz_b v4
  rw [eb]
  have bad : ((∀ j, j < ns → v1 ≠ nI j) ∨ (∀ j, j < 3 → v2 ≠ nI j) ∨ (∀ j, j < 6 → v3 ≠ nI j) ∨ (b = true ∧ ∀ w, w < 3 * ns → v5 ≠ nI w)) → wpY_condition (fun r' v' => r' = -1 ∧ i_Rel (k + 6) (toX, nI ns, nI nc, nI no, nI nk, moX, diX, rrX, rwX, ceX, rcX, unX, rqX, taX, acX, sceX, srcX, sunX, srqX, staX, sacX, stX, cfX, cpX, chX, csX, okX, ocX, koX, kfX, cbX, mkX, fvX, ovX, rsX, rtX) v') (opY, nI ns, nI nc, nI no, nI nk, liY, diY, cmY, rrY, wiY, ceY, oceY, bceY, maY, omaY, bmaY, unY, rqY, bunY, brqY, rfY, acY, brfY, bacY, srY, csY, ccY, cpY, cwY, okY, osY, ocY, koY, ciY, kfY, cbY, goY, rsY, geY, keY) v1 v2 v3 (bo_i b) v5 := by
    intro hb
    refine yv_condition h3 (fun _ => ⟨rfl, hdb, hsv, keep, hli, hre⟩) (fun j1 j2 j3 h1 h2 h3 e1 e2 e3 hw => ?_)
    rcases hb with z | z | z | ⟨z1, z2⟩
    · exact rg_no z h1 e1
    · exact rg_no z h2 e2
    · exact rg_no z h3 e3
    · obtain ⟨w, e, hw⟩ := hw z1
      exact rg_no z2 hw e
  unfold wpX_condition wpX_isNoSource
  dsimp only
  refine rg_lt ns (fun hout => br_f (by decide) (bad (Or.inl hout))) (fun j1 hj1 e1 => br_t rfl (xm_out v2 (fun hout => br_f (by decide) (bad (Or.inr (Or.inl hout)))) (fun j2 hj2 e2 => br_t rfl (rg_le 5 (fun hout => bad (Or.inr (Or.inr (Or.inl hout)))) (fun j3 hj3 e3 => ?_)))))
  have fin : (b = true → ∃ w, v5 = nI w ∧ w < 3 * ns) → wX_condition_49 (fun r u' => wpY_condition (fun r' v' => r' = r ∧ i_Rel (k + 6) u' v') (opY, nI ns, nI nc, nI no, nI nk, liY, diY, cmY, rrY, wiY, ceY, oceY, bceY, maY, omaY, bmaY, unY, rqY, bunY, brqY, rfY, acY, brfY, bacY, srY, csY, ccY, cpY, cwY, okY, osY, ocY, koY, ciY, kfY, cbY, goY, rsY, geY, keY) v1 v2 v3 (bo_i b) v5) v1 v2 v3 (bo_i b) v5 toX (nI ns) (nI nc) (nI no) (nI nk) moX diX rrX rwX ceX rcX unX rqX taX acX sceX srcX sunX srqX staX sacX stX cfX cpX chX csX okX ocX koX kfX cbX mkX fvX ovX rsX rtX := by
    intro hw
    have nob : ∀ {P : Prop}, ((∀ j, j < ns → v1 ≠ nI j) ∨ (∀ j, j < 3 → v2 ≠ nI j) ∨ (∀ j, j < 6 → v3 ≠ nI j) ∨ (b = true ∧ ∀ w, w < 3 * ns → v5 ≠ nI w)) → P := by
      intro P z
      rcases z with z | z | z | ⟨z1, z2⟩
      · exact rg_no z hj1 e1
      · exact rg_no z hj2 e2
      · exact rg_no z hj3 e3
      · obtain ⟨w, e, hw⟩ := hw z1
        exact rg_no z2 hw e
    refine pk_lt nc 6 (fun h => ?_) (fun h => ?_)
    · have h6 : vp_in (nI nc) 6 := vp_in_nI h (by decide)
      refine ⟨h6, nm_e ⟨h6, nm_e ⟨h6, nm_e ⟨h6, nm_e (nm_r (nI_1 nc) ?_)⟩⟩⟩⟩
      refine yv_condition h3 nob (fun _ _ _ _ _ _ _ _ _ _ => pk_eq nc 6 (fun z => absurd z (by omega)) (fun _ => ?_))
      refine ⟨h6, nm_e ⟨h6, nm_e ⟨h6, nm_e ⟨h6, nm_e ⟨h6, nm_e (nm_r (nI_1 nc) ⟨nI_1 nc, hdb, hsv, ?_, hli, hre⟩)⟩⟩⟩⟩⟩
      subst e1 e2 e3
      refine ⟨ns, nc + 1, no, nk, S, ex_n CS nc j1, ex_n CC nc j2, ex_n CO nc j3, (fun s => if s = nc then b else CI s), (fun s => if s = nc then v5 else CW s), OK, OS, OC, KO, ⟨rfl, rfl, rfl, rfl⟩, ⟨rfl, rfl, rfl, rfl⟩, hS, lt_s (fun s hs => ?_) ?_, ho, hq, ⟨⟨hK.1.1, by omega, hK.1.2.2⟩, hK.2.1, lt_s (fun s hs => ?_) ?_, hK.2.2.2⟩⟩
      · have hne : s ≠ nc := by omega
        simp only [ex_uo (show nc < 2 ^ 31 by omega) hs, ex_o hs, if_neg hne]
        exact hc s hs
      · simp only [ex_us (show nc < 2 ^ 31 by omega), ex_s, if_true, bo_nar, nz_3]
        exact ⟨⟨trivial, trivial, trivial, trivial⟩, trivial, trivial, trivial, trivial, trivial⟩
      · have hne : s ≠ nc := by omega
        simp only [ex_o hs, if_neg hne]
        exact hK.2.2.1 s hs
      · simp only [ex_s, if_true]
        exact ⟨hj1, hj2, hj3, hw⟩
    · exact yv_condition h3 nob (fun _ _ _ _ _ _ _ _ _ _ => pk_eq nc 6 (fun _ => ⟨rfl, hdb, hsv, keep, hli, hre⟩) (fun z => absurd h6 (by omega)))
  by_cases hb : b = true
  · refine br_f (bo_n.mpr hb) ?_
    rw [nz_3m]
    exact rg_lt (3 * ns) (fun hout => bad (Or.inr (Or.inr (Or.inr ⟨hb, hout⟩)))) (fun w hw ew => fin (fun _ => ⟨w, ew, hw⟩))
  · exact br_t (bo_0.mpr (by simpa using hb)) (fin (fun z => absurd z hb))
theorem i_vc_output {k : Nat} {u : SX} {v : SY} (I : i_Rel k u v) (hk : k + 6 ≤ 3072) (v1 : Int32) (v2 : Int32) (v3 : Int32) : wpX_output (fun r u' => wpY_output (fun r' v' => r' = r ∧ i_Rel (k + 6) u' v') v v1 v2 v3) u v1 v2 v3 := by
  rcases u with ⟨toX, soX, coX, ouX, kyX, moX, diX, rrX, rwX, ceX, rcX, unX, rqX, taX, acX, sceX, srcX, sunX, srqX, staX, sacX, stX, cfX, cpX, chX, csX, okX, ocX, koX, kfX, cbX, mkX, fvX, ovX, rsX, rtX⟩
  rcases v with ⟨opY, soY, coY, ouY, kyY, liY, diY, cmY, rrY, wiY, ceY, oceY, bceY, maY, omaY, bmaY, unY, rqY, bunY, brqY, rfY, acY, brfY, bacY, srY, csY, ccY, cpY, cwY, okY, osY, ocY, koY, ciY, kfY, cbY, goY, rsY, geY, keY⟩
  obtain ⟨hdb, hsv, hdr, hli, hre⟩ := I
  have keep := hdr
  obtain ⟨ns, nc, no, nk, S, CS, CC, CO, CI, CW, OK, OS, OC, KO, ⟨rfl, rfl, rfl, rfl⟩, ⟨rfl, rfl, rfl, rfl⟩, hS, hc, ho, hq, hK⟩ := hdr
  have h3 := hK.1.1
  have h4 := hK.1.2.2.1
  have bad : ((∀ j, j < 7 → v1 ≠ nI j) ∨ (v1 ≠ 1 ∧ ((∀ j, j < ns → v2 ≠ nI j) ∨ ∀ j, j < 3 → v3 ≠ nI j))) → wpY_output (fun r' v' => r' = -1 ∧ i_Rel (k + 6) (toX, nI ns, nI nc, nI no, nI nk, moX, diX, rrX, rwX, ceX, rcX, unX, rqX, taX, acX, sceX, srcX, sunX, srqX, staX, sacX, stX, cfX, cpX, chX, csX, okX, ocX, koX, kfX, cbX, mkX, fvX, ovX, rsX, rtX) v') (opY, nI ns, nI nc, nI no, nI nk, liY, diY, cmY, rrY, wiY, ceY, oceY, bceY, maY, omaY, bmaY, unY, rqY, bunY, brqY, rfY, acY, brfY, bacY, srY, csY, ccY, cpY, cwY, okY, osY, ocY, koY, ciY, kfY, cbY, goY, rsY, geY, keY) v1 v2 v3 := by
    intro hb
    refine yv_output h3 (fun _ => ⟨rfl, hdb, hsv, keep, hli, hre⟩) (fun ⟨j, hj, e⟩ hw => ?_)
    rcases hb with z | ⟨z, z2⟩
    · exact rg_no z hj e
    · obtain ⟨⟨j2, hj2, e2⟩, ⟨j3, hj3, e3⟩⟩ := hw z
      rcases z2 with z | z
      · exact rg_no z hj2 e2
      · exact rg_no z hj3 e3
  have nxt : ∀ j1 a b, no < 4 → j1 < 7 → a < 3 → (j1 ≠ 1 → a < ns) → (j1 = 1 → a = 0 ∧ b = 0) → b < 3 → rl_dr (nI ns) (nI nc) (nI (no + 1)) (nI nk) stX cfX cpX chX csX (upd okX (nI no).toNatClampNeg (nI j1)) (upd ocX (nI no).toNatClampNeg (nI (3 * a + b))) koX kfX (nI ns) (nI nc) (nI (no + 1)) (nI nk) srY csY ccY cpY cwY (upd okY (nI no).toNatClampNeg (nI j1)) (upd osY (nI no).toNatClampNeg (nI a)) (upd ocY (nI no).toNatClampNeg (nI b)) koY ciY kfY := by
    intro j1 a b h hj1 ha hn1 h1 hb
    refine ⟨ns, nc, no + 1, nk, S, CS, CC, CO, CI, CW, ex_n OK no j1, ex_n OS no a, ex_n OC no b, KO, ⟨rfl, rfl, rfl, rfl⟩, ⟨rfl, rfl, rfl, rfl⟩, hS, hc, lt_s (fun s hs => ?_) ?_, hq, ⟨⟨hK.1.1, hK.1.2.1, by omega, hK.1.2.2.2⟩, hK.2.1, hK.2.2.1, lt_s (fun s hs => ?_) ?_, fun k hk => ?_⟩⟩
    · simp only [ex_uo (show no < 2 ^ 31 by omega) hs, ex_o hs]
      exact ho s hs
    · simp only [ex_us (show no < 2 ^ 31 by omega), ex_s]
      exact ⟨⟨trivial, trivial⟩, trivial, trivial, trivial⟩
    · simp only [ex_o hs]
      exact hK.2.2.2.1 s hs
    · simp only [ex_s]
      exact ⟨hj1, hn1, h1, hb⟩
    · have := hK.2.2.2.2 k hk
      omega
  unfold wpX_output wpX_isNoSource
  dsimp only
  refine rg_le 6 (fun hout => bad (Or.inl hout)) (fun j1 hj1 e1 => ?_)
  by_cases o1 : v1 = 1
  · have nob : ∀ {P : Prop}, ((∀ j, j < 7 → v1 ≠ nI j) ∨ (v1 ≠ 1 ∧ ((∀ j, j < ns → v2 ≠ nI j) ∨ ∀ j, j < 3 → v3 ≠ nI j))) → P := by
      intro P z
      rcases z with z | z
      · exact rg_no z hj1 e1
      · exact absurd o1 z.1
    refine br_t o1 (pk_lt no 4 (fun h => ?_) (fun h => ?_))
    · have hi : vp_in (nI no) 4 := vp_in_nI h (by decide)
      refine ⟨hi, nm_e (br_t o1 ⟨hi, nm_e (nm_r (nI_1 no) ?_)⟩)⟩
      refine yv_output h3 nob (fun _ _ => pk_eq no 4 (fun z => absurd z (by omega)) (fun _ => ?_))
      refine ⟨hi, nm_e (br_t o1 ⟨hi, nm_e (br_t o1 ⟨hi, nm_e (nm_r (nI_1 no) ⟨(nI_pred no).symm, hdb, hsv, ?_, hli, hre⟩)⟩)⟩)⟩
      subst o1
      exact nxt 1 0 0 h (by decide) (by decide) (fun z => absurd rfl z) (fun _ => ⟨rfl, rfl⟩) (by decide)
    · exact yv_output h3 nob (fun _ _ => pk_eq no 4 (fun _ => ⟨rfl, hdb, hsv, keep, hli, hre⟩) (fun z => absurd h4 (by omega)))
  · refine br_f o1 (rg_lt ns (fun hout => br_f (by decide) (bad (Or.inr ⟨o1, Or.inl hout⟩))) (fun j2 hj2 e2 => br_t rfl (xm_out v3 (fun hout => br_f (by decide) (bad (Or.inr ⟨o1, Or.inr hout⟩))) (fun j3 hj3 e3 => br_t rfl ?_))))
    have nob : ∀ {P : Prop}, ((∀ j, j < 7 → v1 ≠ nI j) ∨ (v1 ≠ 1 ∧ ((∀ j, j < ns → v2 ≠ nI j) ∨ ∀ j, j < 3 → v3 ≠ nI j))) → P := by
      intro P z
      rcases z with z | ⟨_, z | z⟩
      · exact rg_no z hj1 e1
      · exact rg_no z hj2 e2
      · exact rg_no z hj3 e3
    refine pk_lt no 4 (fun h => ?_) (fun h => ?_)
    · have hi : vp_in (nI no) 4 := vp_in_nI h (by decide)
      refine ⟨hi, nm_e (br_f o1 ⟨hi, nm_e (nm_r (nI_1 no) ?_)⟩)⟩
      refine yv_output h3 nob (fun _ _ => pk_eq no 4 (fun z => absurd z (by omega)) (fun _ => ?_))
      refine ⟨hi, nm_e (br_f o1 ⟨hi, nm_e (br_f o1 ⟨hi, nm_e (nm_r (nI_1 no) ⟨(nI_pred no).symm, hdb, hsv, ?_, hli, hre⟩)⟩)⟩)⟩
      subst e1 e2 e3
      rw [nz_3]
      exact nxt j1 j2 j3 h hj1 (by omega) (fun _ => hj2) (fun z => absurd (by rw [z]; rfl) o1) hj3
    · exact yv_output h3 nob (fun _ _ => pk_eq no 4 (fun _ => ⟨rfl, hdb, hsv, keep, hli, hre⟩) (fun z => absurd h4 (by omega)))
theorem i_vc_key {k : Nat} {u : SX} {v : SY} (I : i_Rel k u v) (hk : k + 6 ≤ 3072) (v1 : Int32) (v2 : Int32) : wpX_key (fun r u' => wpY_key (fun r' v' => r' = r ∧ i_Rel (k + 6) u' v') v v1 (lw_bz v2)) u v1 (lw_bz v2) := by
  rcases u with ⟨toX, soX, coX, ouX, kyX, moX, diX, rrX, rwX, ceX, rcX, unX, rqX, taX, acX, sceX, srcX, sunX, srqX, staX, sacX, stX, cfX, cpX, chX, csX, okX, ocX, koX, kfX, cbX, mkX, fvX, ovX, rsX, rtX⟩
  rcases v with ⟨opY, soY, coY, ouY, kyY, liY, diY, cmY, rrY, wiY, ceY, oceY, bceY, maY, omaY, bmaY, unY, rqY, bunY, brqY, rfY, acY, brfY, bacY, srY, csY, ccY, cpY, cwY, okY, osY, ocY, koY, ciY, kfY, cbY, goY, rsY, geY, keY⟩
  obtain ⟨hdb, hsv, hdr, hli, hre⟩ := I
  have keep := hdr
  obtain ⟨ns, nc, no, nk, S, CS, CC, CO, CI, CW, OK, OS, OC, KO, ⟨rfl, rfl, rfl, rfl⟩, ⟨rfl, rfl, rfl, rfl⟩, hS, hc, ho, hq, hK⟩ := hdr
  have h4 := hK.1.2.2.1
  have h2 := hK.1.2.2.2
  refine rg_lt no (fun hout => ?_) (fun j hj e => pk_lt nk 2 (fun h => ?_) (fun h => ?_))
  · exact yv_key h4 h2 (fun _ => ⟨rfl, hdb, hsv, keep, hli, hre⟩) (fun j hj e => rg_no hout hj e) (fun j hj e => rg_no hout hj e)
  · have hi : vp_in (nI nk) 2 := vp_in_nI h (by decide)
    refine ⟨hi, nm_e ⟨hi, nm_e (nm_r (nI_1 nk) ?_)⟩⟩
    refine yv_key h4 h2 (fun z => rg_no z hj e) (fun _ _ _ z => absurd h (by omega)) (fun _ _ _ _ => ⟨rfl, hdb, hsv, ?_, hli, hre⟩)
    subst e
    refine ⟨ns, nc, no, nk + 1, S, CS, CC, CO, CI, CW, OK, OS, OC, ex_n KO nk j, ⟨rfl, rfl, rfl, rfl⟩, ⟨rfl, rfl, rfl, rfl⟩, hS, hc, ho, lt_s (fun s hs => ?_) ?_, ⟨⟨hK.1.1, hK.1.2.1, hK.1.2.2.1, by omega⟩, hK.2.1, hK.2.2.1, hK.2.2.2.1, lt_s (fun s hs => ?_) ?_⟩⟩
    · simp only [ex_uo (show nk < 2 ^ 31 by omega) hs, ex_o hs]
      exact hq s hs
    · simp only [ex_us (show nk < 2 ^ 31 by omega), ex_s]
      exact ⟨trivial, trivial, trivial⟩
    · simp only [ex_o hs]
      exact hK.2.2.2.2 s hs
    · simp only [ex_s]
      exact hj
  · exact yv_key h4 h2 (fun z => rg_no z hj e) (fun _ _ _ _ => ⟨rfl, hdb, hsv, keep, hli, hre⟩) (fun _ _ _ z => absurd h (by omega))
theorem bz_f (v : Int32) : fits .boolean (.int (lw_bz v)) = true := by
  rcases lw_bz_01 v with h | h <;> rw [h] <;> rfl
theorem i_vc_limit {k : Nat} {u : SX} {v : SY} (I : i_Rel k u v) (hk : k + 6 ≤ 3072) (v1 : Int32) (v2 : Int32) : wpX_limit (fun r u' => wpY_limit (fun r' v' => r' = r ∧ i_Rel (k + 6) u' v') v v1 (lw_bz v2)) u v1 (lw_bz v2) := by
  rcases u with ⟨toX, soX, coX, ouX, kyX, moX, diX, rrX, rwX, ceX, rcX, unX, rqX, taX, acX, sceX, srcX, sunX, srqX, staX, sacX, stX, cfX, cpX, chX, csX, okX, ocX, koX, kfX, cbX, mkX, fvX, ovX, rsX, rtX⟩
  rcases v with ⟨opY, soY, coY, ouY, kyY, liY, diY, cmY, rrY, wiY, ceY, oceY, bceY, maY, omaY, bmaY, unY, rqY, bunY, brqY, rfY, acY, brfY, bacY, srY, csY, ccY, cpY, cwY, okY, osY, ocY, koY, ciY, kfY, cbY, goY, rsY, geY, keY⟩
  obtain ⟨hdb, hsv, hdr, hli, hre⟩ := I
  refine rg_le 60 (fun hout => ?_) (fun j hj e => ?_)
  · exact rg_le 60 (fun _ => ⟨rfl, hdb, hsv, hdr, hli, hre⟩) (fun j hj e => rg_no hout hj e)
  · subst e
    refine ⟨lw_bz_n v2, bz_f v2, rg_le 60 (fun z => rg_no z hj rfl) (fun _ _ _ => ⟨lw_bz_n v2, bz_f v2, rfl, hdb, hsv, hdr, ?_, hre⟩)⟩
    exact ⟨rfl, rfl, ⟨j, by omega, rfl⟩, bz_b v2⟩
theorem i_vc_wipe {k : Nat} {u : SX} {v : SY} (I : i_Rel k u v) (hk : k + 6 ≤ 3072) : wpX_wipe (fun r u' => wpY_wipe (fun r' v' => r' = r ∧ i_Rel (k + 6) u' v') v) u := by
  rcases u with ⟨toX, soX, coX, ouX, kyX, moX, diX, rrX, rwX, ceX, rcX, unX, rqX, taX, acX, sceX, srcX, sunX, srqX, staX, sacX, stX, cfX, cpX, chX, csX, okX, ocX, koX, kfX, cbX, mkX, fvX, ovX, rsX, rtX⟩
  rcases v with ⟨opY, soY, coY, ouY, kyY, liY, diY, cmY, rrY, wiY, ceY, oceY, bceY, maY, omaY, bmaY, unY, rqY, bunY, brqY, rfY, acY, brfY, bacY, srY, csY, ccY, cpY, cwY, okY, osY, ocY, koY, ciY, kfY, cbY, goY, rsY, geY, keY⟩
  obtain ⟨hdb, hsv, hdr, hli, hre⟩ := I
  obtain ⟨ns, nc, no, nk, S, CS, CC, CO, CI, CW, OK, OS, OC, KO, ⟨rfl, rfl, rfl, rfl⟩, ⟨rfl, rfl, rfl, rfl⟩, hS, hc, ho, hq, hK⟩ := hdr
  refine ⟨rfl, hdb, hsv, ?_, ⟨rfl, rfl, ⟨60, by decide, rfl⟩, false, rfl⟩, hre⟩
  exact ⟨0, 0, 0, 0, S, CS, CC, CO, CI, CW, OK, OS, OC, KO, ⟨rfl, rfl, rfl, rfl⟩, ⟨rfl, rfl, rfl, rfl⟩, lt_0, lt_0, lt_0, lt_0, ⟨by decide, by decide, by decide, by decide⟩, lt_0, lt_0, lt_0, lt_0⟩
theorem i_vc_cell {k : Nat} {u : SX} {v : SY} (I : i_Rel k u v) (hk : k + 6 ≤ 3072) (v1 : Int32) (v2 : Int32) : wpX_cell (fun r => wpY_cell (fun r' => r' = r ∧ i_Rel (k + 6) u v) v v1 v2) u v1 v2 := by
  have I2 : i_Rel (k + 6) u v := I
  rcases u with ⟨toX, soX, coX, ouX, kyX, moX, diX, rrX, rwX, ceX, rcX, unX, rqX, taX, acX, sceX, srcX, sunX, srqX, staX, sacX, stX, cfX, cpX, chX, csX, okX, ocX, koX, kfX, cbX, mkX, fvX, ovX, rsX, rtX⟩
  rcases v with ⟨opY, soY, coY, ouY, kyY, liY, diY, cmY, rrY, wiY, ceY, oceY, bceY, maY, omaY, bmaY, unY, rqY, bunY, brqY, rfY, acY, brfY, bacY, srY, csY, ccY, cpY, cwY, okY, osY, ocY, koY, ciY, kfY, cbY, goY, rsY, geY, keY⟩
  obtain ⟨hdb, hsv, hdr, hli, hre⟩ := I
  obtain ⟨nr, hnr, rfl, rfl, hw⟩ := hre
  rcases hw with hw | ⟨w, hw4, rfl, rfl, hw⟩
  · subst hw
    have bad : wpY_cell (fun r' => r' = nu_l ∧ i_Rel (k + 6) (toX, soX, coX, ouX, kyX, moX, diX, nI 0, rwX, ceX, rcX, unX, rqX, taX, acX, sceX, srcX, sunX, srqX, staX, sacX, stX, cfX, cpX, chX, csX, okX, ocX, koX, kfX, cbX, mkX, fvX, ovX, rsX, rtX) (opY, soY, coY, ouY, kyY, liY, diY, cmY, nI 0, wiY, ceY, oceY, bceY, maY, omaY, bmaY, unY, rqY, bunY, brqY, rfY, acY, brfY, bacY, srY, csY, ccY, cpY, cwY, okY, osY, ocY, koY, ciY, kfY, cbY, goY, rsY, geY, keY)) (opY, soY, coY, ouY, kyY, liY, diY, cmY, nI 0, wiY, ceY, oceY, bceY, maY, omaY, bmaY, unY, rqY, bunY, brqY, rfY, acY, brfY, bacY, srY, csY, ccY, cpY, cwY, okY, osY, ocY, koY, ciY, kfY, cbY, goY, rsY, geY, keY) v1 v2 := yv_cell (w := 0) (by decide) (fun z => absurd z (by decide)) (fun _ => ⟨rfl, I2⟩) (fun i j hi => absurd hi (by omega))
    exact rg_ge 0 (fun _ => bad) (fun j hj => absurd hj (by omega))
  · have bad : ((∀ j, j < nr → v1 ≠ nI j) ∨ ∀ j, j < w → v2 ≠ nI j) → wpY_cell (fun r' => r' = nu_l ∧ i_Rel (k + 6) (toX, soX, coX, ouX, kyX, moX, diX, nI nr, nI w, ceX, rcX, unX, rqX, taX, acX, sceX, srcX, sunX, srqX, staX, sacX, stX, cfX, cpX, chX, csX, okX, ocX, koX, kfX, cbX, mkX, fvX, ovX, rsX, rtX) (opY, soY, coY, ouY, kyY, liY, diY, cmY, nI nr, nI w, ceY, oceY, bceY, maY, omaY, bmaY, unY, rqY, bunY, brqY, rfY, acY, brfY, bacY, srY, csY, ccY, cpY, cwY, okY, osY, ocY, koY, ciY, kfY, cbY, goY, rsY, geY, keY)) (opY, soY, coY, ouY, kyY, liY, diY, cmY, nI nr, nI w, ceY, oceY, bceY, maY, omaY, bmaY, unY, rqY, bunY, brqY, rfY, acY, brfY, bacY, srY, csY, ccY, cpY, cwY, okY, osY, ocY, koY, ciY, kfY, cbY, goY, rsY, geY, keY) v1 v2 := by
      intro hb
      refine yv_cell (w := w) hnr (fun _ => ⟨hw4, rfl⟩) (fun _ => ⟨rfl, I2⟩) (fun i j hi hj e1 e2 => ?_)
      rcases hb with z | z
      · exact rg_no z hi e1
      · exact rg_no z hj e2
    refine rg_ge nr (fun hout => bad (Or.inl hout)) (fun i hi e => rg_lt w (fun hout => bad (Or.inr hout)) (fun q hq e2 => ?_))
    subst e e2
    rw [nz_4, nI_clamp (by omega)]
    refine ⟨vp_in_nI (by omega) (by decide), yv_cell (w := w) hnr (fun _ => ⟨hw4, rfl⟩) (fun z => ?_) (fun i' q' hi' hq' e1 e2 => ?_)⟩
    · rcases z with z | z
      · exact rg_no z hi rfl
      · exact rg_no z hq rfl
    · rw [nI_eq (by omega) (by omega)] at e1 e2
      subst e1 e2
      exact ⟨(hw i q hi hq).symm, I2⟩
theorem i_vc_rows {k : Nat} {u : SX} {v : SY} (I : i_Rel k u v) (hk : k + 6 ≤ 3072) (v1 : Int32) : wpX_rows (fun r => wpY_rows (fun r' => r' = r ∧ i_Rel (k + 6) u v) v v1) u v1 := by
  have I2 : i_Rel (k + 6) u v := I
  rcases u with ⟨toX, soX, coX, ouX, kyX, moX, diX, rrX, rwX, ceX, rcX, unX, rqX, taX, acX, sceX, srcX, sunX, srqX, staX, sacX, stX, cfX, cpX, chX, csX, okX, ocX, koX, kfX, cbX, mkX, fvX, ovX, rsX, rtX⟩
  rcases v with ⟨opY, soY, coY, ouY, kyY, liY, diY, cmY, rrY, wiY, ceY, oceY, bceY, maY, omaY, bmaY, unY, rqY, bunY, brqY, rfY, acY, brfY, bacY, srY, csY, ccY, cpY, cwY, okY, osY, ocY, koY, ciY, kfY, cbY, goY, rsY, geY, keY⟩
  obtain ⟨⟨N, D, U, R, T, A, hx, _, hy, _, _⟩, hsv, hdr, hli, hre⟩ := I
  unfold wpX_rows wpY_rows
  dsimp only
  refine xm_out v1 (fun hout => ?_) (fun j hj e => ?_)
  · exact br_f (by decide) (ym_within (n := 3) (by decide) (fun _ => br_t rfl ⟨rfl, I2⟩) (fun j hj e => rg_no hout hj e))
  · subst e
    refine br_t rfl ⟨vp_in_nI hj (by decide), ym_within (n := 3) (by decide) (fun z => rg_no z hj rfl) (fun _ _ _ => br_f (by decide) ⟨vp_in_nI hj (by decide), ?_, I2⟩)⟩
    rw [nI_clamp (by omega), (hx.1 j hj).1, (hy.1 j hj).1]
theorem i_vc_value {k : Nat} {u : SX} {v : SY} (I : i_Rel k u v) (hk : k + 6 ≤ 3072) (v1 : Int32) (v2 : Int32) (v3 : Int32) : wpX_value (fun r => wpY_value (fun r' => r' = r ∧ i_Rel (k + 6) u v) v v1 v2 v3) u v1 v2 v3 := by
  have I2 : i_Rel (k + 6) u v := I
  rcases u with ⟨toX, soX, coX, ouX, kyX, moX, diX, rrX, rwX, ceX, rcX, unX, rqX, taX, acX, sceX, srcX, sunX, srqX, staX, sacX, stX, cfX, cpX, chX, csX, okX, ocX, koX, kfX, cbX, mkX, fvX, ovX, rsX, rtX⟩
  rcases v with ⟨opY, soY, coY, ouY, kyY, liY, diY, cmY, rrY, wiY, ceY, oceY, bceY, maY, omaY, bmaY, unY, rqY, bunY, brqY, rfY, acY, brfY, bacY, srY, csY, ccY, cpY, cwY, okY, osY, ocY, koY, ciY, kfY, cbY, goY, rsY, geY, keY⟩
  obtain ⟨⟨N, D, U, R, T, A, hx, _, hy, _, _⟩, hsv, hdr, hli, hre⟩ := I
  have bad : ((∀ j, j < 3 → v1 ≠ nI j) ∨ (∀ j, j < 3 → v3 ≠ nI j) ∨ ∃ t, t < 3 ∧ v1 = nI t ∧ ∀ j, j < N t → v2 ≠ nI j) → wpY_value (fun r' => r' = nu_l ∧ i_Rel (k + 6) (toX, soX, coX, ouX, kyX, moX, diX, rrX, rwX, ceX, rcX, unX, rqX, taX, acX, sceX, srcX, sunX, srqX, staX, sacX, stX, cfX, cpX, chX, csX, okX, ocX, koX, kfX, cbX, mkX, fvX, ovX, rsX, rtX) (opY, soY, coY, ouY, kyY, liY, diY, cmY, rrY, wiY, ceY, oceY, bceY, maY, omaY, bmaY, unY, rqY, bunY, brqY, rfY, acY, brfY, bacY, srY, csY, ccY, cpY, cwY, okY, osY, ocY, koY, ciY, kfY, cbY, goY, rsY, geY, keY)) (opY, soY, coY, ouY, kyY, liY, diY, cmY, rrY, wiY, ceY, oceY, bceY, maY, omaY, bmaY, unY, rqY, bunY, brqY, rfY, acY, brfY, bacY, srY, csY, ccY, cpY, cwY, okY, osY, ocY, koY, ciY, kfY, cbY, goY, rsY, geY, keY) v1 v2 v3 := by
    intro hb
    refine yv_value hy (fun _ => ⟨rfl, I2⟩) (fun t i c ht hc hi e1 e2 e3 => ?_)
    rcases hb with z | z | ⟨t', ht', e, z⟩
    · exact rg_no z ht e1
    · exact rg_no z hc e3
    · rw [e, nI_eq (by omega) (by omega)] at e1
      subst e1
      exact rg_no z hi e2
  unfold wpX_value
  dsimp only
  refine xm_out v1 (fun hout => br_f (by decide) (bad (Or.inl hout))) (fun j1 hj1 e1 => br_t rfl (xm_out v3 (fun hout => br_f (by decide) (bad (Or.inr (Or.inl hout)))) (fun j3 hj3 e3 => br_t rfl ?_)))
  obtain ⟨hn, hN⟩ := hx.1 j1 hj1
  refine br_c (fun h => bad (Or.inr (Or.inr ⟨j1, hj1, e1, fun j hj e => ?_⟩))) (fun h => ?_)
  · rw [e] at h
    exact nI_pos (by omega) h
  · obtain ⟨j2, hj2, e2⟩ := nI_of h
    subst e1 e2 e3
    refine ⟨vp_in_nI hj1 (by decide), ?_⟩
    rw [nI_clamp (by omega), hn]
    refine pk_lt j2 (N j1) (fun hl => ?_) (fun hl => bad (Or.inr (Or.inr ⟨j1, hj1, rfl, fun j hj e => ?_⟩)))
    · rw [nz_3, nz_16, nI_clamp (by omega), hx.2 (3 * j1 + j3) j2 (by omega) (by rw [show (3 * j1 + j3) / 3 = j1 by omega]; exact hl)]
      refine ⟨vp_in_nI (by omega) (by decide), yv_value hy (fun z => ?_) (fun t i c ht hc hi e1 e2 e3 => ?_)⟩
      · rcases z with z | z | ⟨t', ht', e, z⟩
        · exact rg_no z hj1 rfl
        · exact rg_no z hj3 rfl
        · rw [nI_eq (by omega) (by omega)] at e
          subst e
          exact rg_no z hl rfl
      · rw [nI_eq (by omega) (by omega)] at e1 e3
        subst e1 e3
        have := (hy.1 j1 ht).2
        rw [nI_eq (by omega) (by omega)] at e2
        subst e2
        exact ⟨rfl, I2⟩
    · rw [nI_eq hj2 (by omega)] at e
      omega
