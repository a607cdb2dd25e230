/-! the draft's methods, and reading -/
theorem rg_c (p : Int32) (n : Nat) (hn : n < 2 ^ 31) : (∀ j, j < n → p ≠ nI j) ∨ ∃ j, j < n ∧ p = nI j := by
  rcases pk_ix p hn with h | h | h
  · exact Or.inl (fun j hj e => nI_pos (by omega) (e ▸ h))
  · refine Or.inl (fun j hj e => ?_)
    rw [e] at h
    exact nI_ge hj hn h
  · exact Or.inr h
theorem rg_lt {p f : Int32} {A B : Prop} (n : Nat) (ha : (∀ j, j < n → p ≠ nI j) → A) (hb : ∀ j, j < n → p = nI j → B) (hf : f = nI n := by rfl) (hn : n < 2 ^ 31 := by omega) : (p < 0 → A) ∧ (¬ p < 0 → ((p < f → B) ∧ (¬ p < f → A))) := by
  subst hf
  refine br_c (fun h => ha (fun j hj e => nI_pos (by omega) (e ▸ h))) (fun h => ?_)
  obtain ⟨j, hj, rfl⟩ := nI_of h
  refine pk_lt j n (fun h => hb j h rfl) (fun h => ha (fun q hq e => ?_))
  rw [nI_eq hj (by omega)] at e
  omega
theorem rg_le {p f : Int32} {A B : Prop} (n : Nat) (ha : (∀ j, j < n + 1 → p ≠ nI j) → A) (hb : ∀ j, j < n + 1 → p = nI j → B) (hf : f = nI n := by rfl) (hn : n < 2 ^ 30 := by omega) : (p < 0 → A) ∧ (¬ p < 0 → ((p ≤ f → B) ∧ (¬ p ≤ f → A))) := by
  subst hf
  refine br_c (fun h => ha (fun j hj e => nI_pos (by omega) (e ▸ h))) (fun h => ?_)
  obtain ⟨j, hj, rfl⟩ := nI_of h
  refine pk_le j n (fun h => hb j (by omega) rfl) (fun h => ha (fun q hq e => ?_))
  rw [nI_eq hj (by omega)] at e
  omega
theorem rg_ge {p f : Int32} {A B : Prop} (n : Nat) (ha : (∀ j, j < n → p ≠ nI j) → A) (hb : ∀ j, j < n → p = nI j → B) (hf : f = nI n := by rfl) (hn : n < 2 ^ 31 := by omega) : (p < 0 → A) ∧ (¬ p < 0 → ((f ≤ p → A) ∧ (¬ f ≤ p → B))) := by
  subst hf
  refine br_c (fun h => ha (fun j hj e => nI_pos (by omega) (e ▸ h))) (fun h => ?_)
  obtain ⟨j, hj, rfl⟩ := nI_of h
  refine pk_le n j (fun h => ha (fun q hq e => ?_)) (fun h => hb j h rfl)
  rw [nI_eq hj (by omega)] at e
  omega
theorem rg_no {p : Int32} {n j : Nat} {P : Prop} (h : ∀ j, j < n → p ≠ nI j) (hj : j < n) (e : p = nI j) : P := absurd e (h j hj)
def ex_n (g : Nat → Nat) (n j : Nat) : Nat → Nat := fun s => if s = n then j else g s
theorem ex_s {g : Nat → Nat} {n j : Nat} : ex_n g n j n = j := if_pos rfl
theorem ex_o {g : Nat → Nat} {n j s : Nat} (h : s < n) : ex_n g n j s = g s := if_neg (by omega)
theorem ex_us {f : Nat → Int32} {n : Nat} {x : Int32} (hn : n < 2 ^ 31) : upd f (nI n).toNatClampNeg x n = x := by rw [nI_clamp hn]; exact pk_us
theorem ex_uo {f : Nat → Int32} {n s : Nat} {x : Int32} (hn : n < 2 ^ 31) (h : s < n) : upd f (nI n).toNatClampNeg x s = f s := by rw [nI_clamp hn]; exact pk_un (by omega)
theorem bz_b (v : Int32) : ∃ b, lw_bz v = bo_i b := by
  rcases lw_bz_01 v with h | h
  · exact ⟨false, h⟩
  · exact ⟨true, h⟩
theorem i_vc_source {k : Nat} {u : SX} {v : SY} (I : i_Rel k u v) (hk : k + 6 ≤ 3072) (v1 : Int32) : wpX_source (fun r u' => wpY_source (fun r' v' => r' = r ∧ i_Rel (k + 6) u' v') v v1) u v1 := by
  rcases u with ⟨toX, soX, coX, ouX, kyX, moX, diX, rrX, rwX, ceX, rcX, unX, rqX, taX, acX, sceX, srcX, sunX, srqX, staX, sacX, stX, cfX, cpX, chX, csX, okX, ocX, koX, kfX, cbX, mkX, fvX, ovX, rsX, rtX⟩
  rcases v with ⟨opY, soY, coY, ouY, kyY, liY, diY, cmY, rrY, wiY, ceY, oceY, bceY, maY, omaY, bmaY, unY, rqY, bunY, brqY, rfY, acY, brfY, bacY, srY, csY, ccY, cpY, cwY, okY, osY, ocY, koY, ciY, kfY, cbY, goY, rsY, geY, keY⟩
  obtain ⟨hdb, hsv, hdr, hli, hre⟩ := I
  have keep := hdr
  obtain ⟨ns, nc, no, nk, S, CS, CC, CO, CI, CW, OK, OS, OC, KO, ⟨rfl, rfl, rfl, rfl⟩, ⟨rfl, rfl, rfl, rfl⟩, hS, hc, ho, hq, hK⟩ := hdr
  refine xm_out v1 (fun hout => ?_) (fun j hj e => ?_)
  · refine br_f (by decide) ?_
    exact ym_within (n := 3) (by decide) (fun _ => br_t rfl ⟨rfl, hdb, hsv, keep, hli, hre⟩) (fun j hj e => rg_no hout hj e)
  · subst e
    have h3 := hK.1.1
    refine br_t rfl (pk_lt ns 3 (fun h => ?_) (fun h => ?_))
    · refine ⟨vp_in_nI h (by decide), nm_e (nm_r (nI_1 ns) ?_)⟩
      refine ym_within (n := 3) (by decide) (fun h => rg_no h hj rfl) (fun _ _ _ => ?_)
      refine br_f (by decide) (pk_eq ns 3 (fun z => absurd z (by omega)) (fun _ => ?_))
      refine nm_r (nI_1 ns) ⟨vp_in_nI h (by decide), nm_e ⟨rfl, hdb, hsv, ?_, hli, hre⟩⟩
      refine ⟨ns + 1, nc, no, nk, ex_n S ns j, CS, CC, CO, CI, CW, OK, OS, OC, KO, ⟨rfl, rfl, rfl, rfl⟩, ⟨rfl, rfl, rfl, rfl⟩, lt_s (fun s hs => ?_) ?_, hc, ho, hq, ⟨⟨by omega, hK.1.2⟩, lt_s (fun s hs => ?_) ?_, fun k hk => ?_, fun k hk => ?_, hK.2.2.2.2⟩⟩
      · rw [ex_uo (by omega) hs, ex_uo (by omega) hs, ex_o hs]
        exact hS s hs
      · rw [ex_us (by omega), ex_us (by omega), ex_s]
        exact ⟨rfl, rfl⟩
      · rw [ex_o hs]
        exact hK.2.1 s hs
      · rw [ex_s]
        exact hj
      · obtain ⟨a, b, c, d⟩ := hK.2.2.1 k hk
        refine ⟨by omega, b, c, fun z => ?_⟩
        obtain ⟨w, e, hw⟩ := d z
        exact ⟨w, e, by omega⟩
      · obtain ⟨a, b, c⟩ := hK.2.2.2.1 k hk
        exact ⟨a, fun z => by have := b z; omega, c⟩
    · refine ym_within (n := 3) (by decide) (fun h => rg_no h hj rfl) (fun _ _ _ => ?_)
      refine br_f (by decide) (pk_eq ns 3 (fun _ => ⟨rfl, hdb, hsv, keep, hli, hre⟩) (fun z => absurd h3 (by omega)))
theorem i_vc_condition {k : Nat} {u : SX} {v : SY} (I : i_Rel k u v) (hk : k + 6 ≤ 3072) (v1 : Int32) (v2 : Int32) (v3 : Int32) (v4 : Int32) (v5 : Int32) : wpX_condition (fun r u' => wpY_condition (fun r' v' => r' = r ∧ i_Rel (k + 6) u' v') v v1 v2 v3 (lw_bz v4) v5) u v1 v2 v3 (lw_bz v4) v5 := by
  rcases u with ⟨toX, soX, coX, ouX, kyX, moX, diX, rrX, rwX, ceX, rcX, unX, rqX, taX, acX, sceX, srcX, sunX, srqX, staX, sacX, stX, cfX, cpX, chX, csX, okX, ocX, koX, kfX, cbX, mkX, fvX, ovX, rsX, rtX⟩
  rcases v with ⟨opY, soY, coY, ouY, kyY, liY, diY, cmY, rrY, wiY, ceY, oceY, bceY, maY, omaY, bmaY, unY, rqY, bunY, brqY, rfY, acY, brfY, bacY, srY, csY, ccY, cpY, cwY, okY, osY, ocY, koY, ciY, kfY, cbY, goY, rsY, geY, keY⟩
  obtain ⟨hdb, hsv, hdr, hli, hre⟩ := I
  have keep := hdr
  obtain ⟨ns, nc, no, nk, S, CS, CC, CO, CI, CW, OK, OS, OC, KO, ⟨rfl, rfl, rfl, rfl⟩, ⟨rfl, rfl, rfl, rfl⟩, hS, hc, ho, hq, hK⟩ := hdr
  have h3 := hK.1.1
  have h6 := hK.1.2.1
  obtain ⟨b, eb⟩ := bz_b v4
  rw [eb]
  refine rg_lt ns (fun hout => ?_) (fun j1 hj1 e1 => ?_)
  · exact br_f (by decide) (ym_within (n := ns) (by omega) (fun _ => br_t rfl ⟨rfl, hdb, hsv, keep, hli, hre⟩) (fun j hj e => rg_no hout hj e))
  · subst e1
    refine br_t rfl (xm_out v2 (fun hout => ?_) (fun j2 hj2 e2 => ?_))
    · exact br_f (by decide) (ym_within (n := ns) (by omega) (fun h => rg_no h hj1 rfl) (fun _ _ _ => br_f (by decide) (ym_within (n := 3) (by decide) (fun _ => br_t rfl ⟨rfl, hdb, hsv, keep, hli, hre⟩) (fun j hj e => rg_no hout hj e))))
    · subst e2
      refine br_t rfl (rg_le 5 (fun hout => ?_) (fun j3 hj3 e3 => ?_))
      · exact ym_within (n := ns) (by omega) (fun h => rg_no h hj1 rfl) (fun _ _ _ => br_f (by decide) (ym_within (n := 3) (by decide) (fun h => rg_no h hj2 rfl) (fun _ _ _ => br_f (by decide) (ym_within (n := 6) (by decide) (fun _ => br_t rfl ⟨rfl, hdb, hsv, keep, hli, hre⟩) (fun j hj e => rg_no hout hj e)))))
      · subst e3
        have ygo : ∀ {post : Int32 → SY → Prop}, (b = true → ∃ w, v5 = nI w ∧ w < 3 * ns) → wY_condition_49 post (nI j1) (nI j2) (nI j3) (bo_i b) v5 opY (nI ns) (nI nc) (nI no) (nI nk) liY diY cmY rrY wiY ceY oceY bceY maY omaY bmaY unY rqY bunY brqY rfY acY brfY bacY srY csY ccY cpY cwY okY osY ocY koY ciY kfY cbY goY rsY geY keY → wpY_condition post (opY, nI ns, nI nc, nI no, nI nk, liY, diY, cmY, rrY, wiY, ceY, oceY, bceY, maY, omaY, bmaY, unY, rqY, bunY, brqY, rfY, acY, brfY, bacY, srY, csY, ccY, cpY, cwY, okY, osY, ocY, koY, ciY, kfY, cbY, goY, rsY, geY, keY) (nI j1) (nI j2) (nI j3) (bo_i b) v5 := by
          intro post hw h
          refine ym_within (n := ns) (by omega) (fun h => rg_no h hj1 rfl) (fun _ _ _ => br_f (by decide) (ym_within (n := 3) (by decide) (fun h => rg_no h hj2 rfl) (fun _ _ _ => br_f (by decide) (ym_within (n := 6) (by decide) (fun h => rg_no h hj3 rfl) (fun _ _ _ => br_f (by decide) ?_)))))
          cases b with
          | false => exact br_t rfl h
          | true =>
            obtain ⟨w, ew, hw⟩ := hw rfl
            refine br_f (by decide) ?_
            rw [nz_3m]
            exact ym_within (n := 3 * ns) (by omega) (fun z => rg_no z hw ew) (fun _ _ _ => br_f (by decide) h)
        have fin : (b = true → ∃ w, v5 = nI w ∧ w < 3 * ns) → wX_condition_49 (fun r u' => wpY_condition (fun r' v' => r' = r ∧ i_Rel (k + 6) u' v') (opY, nI ns, nI nc, nI no, nI nk, liY, diY, cmY, rrY, wiY, ceY, oceY, bceY, maY, omaY, bmaY, unY, rqY, bunY, brqY, rfY, acY, brfY, bacY, srY, csY, ccY, cpY, cwY, okY, osY, ocY, koY, ciY, kfY, cbY, goY, rsY, geY, keY) (nI j1) (nI j2) (nI j3) (bo_i b) v5) (nI j1) (nI j2) (nI j3) (bo_i b) v5 toX (nI ns) (nI nc) (nI no) (nI nk) moX diX rrX rwX ceX rcX unX rqX taX acX sceX srcX sunX srqX staX sacX stX cfX cpX chX csX okX ocX koX kfX cbX mkX fvX ovX rsX rtX := by
          intro hw
          refine pk_lt nc 6 (fun h => ?_) (fun h => ?_)
          · have h6 : vp_in (nI nc) 6 := vp_in_nI h (by decide)
            refine ⟨h6, nm_e ⟨h6, nm_e ⟨h6, nm_e ⟨h6, nm_e (nm_r (nI_1 nc) ?_)⟩⟩⟩⟩
            refine ygo hw (pk_eq nc 6 (fun z => absurd z (by omega)) (fun _ => ?_))
            refine ⟨h6, nm_e ⟨h6, nm_e ⟨h6, nm_e ⟨h6, nm_e ⟨h6, nm_e (nm_r (nI_1 nc) ⟨nI_1 nc, hdb, hsv, ?_, hli, hre⟩)⟩⟩⟩⟩⟩
            refine ⟨ns, nc + 1, no, nk, S, ex_n CS nc j1, ex_n CC nc j2, ex_n CO nc j3, (fun s => if s = nc then b else CI s), (fun s => if s = nc then v5 else CW s), OK, OS, OC, KO, ⟨rfl, rfl, rfl, rfl⟩, ⟨rfl, rfl, rfl, rfl⟩, hS, lt_s (fun s hs => ?_) ?_, ho, hq, ⟨⟨hK.1.1, by omega, hK.1.2.2⟩, hK.2.1, lt_s (fun s hs => ?_) ?_, hK.2.2.2⟩⟩
            · have hne : s ≠ nc := by omega
              simp only [ex_uo (show nc < 2 ^ 31 by omega) hs, ex_o hs, if_neg hne]
              exact hc s hs
            · simp only [ex_us (show nc < 2 ^ 31 by omega), ex_s, if_true, bo_nar, nz_3]
              exact ⟨⟨trivial, trivial, trivial, trivial⟩, trivial, trivial, trivial, trivial, trivial⟩
            · have hne : s ≠ nc := by omega
              simp only [ex_o hs, if_neg hne]
              exact hK.2.2.1 s hs
            · simp only [ex_s, if_true]
              exact ⟨hj1, hj2, hj3, hw⟩
          · exact ygo hw (pk_eq nc 6 (fun _ => ⟨rfl, hdb, hsv, keep, hli, hre⟩) (fun z => absurd h6 (by omega)))
        by_cases hb : b = true
        · refine br_f (bo_n.mpr hb) ?_
          rw [nz_3m]
          refine rg_lt (3 * ns) (fun hout => ?_) (fun w hw ew => fin (fun _ => ⟨w, ew, hw⟩))
          refine ym_within (n := ns) (by omega) (fun h => rg_no h hj1 rfl) (fun _ _ _ => br_f (by decide) (ym_within (n := 3) (by decide) (fun h => rg_no h hj2 rfl) (fun _ _ _ => br_f (by decide) (ym_within (n := 6) (by decide) (fun h => rg_no h hj3 rfl) (fun _ _ _ => br_f (by decide) (br_f (bo_n.mpr hb) ?_))))))
          rw [nz_3m]
          exact ym_within (n := 3 * ns) (by omega) (fun z => br_t rfl ⟨rfl, hdb, hsv, keep, hli, hre⟩) (fun j hj e => rg_no hout hj e)
        · exact br_t (bo_0.mpr (by simpa using hb)) (fin (fun z => absurd z hb))
theorem i_vc_output {k : Nat} {u : SX} {v : SY} (I : i_Rel k u v) (hk : k + 6 ≤ 3072) (v1 : Int32) (v2 : Int32) (v3 : Int32) : wpX_output (fun r u' => wpY_output (fun r' v' => r' = r ∧ i_Rel (k + 6) u' v') v v1 v2 v3) u v1 v2 v3 := by
  rcases u with ⟨toX, soX, coX, ouX, kyX, moX, diX, rrX, rwX, ceX, rcX, unX, rqX, taX, acX, sceX, srcX, sunX, srqX, staX, sacX, stX, cfX, cpX, chX, csX, okX, ocX, koX, kfX, cbX, mkX, fvX, ovX, rsX, rtX⟩
  rcases v with ⟨opY, soY, coY, ouY, kyY, liY, diY, cmY, rrY, wiY, ceY, oceY, bceY, maY, omaY, bmaY, unY, rqY, bunY, brqY, rfY, acY, brfY, bacY, srY, csY, ccY, cpY, cwY, okY, osY, ocY, koY, ciY, kfY, cbY, goY, rsY, geY, keY⟩
  obtain ⟨hdb, hsv, hdr, hli, hre⟩ := I
  have keep := hdr
  obtain ⟨ns, nc, no, nk, S, CS, CC, CO, CI, CW, OK, OS, OC, KO, ⟨rfl, rfl, rfl, rfl⟩, ⟨rfl, rfl, rfl, rfl⟩, hS, hc, ho, hq, hK⟩ := hdr
  have h3 := hK.1.1
  have h4 := hK.1.2.2.1
  refine rg_le 6 (fun hout => ?_) (fun j1 hj1 e1 => ?_)
  · exact ym_within (n := 7) (by decide) (fun _ => br_t rfl ⟨rfl, hdb, hsv, keep, hli, hre⟩) (fun j hj e => rg_no hout hj e)
  · subst e1
    have nxt : ∀ a b, a < 3 → (j1 ≠ 1 → a < ns) → (j1 = 1 → a = 0 ∧ b = 0) → b < 3 → rl_dr (nI ns) (nI nc) (nI (no + 1)) (nI nk) stX cfX cpX chX csX (upd okX (nI no).toNatClampNeg (nI j1)) (upd ocX (nI no).toNatClampNeg (nI (3 * a + b))) koX kfX (nI ns) (nI nc) (nI (no + 1)) (nI nk) srY csY ccY cpY cwY (upd okY (nI no).toNatClampNeg (nI j1)) (upd osY (nI no).toNatClampNeg (nI a)) (upd ocY (nI no).toNatClampNeg (nI b)) koY ciY kfY ∨ 4 ≤ no := by
      intro a b ha hn1 h1 hb
      by_cases h : no < 4
      · refine Or.inl ⟨ns, nc, no + 1, nk, S, CS, CC, CO, CI, CW, ex_n OK no j1, ex_n OS no a, ex_n OC no b, KO, ⟨rfl, rfl, rfl, rfl⟩, ⟨rfl, rfl, rfl, rfl⟩, hS, hc, lt_s (fun s hs => ?_) ?_, hq, ⟨⟨hK.1.1, hK.1.2.1, by omega, hK.1.2.2.2⟩, hK.2.1, hK.2.2.1, lt_s (fun s hs => ?_) ?_, fun k hk => ?_⟩⟩
        · simp only [ex_uo (show no < 2 ^ 31 by omega) hs, ex_o hs]
          exact ho s hs
        · simp only [ex_us (show no < 2 ^ 31 by omega), ex_s]
          exact ⟨⟨trivial, trivial⟩, trivial, trivial, trivial⟩
        · simp only [ex_o hs]
          exact hK.2.2.2.1 s hs
        · simp only [ex_s]
          exact ⟨hj1, hn1, h1, hb⟩
        · have := hK.2.2.2.2 k hk
          omega
      · exact Or.inr (by omega)
    by_cases e1 : j1 = 1
    · subst e1
      refine br_t rfl (pk_lt no 4 (fun h => ?_) (fun h => ?_))
      · refine ⟨vp_in_nI h (by decide), nm_e (br_t rfl ⟨vp_in_nI h (by decide), nm_e (nm_r (nI_1 no) ?_)⟩)⟩
        refine ym_within (n := 7) (by decide) (fun z => rg_no z hj1 rfl) (fun _ _ _ => br_f (by decide) (br_t rfl (pk_eq no 4 (fun z => absurd z (by omega)) (fun _ => ?_))))
        refine ⟨vp_in_nI h (by decide), nm_e (br_t rfl ⟨vp_in_nI h (by decide), nm_e (br_t rfl ⟨vp_in_nI h (by decide), nm_e (nm_r (nI_1 no) ⟨(nI_pred no).symm, hdb, hsv, ?_, hli, hre⟩)⟩)⟩)⟩
        rcases nxt 0 0 (by decide) (fun z => absurd rfl z) (fun _ => ⟨rfl, rfl⟩) (by decide) with z | z
        · exact z
        · omega
      · exact ym_within (n := 7) (by decide) (fun z => rg_no z hj1 rfl) (fun _ _ _ => br_f (by decide) (br_t rfl (pk_eq no 4 (fun _ => ⟨rfl, hdb, hsv, keep, hli, hre⟩) (fun z => absurd h4 (by omega)))))
    · have ne1 : ¬ nI j1 = 1 := fun z => e1 ((nI_eq (b := 1) (by omega) (by decide)).mp z)
      refine br_f ne1 (rg_lt ns (fun hout => ?_) (fun j2 hj2 e2 => ?_))
      · exact br_f (by decide) (ym_within (n := 7) (by decide) (fun z => rg_no z hj1 rfl) (fun _ _ _ => br_f (by decide) (br_f ne1 (ym_within (n := ns) (by omega) (fun _ => br_t rfl ⟨rfl, hdb, hsv, keep, hli, hre⟩) (fun j hj e => rg_no hout hj e)))))
      · subst e2
        refine br_t rfl (xm_out v3 (fun hout => ?_) (fun j3 hj3 e3 => ?_))
        · exact br_f (by decide) (ym_within (n := 7) (by decide) (fun z => rg_no z hj1 rfl) (fun _ _ _ => br_f (by decide) (br_f ne1 (ym_within (n := ns) (by omega) (fun z => rg_no z hj2 rfl) (fun _ _ _ => br_f (by decide) (ym_within (n := 3) (by decide) (fun _ => br_t rfl ⟨rfl, hdb, hsv, keep, hli, hre⟩) (fun j hj e => rg_no hout hj e)))))))
        · subst e3
          refine br_t rfl (pk_lt no 4 (fun h => ?_) (fun h => ?_))
          · refine ⟨vp_in_nI h (by decide), nm_e (br_f ne1 ⟨vp_in_nI h (by decide), nm_r (congrArg (upd ocX _) (nz_3 j2 j3)) (nm_r (nI_1 no) ?_)⟩)⟩
            refine ym_within (n := 7) (by decide) (fun z => rg_no z hj1 rfl) (fun _ _ _ => br_f (by decide) (br_f ne1 (ym_within (n := ns) (by omega) (fun z => rg_no z hj2 rfl) (fun _ _ _ => br_f (by decide) (ym_within (n := 3) (by decide) (fun z => rg_no z hj3 rfl) (fun _ _ _ => br_f (by decide) ?_))))))
            refine pk_eq no 4 (fun z => absurd z (by omega)) (fun _ => ?_)
            refine ⟨vp_in_nI h (by decide), nm_e (br_f ne1 ⟨vp_in_nI h (by decide), nm_e (br_f ne1 ⟨vp_in_nI h (by decide), nm_e (nm_r (nI_1 no) ⟨(nI_pred no).symm, hdb, hsv, ?_, hli, hre⟩)⟩)⟩)⟩
            rcases nxt j2 j3 (by omega) (fun _ => hj2) (fun z => absurd z e1) hj3 with z | z
            · exact z
            · omega
          · exact ym_within (n := 7) (by decide) (fun z => rg_no z hj1 rfl) (fun _ _ _ => br_f (by decide) (br_f ne1 (ym_within (n := ns) (by omega) (fun z => rg_no z hj2 rfl) (fun _ _ _ => br_f (by decide) (ym_within (n := 3) (by decide) (fun z => rg_no z hj3 rfl) (fun _ _ _ => br_f (by decide) (pk_eq no 4 (fun _ => ⟨rfl, hdb, hsv, keep, hli, hre⟩) (fun z => absurd h4 (by omega)))))))))
theorem i_vc_key {k : Nat} {u : SX} {v : SY} (I : i_Rel k u v) (hk : k + 6 ≤ 3072) (v1 : Int32) (v2 : Int32) : wpX_key (fun r u' => wpY_key (fun r' v' => r' = r ∧ i_Rel (k + 6) u' v') v v1 (lw_bz v2)) u v1 (lw_bz v2) := by
  rcases u with ⟨toX, soX, coX, ouX, kyX, moX, diX, rrX, rwX, ceX, rcX, unX, rqX, taX, acX, sceX, srcX, sunX, srqX, staX, sacX, stX, cfX, cpX, chX, csX, okX, ocX, koX, kfX, cbX, mkX, fvX, ovX, rsX, rtX⟩
  rcases v with ⟨opY, soY, coY, ouY, kyY, liY, diY, cmY, rrY, wiY, ceY, oceY, bceY, maY, omaY, bmaY, unY, rqY, bunY, brqY, rfY, acY, brfY, bacY, srY, csY, ccY, cpY, cwY, okY, osY, ocY, koY, ciY, kfY, cbY, goY, rsY, geY, keY⟩
  obtain ⟨hdb, hsv, hdr, hli, hre⟩ := I
  have keep := hdr
  obtain ⟨ns, nc, no, nk, S, CS, CC, CO, CI, CW, OK, OS, OC, KO, ⟨rfl, rfl, rfl, rfl⟩, ⟨rfl, rfl, rfl, rfl⟩, hS, hc, ho, hq, hK⟩ := hdr
  have h4 := hK.1.2.2.1
  have h2 := hK.1.2.2.2
  refine rg_lt no (fun hout => ?_) (fun j hj e => ?_)
  · exact ym_within (n := no) (by omega) (fun _ => br_t rfl ⟨rfl, hdb, hsv, keep, hli, hre⟩) (fun j hj e => rg_no hout hj e)
  · subst e
    refine pk_lt nk 2 (fun h => ?_) (fun h => ?_)
    · have hi : vp_in (nI nk) 2 := vp_in_nI h (by decide)
      refine ⟨hi, nm_e ⟨hi, nm_e (nm_r (nI_1 nk) ?_)⟩⟩
      refine ym_within (n := no) (by omega) (fun z => rg_no z hj rfl) (fun _ _ _ => br_f (by decide) (pk_eq nk 2 (fun z => absurd z (by omega)) (fun _ => ?_)))
      refine ⟨hi, nm_e ⟨hi, nm_e (nm_r (nI_1 nk) ⟨nI_1 nk, hdb, hsv, ?_, hli, hre⟩)⟩⟩
      refine ⟨ns, nc, no, nk + 1, S, CS, CC, CO, CI, CW, OK, OS, OC, ex_n KO nk j, ⟨rfl, rfl, rfl, rfl⟩, ⟨rfl, rfl, rfl, rfl⟩, hS, hc, ho, lt_s (fun s hs => ?_) ?_, ⟨⟨hK.1.1, hK.1.2.1, hK.1.2.2.1, by omega⟩, hK.2.1, hK.2.2.1, hK.2.2.2.1, lt_s (fun s hs => ?_) ?_⟩⟩
      · simp only [ex_uo (show nk < 2 ^ 31 by omega) hs, ex_o hs]
        exact hq s hs
      · simp only [ex_us (show nk < 2 ^ 31 by omega), ex_s]
        exact ⟨trivial, trivial, trivial⟩
      · simp only [ex_o hs]
        exact hK.2.2.2.2 s hs
      · simp only [ex_s]
        exact hj
    · exact ym_within (n := no) (by omega) (fun z => rg_no z hj rfl) (fun _ _ _ => br_f (by decide) (pk_eq nk 2 (fun _ => ⟨rfl, hdb, hsv, keep, hli, hre⟩) (fun z => absurd h2 (by omega))))
theorem bz_f (v : Int32) : fits .boolean (.int (lw_bz v)) = true := by
  rcases lw_bz_01 v with h | h <;> rw [h] <;> rfl
theorem i_vc_limit {k : Nat} {u : SX} {v : SY} (I : i_Rel k u v) (hk : k + 6 ≤ 3072) (v1 : Int32) (v2 : Int32) : wpX_limit (fun r u' => wpY_limit (fun r' v' => r' = r ∧ i_Rel (k + 6) u' v') v v1 (lw_bz v2)) u v1 (lw_bz v2) := by
  rcases u with ⟨toX, soX, coX, ouX, kyX, moX, diX, rrX, rwX, ceX, rcX, unX, rqX, taX, acX, sceX, srcX, sunX, srqX, staX, sacX, stX, cfX, cpX, chX, csX, okX, ocX, koX, kfX, cbX, mkX, fvX, ovX, rsX, rtX⟩
  rcases v with ⟨opY, soY, coY, ouY, kyY, liY, diY, cmY, rrY, wiY, ceY, oceY, bceY, maY, omaY, bmaY, unY, rqY, bunY, brqY, rfY, acY, brfY, bacY, srY, csY, ccY, cpY, cwY, okY, osY, ocY, koY, ciY, kfY, cbY, goY, rsY, geY, keY⟩
  obtain ⟨hdb, hsv, hdr, hli, hre⟩ := I
  refine rg_le 60 (fun hout => ?_) (fun j hj e => ?_)
  · exact rg_le 60 (fun _ => ⟨rfl, hdb, hsv, hdr, hli, hre⟩) (fun j hj e => rg_no hout hj e)
  · subst e
    refine ⟨lw_bz_n v2, bz_f v2, rg_le 60 (fun z => rg_no z hj rfl) (fun _ _ _ => ⟨lw_bz_n v2, bz_f v2, rfl, hdb, hsv, hdr, ?_, hre⟩)⟩
    exact ⟨rfl, rfl, ⟨j, by omega, rfl⟩, bz_b v2⟩
theorem i_vc_wipe {k : Nat} {u : SX} {v : SY} (I : i_Rel k u v) (hk : k + 6 ≤ 3072) : wpX_wipe (fun r u' => wpY_wipe (fun r' v' => r' = r ∧ i_Rel (k + 6) u' v') v) u := by
  rcases u with ⟨toX, soX, coX, ouX, kyX, moX, diX, rrX, rwX, ceX, rcX, unX, rqX, taX, acX, sceX, srcX, sunX, srqX, staX, sacX, stX, cfX, cpX, chX, csX, okX, ocX, koX, kfX, cbX, mkX, fvX, ovX, rsX, rtX⟩
  rcases v with ⟨opY, soY, coY, ouY, kyY, liY, diY, cmY, rrY, wiY, ceY, oceY, bceY, maY, omaY, bmaY, unY, rqY, bunY, brqY, rfY, acY, brfY, bacY, srY, csY, ccY, cpY, cwY, okY, osY, ocY, koY, ciY, kfY, cbY, goY, rsY, geY, keY⟩
  obtain ⟨hdb, hsv, hdr, hli, hre⟩ := I
  obtain ⟨ns, nc, no, nk, S, CS, CC, CO, CI, CW, OK, OS, OC, KO, ⟨rfl, rfl, rfl, rfl⟩, ⟨rfl, rfl, rfl, rfl⟩, hS, hc, ho, hq, hK⟩ := hdr
  refine ⟨rfl, hdb, hsv, ?_, ⟨rfl, rfl, ⟨60, by decide, rfl⟩, false, rfl⟩, hre⟩
  exact ⟨0, 0, 0, 0, S, CS, CC, CO, CI, CW, OK, OS, OC, KO, ⟨rfl, rfl, rfl, rfl⟩, ⟨rfl, rfl, rfl, rfl⟩, lt_0, lt_0, lt_0, lt_0, ⟨by decide, by decide, by decide, by decide⟩, lt_0, lt_0, lt_0, lt_0⟩
theorem i_vc_cell {k : Nat} {u : SX} {v : SY} (I : i_Rel k u v) (hk : k + 6 ≤ 3072) (v1 : Int32) (v2 : Int32) : wpX_cell (fun r => wpY_cell (fun r' => r' = r ∧ i_Rel (k + 6) u v) v v1 v2) u v1 v2 := by
  have I2 : i_Rel (k + 6) u v := I
  rcases u with ⟨toX, soX, coX, ouX, kyX, moX, diX, rrX, rwX, ceX, rcX, unX, rqX, taX, acX, sceX, srcX, sunX, srqX, staX, sacX, stX, cfX, cpX, chX, csX, okX, ocX, koX, kfX, cbX, mkX, fvX, ovX, rsX, rtX⟩
  rcases v with ⟨opY, soY, coY, ouY, kyY, liY, diY, cmY, rrY, wiY, ceY, oceY, bceY, maY, omaY, bmaY, unY, rqY, bunY, brqY, rfY, acY, brfY, bacY, srY, csY, ccY, cpY, cwY, okY, osY, ocY, koY, ciY, kfY, cbY, goY, rsY, geY, keY⟩
  obtain ⟨hdb, hsv, hdr, hli, hre⟩ := I
  obtain ⟨nr, hnr, rfl, rfl, hw⟩ := hre
  refine rg_ge nr (fun hout => ?_) (fun i hi e => ?_)
  · exact ym_within (n := nr) (by omega) (fun _ => br_t rfl ⟨rfl, I2⟩) (fun j hj e => rg_no hout hj e)
  · subst e
    rcases hw with hw | ⟨w, hw4, rfl, rfl, hw⟩
    · omega
    refine rg_lt w (fun hout => ?_) (fun q hq e => ?_)
    · exact ym_within (n := nr) (by omega) (fun z => rg_no z hi rfl) (fun _ _ _ => br_f (by decide) (ym_within (n := w) (by omega) (fun _ => br_t rfl ⟨rfl, I2⟩) (fun j hj e => rg_no hout hj e)))
    · subst e
      rw [nz_4, nI_clamp (by omega)]
      refine ⟨vp_in_nI (by omega) (by decide), ym_within (n := nr) (by omega) (fun z => rg_no z hi rfl) (fun _ _ _ => br_f (by decide) (ym_within (n := w) (by omega) (fun z => rg_no z hq rfl) (fun _ _ _ => br_f (by decide) ?_)))⟩
      rw [nz_4, nI_clamp (by omega)]
      exact ⟨vp_in_nI (by omega) (by decide), (hw i q hi hq).symm, I2⟩
theorem i_vc_rows {k : Nat} {u : SX} {v : SY} (I : i_Rel k u v) (hk : k + 6 ≤ 3072) (v1 : Int32) : wpX_rows (fun r => wpY_rows (fun r' => r' = r ∧ i_Rel (k + 6) u v) v v1) u v1 := by
  have I2 : i_Rel (k + 6) u v := I
  rcases u with ⟨toX, soX, coX, ouX, kyX, moX, diX, rrX, rwX, ceX, rcX, unX, rqX, taX, acX, sceX, srcX, sunX, srqX, staX, sacX, stX, cfX, cpX, chX, csX, okX, ocX, koX, kfX, cbX, mkX, fvX, ovX, rsX, rtX⟩
  rcases v with ⟨opY, soY, coY, ouY, kyY, liY, diY, cmY, rrY, wiY, ceY, oceY, bceY, maY, omaY, bmaY, unY, rqY, bunY, brqY, rfY, acY, brfY, bacY, srY, csY, ccY, cpY, cwY, okY, osY, ocY, koY, ciY, kfY, cbY, goY, rsY, geY, keY⟩
  obtain ⟨⟨N, D, U, R, T, A, hx, _, hy, _, _⟩, hsv, hdr, hli, hre⟩ := I
  refine xm_out v1 (fun hout => ?_) (fun j hj e => ?_)
  · exact br_f (by decide) (ym_within (n := 3) (by decide) (fun _ => br_t rfl ⟨rfl, I2⟩) (fun j hj e => rg_no hout hj e))
  · subst e
    refine br_t rfl ⟨vp_in_nI hj (by decide), ym_within (n := 3) (by decide) (fun z => rg_no z hj rfl) (fun _ _ _ => br_f (by decide) ⟨vp_in_nI hj (by decide), ?_, I2⟩)⟩
    rw [nI_clamp (by omega), (hx.1 j hj).1, (hy.1 j hj).1]
theorem i_vc_value {k : Nat} {u : SX} {v : SY} (I : i_Rel k u v) (hk : k + 6 ≤ 3072) (v1 : Int32) (v2 : Int32) (v3 : Int32) : wpX_value (fun r => wpY_value (fun r' => r' = r ∧ i_Rel (k + 6) u v) v v1 v2 v3) u v1 v2 v3 := by
  have I2 : i_Rel (k + 6) u v := I
  rcases u with ⟨toX, soX, coX, ouX, kyX, moX, diX, rrX, rwX, ceX, rcX, unX, rqX, taX, acX, sceX, srcX, sunX, srqX, staX, sacX, stX, cfX, cpX, chX, csX, okX, ocX, koX, kfX, cbX, mkX, fvX, ovX, rsX, rtX⟩
  rcases v with ⟨opY, soY, coY, ouY, kyY, liY, diY, cmY, rrY, wiY, ceY, oceY, bceY, maY, omaY, bmaY, unY, rqY, bunY, brqY, rfY, acY, brfY, bacY, srY, csY, ccY, cpY, cwY, okY, osY, ocY, koY, ciY, kfY, cbY, goY, rsY, geY, keY⟩
  obtain ⟨⟨N, D, U, R, T, A, hx, _, hy, _, _⟩, hsv, hdr, hli, hre⟩ := I
  refine xm_out v1 (fun hout => ?_) (fun j1 hj1 e1 => ?_)
  · exact br_f (by decide) (ym_within (n := 3) (by decide) (fun _ => br_t rfl ⟨rfl, I2⟩) (fun j hj e => rg_no hout hj e))
  · subst e1
    refine br_t rfl (xm_out v3 (fun hout => ?_) (fun j3 hj3 e3 => ?_))
    · exact br_f (by decide) (ym_within (n := 3) (by decide) (fun z => rg_no z hj1 rfl) (fun _ _ _ => br_f (by decide) (ym_within (n := 3) (by decide) (fun _ => br_t rfl ⟨rfl, I2⟩) (fun j hj e => rg_no hout hj e))))
    · subst e3
      obtain ⟨hn, hN⟩ := hx.1 j1 hj1
      have hm := (hy.1 j1 hj1).1
      have hi3 : vp_in (nI j1) 3 := vp_in_nI hj1 (by decide)
      have e0 : (nI j1).toNatClampNeg = j1 := nI_clamp (by omega)
      refine br_t rfl (br_c (fun h => ?_) (fun h => ⟨hi3, ?_⟩))
      · refine ym_within (n := 3) (by decide) (fun z => rg_no z hj1 rfl) (fun _ _ _ => br_f (by decide) (ym_within (n := 3) (by decide) (fun z => rg_no z hj3 rfl) (fun _ _ _ => br_f (by decide) ⟨hi3, ?_⟩)))
        rw [e0, hm]
        exact ym_within (n := N j1) (by omega) (fun _ => br_t rfl ⟨rfl, I2⟩) (fun j hj e => absurd h (e ▸ nI_pos (by omega)))
      · obtain ⟨j2, hj2, rfl⟩ := nI_of h
        rw [e0, hn]
        refine pk_lt j2 (N j1) (fun hl => ?_) (fun hl => ?_)
        · rw [nz_3, nz_16, nI_clamp (by omega), hx.2 (3 * j1 + j3) j2 (by omega) (by rw [show (3 * j1 + j3) / 3 = j1 by omega]; exact hl)]
          refine ⟨vp_in_nI (by omega) (by decide), ym_within (n := 3) (by decide) (fun z => rg_no z hj1 rfl) (fun _ _ _ => br_f (by decide) (ym_within (n := 3) (by decide) (fun z => rg_no z hj3 rfl) (fun _ _ _ => br_f (by decide) ⟨hi3, ?_⟩)))⟩
          rw [e0, hm]
          refine ym_within (n := N j1) (by omega) (fun z => rg_no z hl rfl) (fun _ _ _ => br_f (by decide) ?_)
          rw [nz_48, nz_3m, nI_add, nI_add, nI_clamp (by omega)]
          refine ⟨vp_in_nI (by omega) (by decide), ?_, I2⟩
          have := hy.2 (3 * j1 + j3) j2 (by omega) (by rw [show (3 * j1 + j3) / 3 = j1 by omega]; exact hl)
          rw [show (3 * j1 + j3) / 3 = j1 by omega, show (3 * j1 + j3) % 3 = j3 by omega] at this
          exact this
        · refine ym_within (n := 3) (by decide) (fun z => rg_no z hj1 rfl) (fun _ _ _ => br_f (by decide) (ym_within (n := 3) (by decide) (fun z => rg_no z hj3 rfl) (fun _ _ _ => br_f (by decide) ⟨hi3, ?_⟩)))
          rw [e0, hm]
          refine ym_within (n := N j1) (by omega) (fun _ => br_t rfl ⟨rfl, I2⟩) (fun j hj e => ?_)
          rw [nI_eq hj2 (by omega)] at e
          omega
