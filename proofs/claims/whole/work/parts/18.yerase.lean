section
variable {opY soY coY ouY kyY liY diY cmY rrY wiY : Int32} {ceY oceY bceY rsY : Nat → Int64} {maY omaY bmaY unY rqY bunY brqY rfY acY brfY bacY srY csY ccY cpY cwY okY osY ocY koY ciY kfY cbY goY geY keY : Nat → Int32} {N : Nat → Nat} {D : Nat → Nat → Int64} {U R : Nat → Bool} {T A : Nat → Nat} {M M0 : Nat → Bool}
theorem nz_d16 {k : Nat} (hk : k < 2 ^ 31) : nI k / 16 = nI (k / 16) := pk_div (d := 16) hk (by decide) (by decide)
theorem nz_r16 {k : Nat} (hk : k < 2 ^ 31) : nI k - nI k / 16 * 16 = nI (k % 16) := pk_rem (d := 16) hk (by decide) (by decide)
theorem nz_16ne : ¬ (16 : Int32) = 0 := by decide
theorem ym_loses {post : Int32 → Prop} (hC : db_yc N D ceY maY) (hk : db_k U R T A unY rqY rfY acY) (hm : ∀ x, x < 48 → geY x = bo_i (M x)) {c i : Nat} (hc : c < 9) (hi : i < N (c / 3)) (h1 : lo_p N D T M c i → post 1) (h0 : ¬ lo_p N D T M c i → post 0) : wpY_loses post (opY, soY, coY, ouY, kyY, liY, diY, cmY, rrY, wiY, ceY, oceY, bceY, maY, omaY, bmaY, unY, rqY, bunY, brqY, rfY, acY, brfY, bacY, srY, csY, ccY, cpY, cwY, okY, osY, ocY, koY, ciY, kfY, cbY, goY, rsY, geY, keY) (nI c) (nI i) := by
  unfold wpY_loses
  dsimp only
  have ec : (nI c).toNatClampNeg = c := nI_clamp (by omega)
  refine ym_at hC hc hi ⟨vp_in_nI hc (by decide), nm_r (e' := ta_i (T c)) (by rw [ec]; exact (hk c hc).2.2.1) ?_⟩
  by_cases hv : D c i = nu_l
  · exact br_t hv (h0 (fun z => z.1 hv))
  · refine br_f hv ?_
    by_cases ht : T c < 9
    · rw [ta_lt ht]
      refine br_t (nI_pos' (by omega)) ?_
      obtain ⟨hn, hN⟩ := hC.1 (T c / 3) (by omega)
      have hi3 : vp_in (nI (T c) / 3) 3 := by rw [nz_d3 (by omega)]; exact vp_in_nI (by omega) (by decide)
      have en : maY (nI (T c) / 3).toNatClampNeg = nI (N (T c / 3)) := by rw [nz_d3 (by omega), nI_clamp (by omega)]; exact hn
      refine loop_0 (fun n j (_ : Unit) => wY_loses_33 post (D c i) (nI (T c)) opY soY coY ouY kyY liY diY cmY rrY wiY ceY oceY bceY maY omaY bmaY unY rqY bunY brqY rfY acY brfY bacY srY csY ccY cpY cwY okY osY ocY koY ciY kfY cbY goY rsY geY keY n (nI j)) (fun j _ => ∀ q, q < j → ¬ (M (16 * (T c / 3) + q) = true ∧ D (T c) q = D c i)) (N (T c / 3)) () lt_0 ?_ ?_
      · intro n _ hI
        refine ⟨nz_3ne, hi3, ?_⟩
        rw [en]
        refine br_t (nI_le (Nat.le_refl _) (by omega)) (h0 (fun z => ?_))
        obtain ⟨_, _, j, hj, w⟩ := z
        exact hI j hj w
      · intro n j _ hj hI hn'
        refine ⟨nz_3ne, hi3, ?_⟩
        rw [en]
        refine br_f (nI_ge hj (by omega)) ⟨nz_3ne, ?_⟩
        rw [show geY (16 * (nI (T c) / 3) + nI j).toNatClampNeg = bo_i (M (16 * (T c / 3) + j)) by rw [nz_d3 (by omega), nz_16, nI_clamp (by omega)]; exact hm _ (by omega)]
        refine ⟨by rw [nz_d3 (by omega), nz_16]; exact vp_in_nI (by omega) (by decide), ?_⟩
        by_cases mj : M (16 * (T c / 3) + j) = true
        · refine br_f (bo_n.mpr mj) (ym_at hC ht hj ?_)
          by_cases e : D (T c) j = D c i
          · exact br_t e (h1 ⟨hv, ht, j, hj, mj, e⟩)
          · exact br_f e (nm_r (nI_1 j) (hn' () (lt_s hI (fun z => e z.2))))
        · exact br_t (bo_0.mpr (by simpa using mj)) (nm_r (nI_1 j) (hn' () (lt_s hI (fun z => mj z.1))))
    · refine br_f (fun z => ?_) (h0 (fun z => ht z.2.1))
      rw [ta_ge ht] at z
      exact absurd z (by decide)
/-- one pass of Y's cascade -/
theorem ym_pass {post : Int32 → SY → Prop} {J : Int32 → (Nat → Int64) → (Nat → Int64) → (Nat → Int64) → (Nat → Int32) → (Nat → Int32) → (Nat → Int32) → (Nat → Int32) → (Nat → Int32) → (Nat → Int32) → (Nat → Int32) → (Nat → Int32) → (Nat → Int32) → (Nat → Int32) → (Nat → Int32) → (Nat → Int32) → (Nat → Int32) → (Nat → Int32) → (Nat → Int32) → (Nat → Int32) → (Nat → Int32) → (Nat → Int32) → (Nat → Int32) → (Nat → Int32) → (Nat → Int32) → (Nat → Int32) → (Nat → Int32) → (Nat → Int32) → (Nat → Int64) → (Nat → Int32) → (Nat → Int32) → Prop} {x1 : Int32} (hC : db_yc N D ceY maY) (hk : db_k U R T A unY rqY rfY acY) (hA : ∀ c, c < 9 → A c ≤ 2) (hm : ∀ x, x < 48 → geY x = bo_i (M x)) (sn : sn_d N D T A M0 M)
    (h0 : cl_c N D T A M → ∀ ge, (∀ x, x < 48 → ge x = bo_i (M x)) → J 0 ceY oceY bceY maY omaY bmaY unY rqY bunY brqY rfY acY brfY bacY srY csY ccY cpY cwY okY osY ocY koY ciY kfY cbY goY rsY ge keY)
    (h1 : ∀ ge M', (∀ x, x < 48 → ge x = bo_i (M' x)) → sn_d N D T A M0 M' → cn_b M 48 < cn_b M' 48 → J 1 ceY oceY bceY maY omaY bmaY unY rqY bunY brqY rfY acY brfY bacY srY csY ccY cpY cwY okY osY ocY koY ciY kfY cbY goY rsY ge keY) : ∃ n, wY_erase_93 post J x1 opY soY coY ouY kyY liY diY cmY rrY wiY n 0 0 ceY oceY bceY maY omaY bmaY unY rqY bunY brqY rfY acY brfY bacY srY csY ccY cpY cwY okY osY ocY koY ciY kfY cbY goY rsY geY keY := by
  have h16 : ∀ t, t < 3 → N t ≤ 16 := fun t ht => (hC.1 t ht).2
  refine loop_0 (fun n k (s : Int32 × (Nat → Int32)) => wY_erase_93 post J x1 opY soY coY ouY kyY liY diY cmY rrY wiY n s.1 (nI k) ceY oceY bceY maY omaY bmaY unY rqY bunY brqY rfY acY brfY bacY srY csY ccY cpY cwY okY osY ocY koY ciY kfY cbY goY rsY s.2 keY) (fun k s => ∃ M', (∀ x, x < 48 → s.2 x = bo_i (M' x)) ∧ sn_d N D T A M0 M' ∧ ((s.1 = 0 ∧ M' = M ∧ ∀ q, q < k → q % 16 < N (q / 16 / 3) → A (q / 16) = 1 → lo_p N D T M (q / 16) (q % 16) → M (16 * (q / 16 / 3) + q % 16) = true) ∨ (s.1 = 1 ∧ cn_b M 48 < cn_b M' 48))) 144 (0, geY) ⟨M, hm, sn, Or.inl ⟨rfl, rfl, lt_0⟩⟩ ?_ ?_
  · rintro n ⟨x, ge⟩ ⟨M', hm', sn', hor⟩
    refine br_t (by decide) ?_
    rcases hor with ⟨e, eM, hr⟩ | ⟨e, b⟩
    · subst eM
      have e : x = 0 := e
      subst e
      refine h0 (fun c r hc hr' ha hl => ?_) ge hm'
      have hN := h16 (c / 3) (by omega)
      have := hr (16 * c + r) (by omega)
      rw [show (16 * c + r) / 16 = c by omega, show (16 * c + r) % 16 = r by omega] at this
      exact this hr' ha hl
    · have e : x = 1 := e
      subst e
      exact h1 ge M' hm' sn' b
  · rintro n k ⟨x, ge⟩ hk' ⟨M', hm', sn', hor⟩ hn'
    obtain ⟨hn, hN⟩ := hC.1 (k / 16 / 3) (by omega)
    have hc9 : k / 16 < 9 := by omega
    have hA' := hA (k / 16) hc9
    have skip : (k % 16 < N (k / 16 / 3) → A (k / 16) = 1 → lo_p N D T M' (k / 16) (k % 16) → M' (16 * (k / 16 / 3) + k % 16) = true) → wY_erase_93 post J x1 opY soY coY ouY kyY liY diY cmY rrY wiY n x (nI (k + 1)) ceY oceY bceY maY omaY bmaY unY rqY bunY brqY rfY acY brfY bacY srY csY ccY cpY cwY okY osY ocY koY ciY kfY cbY goY rsY ge keY := by
      intro hs
      refine hn' (x, ge) ⟨M', hm', sn', ?_⟩
      rcases hor with ⟨e, eM, hr⟩ | w
      · subst eM
        exact Or.inl ⟨e, rfl, lt_s hr hs⟩
      · exact Or.inr w
    refine br_f (nI_ge (b := 144) hk' (by decide)) ⟨nz_16ne, nm_r (nz_d16 (by omega)) ⟨nz_16ne, nm_r (nz_r16 (by omega)) ⟨nz_3ne, nm_r (e' := nI (16 * (k / 16 / 3) + k % 16)) (by rw [nz_d3 (by omega), nz_16]) ⟨nz_3ne, ?_⟩⟩⟩⟩
    rw [nz_d3 (by omega), nI_clamp (show k / 16 / 3 < 2 ^ 31 by omega), hn, nI_clamp (show 16 * (k / 16 / 3) + k % 16 < 2 ^ 31 by omega), hm' _ (by omega), nI_clamp (show k / 16 < 2 ^ 31 by omega), (hk _ hc9).2.2.2]
    refine ⟨vp_in_nI (by omega) (by decide), pk_le (N (k / 16 / 3)) (k % 16) (fun z => nm_r (nI_1 k) (skip (fun w => absurd w (by omega)))) (fun hr => ⟨vp_in_nI (by omega) (by decide), ?_⟩)⟩
    cases hb : M' (16 * (k / 16 / 3) + k % 16) with
    | true => exact br_f (by decide) (nm_r (nI_1 k) (skip (fun _ _ _ => hb)))
    | false =>
      refine br_t rfl ⟨vp_in_nI hc9 (by decide), ?_⟩
      by_cases ha : A (k / 16) = 1
      · refine br_t (by rw [ha]; rfl) (ym_loses hC hk hm' hc9 hr (fun l => ?_) (fun l => ?_))
        · refine br_f (by decide) ⟨vp_in_nI (by omega) (by decide), nm_r (e' := upd ge (16 * (k / 16 / 3) + k % 16) (bo_i true)) (by rw [bo_nar1]) (nm_r (nI_1 k) (hn' (1, upd ge (16 * (k / 16 / 3) + k % 16) (bo_i true)) ⟨st_b M' (16 * (k / 16 / 3) + k % 16), st_ar hm', sn_step h16 sn' hc9 hr ha l, Or.inr ⟨rfl, ?_⟩⟩))⟩
          rw [cn_new h16 hc9 hr hb]
          rcases hor with ⟨e, eM, hr⟩ | ⟨e, b⟩
          · subst eM
            omega
          · omega
        · exact br_t rfl (nm_r (nI_1 k) (skip (fun _ _ z => absurd z l)))
      · exact br_f (op_ne (b := 1) (by omega) (by decide) ha) (nm_r (nI_1 k) (skip (fun _ z => absurd z ha)))
def mk_b (f : Nat → Int32) : Nat → Bool := fun x => decide (¬ f x = 0)
theorem mk_e {f : Nat → Int32} (h : ∀ x, x < 48 → f x = bo_i (M x)) : cn_b (mk_b f) 48 = cn_b M 48 := by
  refine cn_ext (fun i hi => ?_)
  unfold mk_b
  rw [h i hi]
  cases M i <;> decide
theorem ym_cascade {post : Int32 → SY → Prop} {x1 : Int32} (hC : db_yc N D ceY maY) (hk : db_k U R T A unY rqY rfY acY) (hA : ∀ c, c < 9 → A c ≤ 2) (hm : ∀ x, x < 48 → geY x = bo_i (M x))
    (h : ∀ ge M', (∀ x, x < 48 → ge x = bo_i (M' x)) → sn_d N D T A M M' → cl_c N D T A M' → ∃ n, wY_erase_198 post x1 opY soY coY ouY kyY liY diY cmY rrY wiY n 0 ceY oceY bceY maY omaY bmaY unY rqY bunY brqY rfY acY brfY bacY srY csY ccY cpY cwY okY osY ocY koY ciY kfY cbY goY rsY ge keY) : ∃ n, wY_erase_84 post x1 opY soY coY ouY kyY liY diY cmY rrY wiY n 1 ceY oceY bceY maY omaY bmaY unY rqY bunY brqY rfY acY brfY bacY srY csY ccY cpY cwY okY osY ocY koY ciY kfY cbY goY rsY geY keY := by
  refine loop_m (fun n (s : Int32 × (Nat → Int32)) => wY_erase_84 post x1 opY soY coY ouY kyY liY diY cmY rrY wiY n s.1 ceY oceY bceY maY omaY bmaY unY rqY bunY brqY rfY acY brfY bacY srY csY ccY cpY cwY okY osY ocY koY ciY kfY cbY goY rsY s.2 keY) (fun s => ∃ M', (∀ x, x < 48 → s.2 x = bo_i (M' x)) ∧ sn_d N D T A M M' ∧ ((s.1 = 0 ∧ cl_c N D T A M') ∨ s.1 = 1)) (fun s => if s.1 = 0 then 0 else 49 - cn_b (mk_b s.2) 48) ?_ (1, geY) ⟨M, hm, sn_refl, Or.inr rfl⟩
  rintro n ⟨x, ge⟩ ⟨M', hm', sn', hor⟩ hn
  rcases hor with ⟨e, hcl⟩ | e
  · have e : x = 0 := e
    subst e
    exact br_t rfl (h ge M' hm' sn' hcl)
  · have e : x = 1 := e
    subst e
    have hle := cn_le M' 48
    have hmu : (if (1 : Int32) = 0 then 0 else 49 - cn_b (mk_b ge) 48) = 49 - cn_b M' 48 := by
      rw [if_neg (by decide), mk_e hm']
    refine br_f (by decide : ¬ (1 : Int32) = 0) (ym_pass hC hk hA hm' sn' (fun hcl ge2 hm2 => ?_) (fun ge2 M2 hm2 sn2 hlt => ?_))
    · refine hn (0, ge2) ⟨M', hm2, sn', Or.inl ⟨rfl, hcl⟩⟩ ?_
      show (if (0 : Int32) = 0 then 0 else 49 - cn_b (mk_b ge2) 48) < (if (1 : Int32) = 0 then 0 else 49 - cn_b (mk_b ge) 48)
      rw [hmu, if_pos rfl]
      omega
    · refine hn (1, ge2) ⟨M2, hm2, sn2, Or.inr rfl⟩ ?_
      show (if (1 : Int32) = 0 then 0 else 49 - cn_b (mk_b ge2) 48) < (if (1 : Int32) = 0 then 0 else 49 - cn_b (mk_b ge) 48)
      rw [hmu, if_neg (by decide), mk_e hm2]
      have := cn_le M2 48
      omega
theorem ym_kept {post : Int32 → SY → Prop} {x1 : Int32} (hC : db_yc N D ceY maY) (hk : db_k U R T A unY rqY rfY acY) (hA : ∀ c, c < 9 → A c ≤ 2) (hm : ∀ x, x < 48 → geY x = bo_i (M x))
    (h : ∀ ke, (∀ c r, c < 9 → r < N (c / 3) → (ke (16 * c + r) = 0 ↔ ¬ (A c = 2 ∧ lo_p N D T M c r))) → ∃ n, wY_erase_277 post x1 opY soY coY ouY kyY liY diY cmY rrY wiY n 0 ceY oceY bceY maY omaY bmaY unY rqY bunY brqY rfY acY brfY bacY srY csY ccY cpY cwY okY osY ocY koY ciY kfY cbY goY rsY geY ke) : ∃ n, wY_erase_198 post x1 opY soY coY ouY kyY liY diY cmY rrY wiY n 0 ceY oceY bceY maY omaY bmaY unY rqY bunY brqY rfY acY brfY bacY srY csY ccY cpY cwY okY osY ocY koY ciY kfY cbY goY rsY geY keY := by
  have h16 : ∀ t, t < 3 → N t ≤ 16 := fun t ht => (hC.1 t ht).2
  refine loop_0 (fun n k s => wY_erase_198 post x1 opY soY coY ouY kyY liY diY cmY rrY wiY n (nI k) ceY oceY bceY maY omaY bmaY unY rqY bunY brqY rfY acY brfY bacY srY csY ccY cpY cwY okY osY ocY koY ciY kfY cbY goY rsY geY s) (fun k s => ∀ q, q < k → q % 16 < N (q / 16 / 3) → (s q = 0 ↔ ¬ (A (q / 16) = 2 ∧ lo_p N D T M (q / 16) (q % 16)))) 144 keY lt_0 ?_ ?_
  · intro n s hI
    refine br_t (by decide) (h s (fun c r hc hr => ?_))
    have hN := h16 (c / 3) (by omega)
    have := hI (16 * c + r) (by omega)
    rw [show (16 * c + r) / 16 = c by omega, show (16 * c + r) % 16 = r by omega] at this
    exact this hr
  · intro n k s hk' hI hn'
    obtain ⟨hn, hN⟩ := hC.1 (k / 16 / 3) (by omega)
    have hc9 : k / 16 < 9 := by omega
    have hA' := hA (k / 16) hc9
    have hv : vp_in (nI k) 144 := vp_in_nI hk' (by decide)
    have ek : (nI k).toNatClampNeg = k := nI_clamp (by omega)
    have put : ∀ b, ((bo_i b = 0) ↔ ¬ (A (k / 16) = 2 ∧ lo_p N D T M (k / 16) (k % 16))) → wY_erase_198 post x1 opY soY coY ouY kyY liY diY cmY rrY wiY n (nI (k + 1)) ceY oceY bceY maY omaY bmaY unY rqY bunY brqY rfY acY brfY bacY srY csY ccY cpY cwY okY osY ocY koY ciY kfY cbY goY rsY geY (upd s k (bo_i b)) := by
      intro b hb
      refine hn' _ (lt_s (fun q hq hr => ?_) (fun _ => ?_))
      · rw [pk_un (by omega)]
        exact hI q hq hr
      · rw [pk_us]
        exact hb
    refine br_f (nI_ge (b := 144) hk' (by decide)) ⟨nz_16ne, nm_r (nz_d16 (by omega)) ⟨nz_16ne, nm_r (nz_r16 (by omega)) ⟨nz_3ne, ?_⟩⟩⟩
    rw [nz_d3 (by omega), nI_clamp (show k / 16 / 3 < 2 ^ 31 by omega), hn, nI_clamp (show k / 16 < 2 ^ 31 by omega), (hk _ hc9).2.2.2, ek]
    refine ⟨vp_in_nI (by omega) (by decide), pk_le (N (k / 16 / 3)) (k % 16) (fun z => nm_r (nI_1 k) (hn' s (lt_s hI (fun w => absurd w (by omega))))) (fun hr => ⟨vp_in_nI hc9 (by decide), ?_⟩)⟩
    by_cases ha : A (k / 16) = 2
    · refine br_t (by rw [ha]; rfl) (ym_loses hC hk hm hc9 hr (fun l => ?_) (fun l => ?_))
      · refine br_f (by decide) ⟨hv, nm_e (nm_r (nI_1 k) ?_)⟩
        rw [bo_nar1]
        exact put true ⟨fun z => absurd z (by decide), fun z => absurd ⟨ha, l⟩ z⟩
      · refine br_t rfl ⟨hv, nm_e (nm_r (nI_1 k) ?_)⟩
        rw [bo_nar0]
        exact put false ⟨fun _ z => l z.2, fun _ => rfl⟩
    · refine br_f (op_ne (b := 2) (by omega) (by decide) ha) ⟨hv, nm_e (nm_r (nI_1 k) ?_)⟩
      rw [bo_nar0]
      exact put false ⟨fun _ z => ha z.1, fun _ => rfl⟩
theorem ym_cleared {post : Int32 → SY → Prop} {x1 : Int32} (hC : db_yc N D ceY maY) (hke : ∀ c r, c < 9 → r < N (c / 3) → (keY (16 * c + r) = 0 ↔ ¬ (A c = 2 ∧ lo_p N D T M c r)))
    (h : ∀ ce, db_yc N (cl_D N D T A M) ce maY → ∃ n, wY_erase_357 post n x1 0 opY soY coY ouY kyY liY diY cmY rrY wiY ce oceY bceY maY omaY bmaY unY rqY bunY brqY rfY acY brfY bacY srY csY ccY cpY cwY okY osY ocY koY ciY kfY cbY goY rsY geY keY) : ∃ n, wY_erase_277 post x1 opY soY coY ouY kyY liY diY cmY rrY wiY n 0 ceY oceY bceY maY omaY bmaY unY rqY bunY brqY rfY acY brfY bacY srY csY ccY cpY cwY okY osY ocY koY ciY kfY cbY goY rsY geY keY := by
  have h16 : ∀ t, t < 3 → N t ≤ 16 := fun t ht => (hC.1 t ht).2
  refine loop_0 (fun n k s => wY_erase_277 post x1 opY soY coY ouY kyY liY diY cmY rrY wiY n (nI k) s oceY bceY maY omaY bmaY unY rqY bunY brqY rfY acY brfY bacY srY csY ccY cpY cwY okY osY ocY koY ciY kfY cbY goY rsY geY keY) (fun k s => ∀ c r, c < 9 → r < N (c / 3) → s (48 * (c / 3) + 3 * r + c % 3) = if 16 * c + r < k then cl_D N D T A M c r else D c r) 144 ceY (fun c r hc hr => by rw [if_neg (Nat.not_lt_zero _)]; exact hC.2 c r hc hr) ?_ ?_
  · intro n s hI
    refine br_t (by decide) (h s ⟨hC.1, fun c r hc hr => ?_⟩)
    have hN := h16 (c / 3) (by omega)
    rw [hI c r hc hr, if_pos (by omega)]
  · intro n k s hk' hI hn'
    obtain ⟨hn, hN⟩ := hC.1 (k / 16 / 3) (by omega)
    have hc9 : k / 16 < 9 := by omega
    have skip : (k % 16 < N (k / 16 / 3) → cl_D N D T A M (k / 16) (k % 16) = D (k / 16) (k % 16)) → wY_erase_277 post x1 opY soY coY ouY kyY liY diY cmY rrY wiY n (nI (k + 1)) s oceY bceY maY omaY bmaY unY rqY bunY brqY rfY acY brfY bacY srY csY ccY cpY cwY okY osY ocY koY ciY kfY cbY goY rsY geY keY := by
      intro he
      refine hn' s (fun c r hc hr => ?_)
      have hN' := h16 (c / 3) (by omega)
      rw [hI c r hc hr]
      by_cases z : 16 * c + r = k
      · have e1 : c = k / 16 := by omega
        have e2 : r = k % 16 := by omega
        rw [if_neg (by omega), if_pos (by omega)]
        subst e1 e2
        exact (he hr).symm
      · by_cases y : 16 * c + r < k
        · rw [if_pos y, if_pos (by omega)]
        · rw [if_neg y, if_neg (by omega)]
    refine br_f (nI_ge (b := 144) hk' (by decide)) ⟨nz_16ne, nm_r (nz_d16 (by omega)) ⟨nz_16ne, nm_r (nz_r16 (by omega)) ⟨nz_3ne, ?_⟩⟩⟩
    rw [ym_ix hc9, nz_d3 (by omega), nI_clamp (show k / 16 / 3 < 2 ^ 31 by omega), hn, nI_clamp (show k < 2 ^ 31 by omega)]
    refine ⟨vp_in_nI (by omega) (by decide), pk_le (N (k / 16 / 3)) (k % 16) (fun z => nm_r (nI_1 k) (skip (fun w => absurd w (by omega)))) (fun hr => ⟨vp_in_nI hk' (by decide), ?_⟩)⟩
    have hke' := hke (k / 16) (k % 16) hc9 hr
    rw [show 16 * (k / 16) + k % 16 = k by omega] at hke'
    by_cases z : keY k = 0
    · exact br_t z (nm_r (nI_1 k) (skip (fun _ => cl_f (hke'.mp z))))
    · have hcl : cl_D N D T A M (k / 16) (k % 16) = nu_l := by
        by_cases w : A (k / 16) = 2 ∧ lo_p N D T M (k / 16) (k % 16)
        · exact cl_t w
        · exact absurd (hke'.mpr w) z
      refine br_f z ⟨nz_3ne, nz_3ne, vp_in_nI (by omega) (by decide), nm_r (e' := vp_updL s (48 * (k / 16 / 3) + 3 * (k % 16) + k / 16 % 3) nu_l) (by rw [nI_clamp (by omega)]) (nm_r (nI_1 k) (hn' _ (fun c r hc hr' => ?_)))⟩
      have hN' := h16 (c / 3) (by omega)
      by_cases y : 16 * c + r = k
      · have e1 : c = k / 16 := by omega
        have e2 : r = k % 16 := by omega
        subst e1 e2
        rw [pk_uLs, if_pos (by omega), hcl]
      · rw [pk_uLn, hI c r hc hr']
        · by_cases y' : 16 * c + r < k
          · rw [if_pos y', if_pos (by omega)]
          · rw [if_neg y', if_neg (by omega)]
        · intro w
          have e1 : c / 3 = k / 16 / 3 := by omega
          have e2 : r = k % 16 := by omega
          have e3 : c % 3 = k / 16 % 3 := by omega
          omega
theorem ym_copy {post : Int32 → SY → Prop} {J : Int32 → Int32 → (Nat → Int64) → (Nat → Int64) → (Nat → Int64) → (Nat → Int32) → (Nat → Int32) → (Nat → Int32) → (Nat → Int32) → (Nat → Int32) → (Nat → Int32) → (Nat → Int32) → (Nat → Int32) → (Nat → Int32) → (Nat → Int32) → (Nat → Int32) → (Nat → Int32) → (Nat → Int32) → (Nat → Int32) → (Nat → Int32) → (Nat → Int32) → (Nat → Int32) → (Nat → Int32) → (Nat → Int32) → (Nat → Int32) → (Nat → Int32) → (Nat → Int32) → (Nat → Int32) → (Nat → Int32) → (Nat → Int64) → (Nat → Int32) → (Nat → Int32) → Prop} {t a b : Nat} (ht : t < 3) (ha : a < 16) (hb : b < 16)
    (h : ∀ ce, (∀ c r, c < 9 → r < 16 → ce (48 * (c / 3) + 3 * r + c % 3) = if c / 3 = t ∧ r = b then ceY (48 * (c / 3) + 3 * a + c % 3) else ceY (48 * (c / 3) + 3 * r + c % 3)) → J (nI (b + 1)) (nI (a + 1)) ce oceY bceY maY omaY bmaY unY rqY bunY brqY rfY acY brfY bacY srY csY ccY cpY cwY okY osY ocY koY ciY kfY cbY goY rsY geY keY) : ∃ n, wY_shrink_34 post J (nI t) (nI b) (nI a) opY soY coY ouY kyY liY diY cmY rrY wiY n 0 ceY oceY bceY maY omaY bmaY unY rqY bunY brqY rfY acY brfY bacY srY csY ccY cpY cwY okY osY ocY koY ciY kfY cbY goY rsY geY keY := by
  refine loop_0 (fun n d s => wY_shrink_34 post J (nI t) (nI b) (nI a) opY soY coY ouY kyY liY diY cmY rrY wiY n (nI d) s oceY bceY maY omaY bmaY unY rqY bunY brqY rfY acY brfY bacY srY csY ccY cpY cwY okY osY ocY koY ciY kfY cbY goY rsY geY keY) (fun d s => ∀ c r, c < 9 → r < 16 → s (48 * (c / 3) + 3 * r + c % 3) = if c / 3 = t ∧ c % 3 < d ∧ r = b then ceY (48 * (c / 3) + 3 * a + c % 3) else ceY (48 * (c / 3) + 3 * r + c % 3)) 3 ceY (fun c r _ _ => by rw [if_neg (by omega)]) ?_ ?_
  · intro n s hI
    refine br_t (by decide) (nm_r (nI_1 b) (nm_r (nI_1 a) (h s (fun c r hc hr => ?_))))
    rw [hI c r hc hr]
    by_cases z : c / 3 = t ∧ r = b
    · rw [if_pos z, if_pos (by omega)]
    · rw [if_neg z, if_neg (by omega)]
  · intro n d s hd hI hn
    have ei : ∀ r, ((48 * nI t) + (3 * nI r)) + nI d = nI (48 * t + 3 * r + d) := fun r => by rw [nz_48, nz_3m, nI_add, nI_add]
    refine br_f (nI_ge (b := 3) hd (by decide)) ?_
    rw [ei a, ei b, nI_clamp (show 48 * t + 3 * a + d < 2 ^ 31 by omega), nI_clamp (show 48 * t + 3 * b + d < 2 ^ 31 by omega)]
    refine ⟨vp_in_nI (by omega) (by decide), vp_in_nI (by omega) (by decide), nm_e (nm_r (nI_1 d) (hn _ (fun c r hc hr => ?_)))⟩
    have ea := hI (3 * t + d) a (by omega) ha
    rw [show (3 * t + d) / 3 = t by omega, show (3 * t + d) % 3 = d by omega, if_neg (by omega)] at ea
    by_cases z : c = 3 * t + d ∧ r = b
    · obtain ⟨rfl, rfl⟩ := z
      rw [show (3 * t + d) / 3 = t by omega, show (3 * t + d) % 3 = d by omega, pk_uLs, ea, if_pos (by omega)]
    · rw [pk_uLn, hI c r hc hr]
      · by_cases y : c / 3 = t ∧ c % 3 < d ∧ r = b
        · rw [if_pos y, if_pos (by omega)]
        · rw [if_neg y, if_neg (by omega)]
      · intro w
        have e1 : c / 3 = t := by omega
        have e2 : r = b := by omega
        have e3 : c % 3 = d := by omega
        exact z ⟨by omega, e2⟩
theorem ym_shrink {post : Int32 → SY → Prop} {E : Nat → Nat → Int64} {u : Nat} (hu : u < 3) (h16 : ∀ t, t < 3 → N t ≤ 16) (hm : ∀ x, x < 48 → geY x = bo_i (M x)) (hI : dp_I N E M u (fun c r => ceY (48 * (c / 3) + 3 * r + c % 3)) maY)
    (h : ∀ ce ma, dp_I N E M (u + 1) (fun c r => ce (48 * (c / 3) + 3 * r + c % 3)) ma → post (nI (N u - sh_N N M u)) (opY, soY, coY, ouY, kyY, liY, diY, cmY, rrY, wiY, ce, oceY, bceY, ma, omaY, bmaY, unY, rqY, bunY, brqY, rfY, acY, brfY, bacY, srY, csY, ccY, cpY, cwY, okY, osY, ocY, koY, ciY, kfY, cbY, goY, rsY, geY, keY)) : wpY_shrink post (opY, soY, coY, ouY, kyY, liY, diY, cmY, rrY, wiY, ceY, oceY, bceY, maY, omaY, bmaY, unY, rqY, bunY, brqY, rfY, acY, brfY, bacY, srY, csY, ccY, cpY, cwY, okY, osY, ocY, koY, ciY, kfY, cbY, goY, rsY, geY, keY) (nI u) := by
  have hr : maY u = nI (N u) := by
    have := hI.2 u hu
    rw [if_neg (Nat.lt_irrefl u)] at this
    exact this
  have hNu := h16 u hu
  have hi3 : vp_in (nI u) 3 := vp_in_nI hu (by decide)
  have eu : (nI u).toNatClampNeg = u := nI_clamp (by omega)
  refine loop_0 (fun m i s => wY_shrink_4 post (nI u) opY soY coY ouY kyY liY diY cmY rrY wiY m (nI (cn_b (sy_b M u) i)) (nI i) s oceY bceY maY omaY bmaY unY rqY bunY brqY rfY acY brfY bacY srY csY ccY cpY cwY okY osY ocY koY ciY kfY cbY goY rsY geY keY) (fun i s => sh_I N E M u i (fun c r => ceY (48 * (c / 3) + 3 * r + c % 3)) (fun c r => s (48 * (c / 3) + 3 * r + c % 3))) (N u) ceY (dp_init hI hu) ?_ ?_
  · intro m s hJ
    have hle := cn_le (sy_b M u) (N u)
    refine ⟨hi3, ?_⟩
    rw [eu, hr]
    refine br_t (nI_le (Nat.le_refl _) (by omega)) ⟨hi3, nm_r (pk_sub hle) ⟨hi3, nm_e (h s _ ?_)⟩⟩
    exact dp_step h16 hI hJ hu (fun t ht => rfl)
  · intro m i s hi hJ hm'
    refine ⟨hi3, ?_⟩
    rw [eu, hr]
    refine br_f (nI_ge hi (by omega)) ?_
    rw [nz_16, nI_clamp (by omega), hm _ (by omega)]
    refine ⟨vp_in_nI (by omega) (by decide), ?_⟩
    have hle := cn_le (sy_b M u) i
    cases hb : M (16 * u + i) with
    | true =>
      refine br_f (by decide) (nm_r (nI_1 i) ?_)
      have := hm' s (sh_no hJ hb)
      rw [cn_f (show ¬ sy_b M u i = true by rw [sy_i, hb]; decide)] at this
      exact this
    | false =>
      refine br_t rfl (ym_copy hu (by omega) (by omega) (fun ce' hce => ?_))
      have := hm' ce' (sh_go hJ hNu hi hb (fun c r hc hr => hce c r hc hr))
      rw [cn_t (sy_i.mpr hb)] at this
      exact this
theorem ym_shrinks {post : Int32 → SY → Prop} {E : Nat → Nat → Int64} (hC : db_yc N E ceY maY) (hm : ∀ x, x < 48 → geY x = bo_i (M x))
    (h : ∀ ce ma, db_yc (sh_N N M) (sh_D N E M) ce ma → wpY_settle post (opY, soY, coY, ouY, kyY, liY, diY, cmY, rrY, wiY, ce, oceY, bceY, ma, omaY, bmaY, unY, rqY, bunY, brqY, rfY, acY, brfY, bacY, srY, csY, ccY, cpY, cwY, okY, osY, ocY, koY, ciY, kfY, cbY, goY, rsY, geY, keY) (nI (dp_n N M 3))) : ∃ n, wY_erase_357 post n 0 0 opY soY coY ouY kyY liY diY cmY rrY wiY ceY oceY bceY maY omaY bmaY unY rqY bunY brqY rfY acY brfY bacY srY csY ccY cpY cwY okY osY ocY koY ciY kfY cbY goY rsY geY keY := by
  have h16 : ∀ t, t < 3 → N t ≤ 16 := fun t ht => (hC.1 t ht).2
  refine loop_0 (fun n u (s : (Nat → Int64) × (Nat → Int32)) => wY_erase_357 post n (nI (dp_n N M u)) (nI u) opY soY coY ouY kyY liY diY cmY rrY wiY s.1 oceY bceY s.2 omaY bmaY unY rqY bunY brqY rfY acY brfY bacY srY csY ccY cpY cwY okY osY ocY koY ciY kfY cbY goY rsY geY keY) (fun u s => dp_I N E M u (fun c r => s.1 (48 * (c / 3) + 3 * r + c % 3)) s.2) 3 (ceY, maY) ⟨fun c r hc hr hm' => by rw [if_neg (Nat.not_lt_zero _)]; exact hC.2 c r hc hr, fun t ht => by rw [if_neg (Nat.not_lt_zero _)]; exact (hC.1 t ht).1⟩ ?_ ?_
  · rintro n ⟨ce, ma⟩ hI
    obtain ⟨a, b⟩ := dp_end h16 hI
    exact br_t (by decide) (h ce ma ⟨a, b⟩)
  · rintro n u ⟨ce, ma⟩ hu hI hn
    refine br_f (nI_ge (b := 3) hu (by decide)) (ym_shrink hu h16 hm hI (fun ce' ma' hI' => ?_))
    exact nm_r (e' := nI (dp_n N M (u + 1))) (by rw [nI_add]; rfl) (nm_r (nI_1 u) (hn (ce', ma') hI'))
end
