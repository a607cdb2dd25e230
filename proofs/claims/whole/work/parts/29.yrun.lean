/-! run as a whole -/
noncomputable def ru_r (OK OS : Nat → Nat) (V W : Nat → Nat → Int64) (C G rp : Nat → Nat) (M : Nat) : Nat → Nat → Int64 := fun g k => if OK k = 0 then V (rp g) k else rv_v OK OS V W C G M g k
def ru_n (n lim : Nat) : Nat := if n ≤ lim then n else lim
theorem pl_all {OK : Nat → Nat} {no : Nat} : cn_b (fun k => decide (OK k = 0)) no = no ↔ ∀ k, k < no → OK k = 0 := by
  induction no with
  | zero => exact ⟨fun _ => lt_0, fun _ => rfl⟩
  | succ no ih =>
    have hle := cn_le (fun k => decide (OK k = 0)) no
    by_cases e : OK no = 0
    · rw [cn_t (decide_eq_true e)]
      constructor
      · intro h
        exact lt_s (ih.mp (by omega)) e
      · intro h
        rw [ih.mpr (fun k hk => h k (by omega))]
    · rw [cn_f (by simpa using e)]
      constructor
      · intro h
        omega
      · intro h
        exact absurd (h no (by omega)) e
theorem pl_none {OK : Nat → Nat} {no : Nat} : cn_b (fun k => decide (OK k = 0)) no = 0 ↔ ∀ k, k < no → OK k ≠ 0 := by
  induction no with
  | zero => exact ⟨fun _ => lt_0, fun _ => rfl⟩
  | succ no ih =>
    by_cases e : OK no = 0
    · rw [cn_t (decide_eq_true e)]
      constructor
      · intro h
        omega
      · intro h
        exact absurd e (h no (by omega))
    · rw [cn_f (by simpa using e)]
      constructor
      · intro h
        exact lt_s (ih.mp h) e
      · intro h
        exact ih.mpr (fun k hk => h k (by omega))
theorem one_s {no : Nat} {OK : Nat → Nat} {V : Nat → Nat → Int64} {C : Nat → Nat} (h : ∀ k, k < no → OK k ≠ 0) : ∀ p, (gr_s (al_b no OK V) true 1 C p).1 = 1 ∧ gr_g (al_b no OK V) true 1 C p = 0 := by
  have hal : ∀ q q', al_b no OK V q q' = true := fun q q' => al_i.mpr (fun k hk e => absurd e (h k hk))
  have hg : ∀ p, (gr_s (al_b no OK V) true 1 C p).1 = 1 → gr_g (al_b no OK V) true 1 C p = 0 := by
    intro p e
    show fi_f (fun g => al_b no OK V ((gr_s (al_b no OK V) true 1 C p).2 g) (C p)) (gr_s (al_b no OK V) true 1 C p).1 = 0
    rw [e]
    exact ff_eq (Nat.zero_le _) lt_0 (fun _ => hal _ _)
  intro p
  induction p with
  | zero => exact ⟨rfl, hg 0 rfl⟩
  | succ p ih =>
    have e : (gr_s (al_b no OK V) true 1 C (p + 1)).1 = 1 := by
      rw [gr_old (by rw [ih.1, ih.2]; decide)]
      exact ih.1
    exact ⟨e, hg _ e⟩
section
variable {opY soY coY ouY kyY liY diY cmY rrY wiY : Int32} {ceY oceY bceY rsY : Nat → Int64} {maY omaY bmaY unY rqY bunY brqY rfY acY brfY bacY srY csY ccY cpY cwY okY osY ocY koY ciY kfY cbY goY geY keY : Nat → Int32} {N : Nat → Nat} {D : Nat → Nat → Int64} {ns nc no nk lim : Nat} {S CS CC CO OK OS OC KO : Nat → Nat} {CI : Nat → Bool} {CW : Nat → Int32} {KF : Nat → Int32}
theorem ym_154 {post : Int32 → SY → Prop} {n : Nat} {r : Nat → Nat → Int64} (hn : n ≤ 61) (hl : lim ≤ 60) (h4 : no ≤ 4) (h2 : nk ≤ 2) (hko : ∀ k, k < nk → koY k = nI (KO k) ∧ KO k < no) (hkf : ∀ k, k < nk → kfY k = KF k) (hr : n ≤ 60 → re_q n no rsY r)
    (h1 : n ≤ 60 → ∀ rs, re_q n no rs (so_a nk KO KF r n) → post (nI (ru_n n lim)) (opY, soY, coY, ouY, nI nk, nI lim, diY, cmY, nI (ru_n n lim), wiY, ceY, oceY, bceY, maY, omaY, bmaY, unY, rqY, bunY, brqY, rfY, acY, brfY, bacY, srY, csY, ccY, cpY, cwY, okY, osY, ocY, koY, ciY, kfY, cbY, goY, rs, geY, keY)) (h0 : 60 < n → post (-4) (opY, soY, coY, ouY, nI nk, nI lim, diY, cmY, 0, wiY, ceY, oceY, bceY, maY, omaY, bmaY, unY, rqY, bunY, brqY, rfY, acY, brfY, bacY, srY, csY, ccY, cpY, cwY, okY, osY, ocY, koY, ciY, kfY, cbY, goY, rsY, geY, keY)) : wY_run_154 post opY soY coY ouY (nI nk) (nI lim) diY cmY (nI n) wiY ceY oceY bceY maY omaY bmaY unY rqY bunY brqY rfY acY brfY bacY srY csY ccY cpY cwY okY osY ocY koY ciY kfY cbY goY rsY geY keY := by
  refine pk_le n 60 (fun z => ym_sort z h4 h2 hko hkf (hr z) (fun rs hrs => ?_)) (fun z => h0 z)
  have h1 := h1 z rs hrs
  refine pk_le n lim (fun w => ?_) (fun w => ?_)
  · rw [show ru_n n lim = n from if_pos w] at h1
    exact h1
  · rw [show ru_n n lim = lim from if_neg (by omega)] at h1
    exact h1
theorem yv_run {post : Int32 → SY → Prop} (hC : db_yc N D ceY maY) (hck : ck_c ns nc S CS CC CO CI CW) (hsr : ∀ s, s < ns → srY s = nI (S s)) (hcy : cy_c nc CS CC CO CI CW csY ccY cpY ciY cwY) (hk4 : no ≤ 4) (hk : 1 ≤ ns → ko_c ns no OK OS OC) (ho : ky_o no OK OS OC okY osY ocY) (hl : lim ≤ 60) (h2 : nk ≤ 2) (hko : ∀ k, k < nk → koY k = nI (KO k) ∧ KO k < no) (hkf : ∀ k, k < nk → kfY k = KF k) {di : Bool}
    {hb : Nat → Bool} (ehb : hb = hq_b N D ns nc S CS CC CO CI CW) {jo : Bool} {g0 : Nat} (ejo : jo = (decide (cn_b (fun k => decide (OK k = 0)) no < no) || di)) (eg0 : g0 = if cn_b (fun k => decide (OK k = 0)) no = 0 then 1 else 0)
    (hbad : (ns = 0 ∨ no = 0) → post (-1) (opY, nI ns, nI nc, nI no, nI nk, nI lim, bo_i di, cmY, 0, wiY, ceY, oceY, bceY, maY, omaY, bmaY, unY, rqY, bunY, brqY, rfY, acY, brfY, bacY, srY, csY, ccY, cpY, cwY, okY, osY, ocY, koY, ciY, kfY, cbY, goY, rsY, geY, keY))
    (h1 : 1 ≤ ns → 1 ≤ no → ∀ n, n = (gr_s (al_b no OK (ou_v D S OS OC)) jo g0 (se_l hb 4096) (cn_b hb 4096)).1 → n ≤ 60 → ∀ cm cb go rs, re_q n no rs (so_a nk KO KF (ru_r OK OS (ou_v D S OS OC) (ou_w D S OS OC) (se_l hb 4096) (gr_g (al_b no OK (ou_v D S OS OC)) jo g0 (se_l hb 4096)) (gr_s (al_b no OK (ou_v D S OS OC)) jo g0 (se_l hb 4096) (cn_b hb 4096)).2 (cn_b hb 4096)) n) → post (nI (ru_n n lim)) (opY, nI ns, nI nc, nI no, nI nk, nI lim, bo_i di, cm, nI (ru_n n lim), nI no, ceY, oceY, bceY, maY, omaY, bmaY, unY, rqY, bunY, brqY, rfY, acY, brfY, bacY, srY, csY, ccY, cpY, cwY, okY, osY, ocY, koY, ciY, kfY, cb, go, rs, geY, keY))
    (h0 : 1 ≤ ns → 1 ≤ no → 60 < (gr_s (al_b no OK (ou_v D S OS OC)) jo g0 (se_l hb 4096) (cn_b hb 4096)).1 → ∀ cm wi cb go rs, post (-4) (opY, nI ns, nI nc, nI no, nI nk, nI lim, bo_i di, cm, 0, wi, ceY, oceY, bceY, maY, omaY, bmaY, unY, rqY, bunY, brqY, rfY, acY, brfY, bacY, srY, csY, ccY, cpY, cwY, okY, osY, ocY, koY, ciY, kfY, cb, go, rs, geY, keY)) :
    wpY_run post (opY, nI ns, nI nc, nI no, nI nk, nI lim, bo_i di, cmY, rrY, wiY, ceY, oceY, bceY, maY, omaY, bmaY, unY, rqY, bunY, brqY, rfY, acY, brfY, bacY, srY, csY, ccY, cpY, cwY, okY, osY, ocY, koY, ciY, kfY, cbY, goY, rsY, geY, keY) := by
  have h3 := hck.1
  have hS := hck.2.2.1
  refine pk_eq ns 0 (fun z => hbad (Or.inl z)) (fun zs => pk_eq no 0 (fun z => hbad (Or.inr z)) (fun zo => ?_))
  have h1s : 1 ≤ ns := by omega
  have h1o : 1 ≤ no := by omega
  have hk := hk h1s
  have h1 := h1 h1s h1o
  have h0 := h0 h1s h1o
  refine ym_list hC hck hsr hcy ehb (fun cb hcb' => ?_)
  dsimp only
  have hM : cn_b hb 4096 ≤ 4096 := cn_le hb 4096
  have hcb : ∀ i, i < cn_b hb 4096 → cb i = nI (se_l hb 4096 i) ∧ se_l hb 4096 i < 4096 ∧ ∀ s, s < ns → ro_w (se_l hb 4096 i) s < N (S s) := by
    intro i hi
    obtain ⟨x1, x2, x3⟩ := se_i (f := hb) 4096 i hi
    refine ⟨hcb' i hi, x1, fun s hs => ?_⟩
    rw [ehb] at x2
    have := (hq_i.mp x2).1 s (by omega)
    unfold nn_f at this
    rw [if_pos hs, ← ehb] at this
    exact this
  generalize cn_b hb 4096 = M at *
  generalize se_l hb 4096 = C at *
  refine loop_0 (fun n k (x : Int32 × Int32) => wY_run_39 post opY (nI ns) (nI nc) (nI no) (nI nk) (nI lim) (bo_i di) (nI M) 0 (nI no) ceY oceY bceY maY omaY bmaY unY rqY bunY brqY rfY acY brfY bacY srY csY ccY cpY cwY okY osY ocY koY ciY kfY cb goY rsY geY keY n x.1 x.2 (nI k)) (fun k x => ∃ a b : Bool, x.1 = bo_i a ∧ x.2 = bo_i b ∧ (a = true ↔ ∀ k', k' < k → OK k' = 0) ∧ (b = true ↔ ∀ k', k' < k → OK k' ≠ 0)) no (1, 1) ⟨true, true, rfl, rfl, ⟨fun _ => lt_0, fun _ => rfl⟩, ⟨fun _ => lt_0, fun _ => rfl⟩⟩ ?_ ?_
  · rintro n ⟨x1, x2⟩ ⟨a, b, e1, e2, ha, hbn⟩
    have e1 : x1 = bo_i a := e1
    have e2 : x2 = bo_i b := e2
    subst e1 e2
    refine br_t (nI_le (Nat.le_refl _) (by omega)) ?_
    cases a with
    | true =>
      have hall := ha.mp rfl
      have epl := pl_all.mpr hall
      rw [epl] at ejo eg0
      rw [decide_eq_false (Nat.lt_irrefl _), Bool.false_or] at ejo
      rw [if_neg zo] at eg0
      subst ejo eg0
      refine br_f (by decide : ¬ bo_i true = 0) (ym_plain hC h3 hS hsr hk ho hM hcb hall (fun hle rs hrs => ?_) (fun hgt rs => ?_))
      · refine ym_154 (by omega) hl hk4 h2 hko hkf (fun _ => fun g k hg hk' => ?_) (fun _ rs' hrs' => h1 _ rfl hle _ _ _ _ hrs') (fun z => absurd hle (by omega))
        rw [hrs g k hg hk']
        unfold ru_r
        rw [if_pos (hall k hk')]
      · exact ym_154 (n := 61) (r := fun _ _ => 0) (by decide) hl hk4 h2 hko hkf (fun z => absurd z (by decide)) (fun z => absurd z (by decide)) (fun _ => h0 hgt _ _ _ _ _)
    | false =>
      have hnall : ¬ ∀ k, k < no → OK k = 0 := fun z => absurd (ha.mpr z) (by decide)
      have hlt : cn_b (fun k => decide (OK k = 0)) no < no := by
        have := cn_le (fun k => decide (OK k = 0)) no
        rcases Nat.lt_or_ge (cn_b (fun k => decide (OK k = 0)) no) no with z | z
        · exact z
        · exact absurd (pl_all.mp (by omega)) hnall
      rw [decide_eq_true hlt, Bool.true_or] at ejo
      refine br_t rfl ?_
      cases b with
      | false =>
        have hsome : ¬ ∀ k, k < no → OK k ≠ 0 := fun z => absurd (hbn.mpr z) (by decide)
        rw [if_neg (fun z => hsome (pl_none.mp z))] at eg0
        subst ejo eg0
        refine br_t rfl (ym_groups hC h3 hS hsr hk ho hM hcb (fun hle rs go hrs hgo => ?_) (fun hgt rs go => ?_))
        · have hgin : ∀ i, i < M → gr_g (al_b no OK (ou_v D S OS OC)) true 0 C i < (gr_s (al_b no OK (ou_v D S OS OC)) true 0 C M).1 := fun i hi => gr_in hi
          have h1 := h1 _ rfl hle
          clear h0
          generalize gr_s (al_b no OK (ou_v D S OS OC)) true 0 C M = sM at *
          generalize gr_g (al_b no OK (ou_v D S OS OC)) true 0 C = G at *
          refine loop_0 (fun m g s => wY_groups_70 _ (nI sM.1) m (nI g) opY (nI ns) (nI nc) (nI no) (nI nk) (nI lim) (bo_i di) (nI M) 0 (nI no) ceY oceY bceY maY omaY bmaY unY rqY bunY brqY rfY acY brfY bacY srY csY ccY cpY cwY okY osY ocY koY ciY kfY cb go s geY keY) (fun g s => (∀ g' k, g' < sM.1 → k < no → OK k = 0 → s (4 * g' + k) = ou_v D S OS OC (sM.2 g') k) ∧ ∀ g' k, g' < g → k < no → OK k ≠ 0 → s (4 * g' + k) = rv_v OK OS (ou_v D S OS OC) (ou_w D S OS OC) C G M g' k) sM.1 rs ⟨hrs, fun g' k hg' => absurd hg' (Nat.not_lt_zero _)⟩ ?_ ?_
          · intro m s hJ
            refine br_t (nI_le (Nat.le_refl _) (by omega)) (ym_154 (by omega) hl hk4 h2 hko hkf (fun _ => fun g k hg hk' => ?_) (fun _ rs' hrs' => h1 _ _ _ _ hrs') (fun z => absurd hle (by omega)))
            unfold ru_r
            by_cases e0 : OK k = 0
            · rw [if_pos e0]
              exact hJ.1 g k hg hk' e0
            · rw [if_neg e0]
              exact hJ.2 g k hg hk' e0
          · intro m g s hg hJ hm
            refine br_f (nI_ge hg (by omega)) (br_f (nI_ge (b := 61) (by omega) (by decide)) ?_)
            refine ym_fold (G := G) hC h3 hS hsr hk ho hM hcb (fun i hi => ⟨hgo i hi, by have := hgin i hi; omega⟩) (by omega) (fun rs2 f1 f2 f3 => nm_r (nI_1 g) (hm rs2 ⟨fun g' k hg' hk' e0 => ?_, fun g' k hg' hk' e0 => ?_⟩))
            · by_cases e : g' = g
              · subst e
                rw [f2 k hk' e0]
                exact hJ.1 g' k hg' hk' e0
              · rw [f1 g' k e (by omega)]
                exact hJ.1 g' k hg' hk' e0
            · by_cases e : g' = g
              · subst e
                exact f3 k hk' e0
              · rw [f1 g' k e (by omega)]
                exact hJ.2 g' k (by omega) hk' e0
        · exact ym_154 (n := 61) (r := fun _ _ => 0) (by decide) hl hk4 h2 hko hkf (fun z => absurd z (by decide)) (fun z => absurd z (by decide)) (fun _ => h0 hgt _ _ _ _ _)
      | true =>
        have hnone := hbn.mp rfl
        rw [if_pos (pl_none.mpr hnone)] at eg0
        subst ejo eg0
        have hone := one_s (V := ou_v D S OS OC) (C := C) hnone
        have h1 := h1 1 (hone M).1.symm (by decide)
        refine br_f (by decide) ?_
        refine loop_0 (fun m i s => wY_run_112 post opY (nI ns) (nI nc) (nI no) (nI nk) (nI lim) (bo_i di) (nI M) 0 (nI no) m (nI i) ceY oceY bceY maY omaY bmaY unY rqY bunY brqY rfY acY brfY bacY srY csY ccY cpY cwY okY osY ocY koY ciY kfY cb s rsY geY keY) (fun i s => ∀ j, j < i → s j = nI 0) M goY lt_0 ?_ ?_
        · intro m go hgo
          refine br_t (nI_le (Nat.le_refl _) (by omega)) ?_
          refine ym_fold (G := gr_g (al_b no OK (ou_v D S OS OC)) true 1 C) (g := 0) hC h3 hS hsr hk ho hM hcb (fun i hi => ⟨by rw [hgo i hi, (hone i).2], by rw [(hone i).2]; decide⟩) (by decide) (fun rs2 f1 f2 f3 => ?_)
          refine ym_154 (n := 1) (by decide) hl hk4 h2 hko hkf (fun _ => fun g k hg hk' => ?_) (fun _ rs' hrs' => h1 _ _ _ _ hrs') (fun z => absurd z (by decide))
          have : g = 0 := by omega
          subst this
          unfold ru_r
          rw [if_neg (hnone k hk')]
          exact f3 k hk' (hnone k hk')
        · intro m i s hi hI hm
          refine br_f (nI_ge hi (by omega)) ⟨vp_in_nI (by omega) (by decide), nm_r (e' := upd s i (nI 0)) (by rw [nI_clamp (by omega)]; rfl) (nm_r (nI_1 i) (hm _ (lt_s (fun j hj => ?_) pk_us)))⟩
          rw [pk_un (by omega)]
          exact hI j hj
  · rintro n k ⟨x1, x2⟩ hkn ⟨a, b, e1, e2, ha, hbn⟩ hn
    have e1 : x1 = bo_i a := e1
    have e2 : x2 = bo_i b := e2
    subst e1 e2
    have hv : vp_in (nI k) 4 := vp_in_nI (by omega) (by decide)
    have o1 := (ho k hkn).1
    have k7 := (hk.2 k hkn).1
    have ek : (nI k).toNatClampNeg = k := nI_clamp (by omega)
    refine br_f (nI_ge hkn (by omega)) ?_
    have go : ∀ a' : Bool, (a' = true ↔ ∀ k', k' < k + 1 → OK k' = 0) → wY_run_65 post (wY_run_39 post opY (nI ns) (nI nc) (nI no) (nI nk) (nI lim) (bo_i di) (nI M) 0 (nI no) ceY oceY bceY maY omaY bmaY unY rqY bunY brqY rfY acY brfY bacY srY csY ccY cpY cwY okY osY ocY koY ciY kfY cb goY rsY geY keY n) (bo_i b) (nI k) (bo_i a') opY (nI ns) (nI nc) (nI no) (nI nk) (nI lim) (bo_i di) (nI M) 0 (nI no) ceY oceY bceY maY omaY bmaY unY rqY bunY brqY rfY acY brfY bacY srY csY ccY cpY cwY okY osY ocY koY ciY kfY cb goY rsY geY keY := by
      intro a' ha'
      have fin : ∀ b' : Bool, (b' = true ↔ ∀ k', k' < k + 1 → OK k' ≠ 0) → wY_run_39 post opY (nI ns) (nI nc) (nI no) (nI nk) (nI lim) (bo_i di) (nI M) 0 (nI no) ceY oceY bceY maY omaY bmaY unY rqY bunY brqY rfY acY brfY bacY srY csY ccY cpY cwY okY osY ocY koY ciY kfY cb goY rsY geY keY n (bo_i a') (bo_i b') (nI (k + 1)) := fun b' hb' => hn (bo_i a', bo_i b') ⟨a', b', rfl, rfl, ha', hb'⟩
      cases b with
      | false => exact br_t rfl (nm_r (nI_1 k) (fin false ⟨fun z => absurd z (by decide), fun z => absurd (hbn.mpr (fun k' hk' => z k' (by omega))) (by decide)⟩))
      | true =>
        refine br_f (by decide) ⟨hv, ?_⟩
        rw [ek, o1]
        by_cases e0 : OK k = 0
        · exact br_t (by rw [e0]; rfl) (nm_r (nI_1 k) (fin false ⟨fun z => absurd z (by decide), fun z => absurd e0 (z k (by omega))⟩))
        · exact br_f (op_ne (b := 0) (by omega) (by decide) e0) (nm_r (nI_1 k) (fin true ⟨fun _ => lt_s (hbn.mp rfl) e0, fun _ => rfl⟩))
    cases a with
    | false => exact br_t rfl (go false ⟨fun z => absurd z (by decide), fun z => absurd (ha.mpr (fun k' hk' => z k' (by omega))) (by decide)⟩)
    | true =>
      refine br_f (by decide : ¬ bo_i true = 0) ⟨hv, ?_⟩
      rw [ek, o1]
      by_cases e0 : OK k = 0
      · exact br_t (by rw [e0]; rfl) (go true ⟨fun _ => lt_s (ha.mp rfl) e0, fun _ => rfl⟩)
      · exact br_f (op_ne (b := 0) (by omega) (by decide) e0) (go false ⟨fun z => absurd z (by decide), fun z => absurd (z k (by omega)) e0⟩)
end
