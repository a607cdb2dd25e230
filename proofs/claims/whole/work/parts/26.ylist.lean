section
variable {opY soY coY ouY kyY liY diY cmY rrY wiY : Int32} {ceY oceY bceY rsY : Nat → Int64} {maY omaY bmaY unY rqY bunY brqY rfY acY brfY bacY srY csY ccY cpY cwY okY osY ocY koY ciY kfY cbY goY geY keY : Nat → Int32} {N : Nat → Nat} {D : Nat → Nat → Int64} {ns nc no : Nat} {S CS CC CO OK OS OC : Nat → Nat} {CI : Nat → Bool} {CW : Nat → Int32} {jo : Bool} {g0 : Nat}
theorem ym_list {post : SY → Prop} (hC : db_yc N D ceY maY) (hck : ck_c ns nc S CS CC CO CI CW) (hsr : ∀ s, s < ns → srY s = nI (S s)) (hcy : cy_c nc CS CC CO CI CW csY ccY cpY ciY cwY) {hb : Nat → Bool} (ehb : hb = hq_b N D ns nc S CS CC CO CI CW)
    (h : ∀ cb, (∀ i, i < cn_b hb 4096 → cb i = nI (se_l hb 4096 i)) → post (opY, nI ns, nI nc, ouY, kyY, liY, diY, nI (cn_b hb 4096), rrY, wiY, ceY, oceY, bceY, maY, omaY, bmaY, unY, rqY, bunY, brqY, rfY, acY, brfY, bacY, srY, csY, ccY, cpY, cwY, okY, osY, ocY, koY, ciY, kfY, cb, goY, rsY, geY, keY)) : wpY_list post (opY, nI ns, nI nc, ouY, kyY, liY, diY, cmY, rrY, wiY, ceY, oceY, bceY, maY, omaY, bmaY, unY, rqY, bunY, brqY, rfY, acY, brfY, bacY, srY, csY, ccY, cpY, cwY, okY, osY, ocY, koY, ciY, kfY, cbY, goY, rsY, geY, keY) := by
  obtain ⟨h3, h6, hS, hcK⟩ := hck
  have hck : ck_c ns nc S CS CC CO CI CW := ⟨h3, h6, hS, hcK⟩
  have hN : ∀ t, t < 3 → N t ≤ 16 := fun t ht => (hC.1 t ht).2
  refine loop_0 (fun n q (s : Int32 × (Nat → Int32)) => wY_list_7 post opY (nI ns) (nI nc) ouY kyY liY diY rrY wiY n (nI q) s.1 ceY oceY bceY maY omaY bmaY unY rqY bunY brqY rfY acY brfY bacY srY csY ccY cpY cwY okY osY ocY koY ciY kfY s.2 goY rsY geY keY) (fun q s => s.1 = nI (cn_b hb q) ∧ ∀ q', q' < q → hb q' = true → s.2 (cn_b hb q') = nI q') 4096 (0, cbY) ⟨rfl, lt_0⟩ ?_ ?_
  · rintro n ⟨cm, cb⟩ ⟨e, hI⟩
    have e : cm = _ := e
    subst e
    refine br_t (by decide) (h cb (fun i hi => ?_))
    obtain ⟨x1, x2, x3⟩ := se_i (f := hb) 4096 i hi
    have := hI _ x1 x2
    rw [x3] at this
    exact this
  · rintro n q ⟨cm, cb⟩ hq ⟨e, hI⟩ hn
    have e : cm = _ := e
    subst e
    refine br_f (nI_ge (b := 4096) hq (by decide)) ?_
    have hle := cn_le hb q
    -- the combination is none
    have no' : hb q = false → wY_list_7 post opY (nI ns) (nI nc) ouY kyY liY diY rrY wiY n (nI (q + 1)) (nI (cn_b hb q)) ceY oceY bceY maY omaY bmaY unY rqY bunY brqY rfY acY brfY bacY srY csY ccY cpY cwY okY osY ocY koY ciY kfY cb goY rsY geY keY := by
      intro hf
      refine hn (nI (cn_b hb q), cb) ⟨?_, lt_s hI (fun z => by rw [hf] at z; exact absurd z (by decide))⟩
      rw [cn_f (by rw [hf]; decide)]
    refine loop_0 (fun m s (x : Int32) => wY_list_18 post (wY_list_7 post opY (nI ns) (nI nc) ouY kyY liY diY rrY wiY n) (nI q) opY (nI ns) (nI nc) ouY kyY liY diY (nI (cn_b hb q)) rrY wiY ceY oceY bceY maY omaY bmaY unY rqY bunY brqY rfY acY brfY bacY srY csY ccY cpY cwY okY osY ocY koY ciY kfY cb goY rsY geY keY m x (nI s)) (fun s x => (x = 1 ∧ ∀ s', s' < s → ro_w q s' < nn_f N S ns s') ∨ (x = 0 ∧ hb q = false)) 3 1 (Or.inl ⟨rfl, lt_0⟩) ?_ ?_
    · intro m x hx
      refine br_t (by decide) ?_
      rcases hx with ⟨ex, hv⟩ | ⟨ex, hf⟩
      · subst ex
        refine br_f (by decide) (ym_holds hC hck hsr hcy hq (fun s hs => ?_) (fun hh => br_f (by decide) ?_) (fun hh => br_t rfl ?_))
        · have := hv s (by omega)
          unfold nn_f at this
          rw [if_pos hs] at this
          exact this
        · have hbq : hb q = true := by
            rw [ehb]
            exact hq_i.mpr ⟨hv, hh⟩
          refine nm_r (nI_1 _) ⟨vp_in_nI (by omega) (by decide), nm_r (e' := upd cb (cn_b hb q) (nI q)) (by rw [nI_clamp (by omega)]) (nm_r (nI_1 q) ?_)⟩
          refine hn (nI (cn_b hb q + 1), upd cb (cn_b hb q) (nI q)) ⟨?_, lt_s (fun q' hq' hb' => ?_) (fun _ => pk_us)⟩
          · rw [cn_t hbq]
          · show upd cb (cn_b hb q) (nI q) _ = _
            have := cn_lt hq' hb'
            rw [pk_un (by omega)]
            exact hI q' hq' hb'
        · refine nm_r (nI_1 q) (no' ?_)
          rw [Bool.eq_false_iff]
          intro z
          rw [ehb] at z
          exact hh (hq_i.mp z).2
      · subst ex
        exact br_t rfl (nm_r (nI_1 q) (no' hf))
    · intro m s x hs hx hm
      refine br_f (nI_ge (b := 3) hs (by decide)) ?_
      rcases hx with ⟨ex, hv⟩ | ⟨ex, hf⟩
      · subst ex
        refine br_f (by decide) ?_
        unfold wpY_rowOf
        dsimp only
        rw [ro_e hq hs]
        have fin : wY_list_56 post (wY_list_7 post opY (nI ns) (nI nc) ouY kyY liY diY rrY wiY n) (wY_list_18 post (wY_list_7 post opY (nI ns) (nI nc) ouY kyY liY diY rrY wiY n) (nI q) opY (nI ns) (nI nc) ouY kyY liY diY (nI (cn_b hb q)) rrY wiY ceY oceY bceY maY omaY bmaY unY rqY bunY brqY rfY acY brfY bacY srY csY ccY cpY cwY okY osY ocY koY ciY kfY cb goY rsY geY keY m) (nI q) (nI s) (nI (nn_f N S ns s)) (nI (ro_w q s)) opY (nI ns) (nI nc) ouY kyY liY diY (nI (cn_b hb q)) rrY wiY ceY oceY bceY maY omaY bmaY unY rqY bunY brqY rfY acY brfY bacY srY csY ccY cpY cwY okY osY ocY koY ciY kfY cb goY rsY geY keY := by
          have b1 := nn_le (S := S) (ns := ns) hN hS s
          have b2 : ro_w q s < 16 := by
            unfold ro_w
            split
            · omega
            · split <;> omega
          refine pk_le (nn_f N S ns s) (ro_w q s) (fun z => nm_r (nI_1 s) (hm 0 (Or.inr ⟨rfl, ?_⟩))) (fun z => nm_r (nI_1 s) (hm 1 (Or.inl ⟨rfl, lt_s hv z⟩)))
          rw [Bool.eq_false_iff]
          intro w
          rw [ehb] at w
          have := (hq_i.mp w).1 s hs
          omega
        refine pk_le ns s (fun z => ?_) (fun z => ?_)
        · rw [show nn_f N S ns s = 1 from if_neg (by omega)] at fin
          exact fin
        · rw [show nn_f N S ns s = N (S s) from if_pos z] at fin
          have hs3 := hS s z
          refine ⟨vp_in_nI hs (by decide), ?_⟩
          rw [nI_clamp (show s < 2 ^ 31 by omega), hsr s z, nI_clamp (show S s < 2 ^ 31 by omega), (hC.1 _ hs3).1]
          exact ⟨vp_in_nI hs3 (by decide), fin⟩
      · subst ex
        exact br_t rfl (nm_r (nI_1 s) (hm 0 (Or.inr ⟨rfl, hf⟩)))
theorem ym_put {post : SY → Prop} (hC : db_yc N D ceY maY) (h3 : ns ≤ 3) (hS : ∀ s, s < ns → S s < 3) (hsr : ∀ s, s < ns → srY s = nI (S s)) (hk : ko_c ns no OK OS OC) (ho : ky_o no OK OS OC okY osY ocY) {m q : Nat} (hm : m ≤ 60) (hq : q < 4096) (hro : ∀ s, s < ns → ro_w q s < N (S s))
    (h : ∀ rs, (∀ g k, g < m → k < 4 → rs (4 * g + k) = rsY (4 * g + k)) → (∀ k, k < no → OK k = 0 → rs (4 * m + k) = ou_v D S OS OC q k) → post (opY, soY, coY, nI no, kyY, liY, diY, cmY, rrY, wiY, ceY, oceY, bceY, maY, omaY, bmaY, unY, rqY, bunY, brqY, rfY, acY, brfY, bacY, srY, csY, ccY, cpY, cwY, okY, osY, ocY, koY, ciY, kfY, cbY, goY, rs, geY, keY)) : wpY_put post (opY, soY, coY, nI no, kyY, liY, diY, cmY, rrY, wiY, ceY, oceY, bceY, maY, omaY, bmaY, unY, rqY, bunY, brqY, rfY, acY, brfY, bacY, srY, csY, ccY, cpY, cwY, okY, osY, ocY, koY, ciY, kfY, cbY, goY, rsY, geY, keY) (nI m) (nI q) := by
  have h4 := hk.1
  refine loop_0 (fun n i s => wY_put_2 post (nI m) (nI q) opY soY coY (nI no) kyY liY diY cmY rrY wiY n (nI i) ceY oceY bceY maY omaY bmaY unY rqY bunY brqY rfY acY brfY bacY srY csY ccY cpY cwY okY osY ocY koY ciY kfY cbY goY s geY keY) (fun i s => (∀ g k, g < m → k < 4 → s (4 * g + k) = rsY (4 * g + k)) ∧ ∀ k, k < i → OK k = 0 → s (4 * m + k) = ou_v D S OS OC q k) no rsY ⟨fun _ _ _ _ => rfl, lt_0⟩ ?_ ?_
  · intro n s hI
    exact br_t (nI_le (Nat.le_refl _) (by omega)) (h s hI.1 hI.2)
  · intro n i s hi hI hn
    have hv : vp_in (nI i) 4 := vp_in_nI (by omega) (by decide)
    obtain ⟨o1, o2, o3⟩ := ho i hi
    obtain ⟨k1, k2, k3⟩ := hk.2 i hi
    refine br_f (nI_ge hi (by omega)) ⟨hv, ?_⟩
    rw [nI_clamp (show i < 2 ^ 31 by omega), o1, o2, o3]
    by_cases e : OK i = 0
    · refine br_t (by rw [e]; rfl) ⟨hv, hv, ym_in hC h3 hS hsr hq hro k2 k3 ?_⟩
      refine ⟨by rw [nz_4]; exact vp_in_nI (by omega) (by decide), nm_r (e' := vp_updL s (4 * m + i) (ou_v D S OS OC q i)) (by rw [nz_4, nI_clamp (by omega)]; rfl) (nm_r (nI_1 i) (hn _ ⟨fun g k hg hk' => ?_, lt_s (fun k hk' e' => ?_) (fun _ => pk_uLs)⟩))⟩
      · rw [pk_uLn (by omega)]
        exact hI.1 g k hg hk'
      · rw [pk_uLn (by omega)]
        exact hI.2 k hk' e'
    · exact br_f (op_ne (b := 0) (by omega) (by decide) e) (nm_r (nI_1 i) (hn s ⟨hI.1, lt_s hI.2 (fun z => absurd z e)⟩))
theorem ym_same {post : Int32 → Prop} (hk : ko_c ns no OK OS OC) (ho : ky_o no OK OS OC okY osY ocY) {a b : Nat} {al : Bool} (ha : a ≤ 60) (hb : b ≤ 60) (h1 : (∀ k, k < no → (al = true ∨ OK k = 0) → rsY (4 * a + k) = rsY (4 * b + k)) → post 1) (h0 : (¬ ∀ k, k < no → (al = true ∨ OK k = 0) → rsY (4 * a + k) = rsY (4 * b + k)) → post 0) : wpY_same post (opY, soY, coY, nI no, kyY, liY, diY, cmY, rrY, wiY, ceY, oceY, bceY, maY, omaY, bmaY, unY, rqY, bunY, brqY, rfY, acY, brfY, bacY, srY, csY, ccY, cpY, cwY, okY, osY, ocY, koY, ciY, kfY, cbY, goY, rsY, geY, keY) (nI a) (nI b) (bo_i al) := by
  have h4 := hk.1
  refine loop_0 (fun n i (_ : Unit) => wY_same_3 post (nI a) (nI b) (bo_i al) opY soY coY (nI no) kyY liY diY cmY rrY wiY ceY oceY bceY maY omaY bmaY unY rqY bunY brqY rfY acY brfY bacY srY csY ccY cpY cwY okY osY ocY koY ciY kfY cbY goY rsY geY keY n (nI i)) (fun i _ => ∀ k, k < i → (al = true ∨ OK k = 0) → rsY (4 * a + k) = rsY (4 * b + k)) no () lt_0 ?_ ?_
  · intro n _ hI
    exact br_t (nI_le (Nat.le_refl _) (by omega)) (h1 hI)
  · intro n i _ hi hI hn
    have hv : vp_in (nI i) 4 := vp_in_nI (by omega) (by decide)
    obtain ⟨o1, o2, o3⟩ := ho i hi
    obtain ⟨k1, k2, k3⟩ := hk.2 i hi
    have cmp : (al = true ∨ OK i = 0) → wY_same_26 post (wY_same_3 post (nI a) (nI b) (bo_i al) opY soY coY (nI no) kyY liY diY cmY rrY wiY ceY oceY bceY maY omaY bmaY unY rqY bunY brqY rfY acY brfY bacY srY csY ccY cpY cwY okY osY ocY koY ciY kfY cbY goY rsY geY keY n) (nI a) (nI b) (bo_i al) (nI i) opY soY coY (nI no) kyY liY diY cmY rrY wiY ceY oceY bceY maY omaY bmaY unY rqY bunY brqY rfY acY brfY bacY srY csY ccY cpY cwY okY osY ocY koY ciY kfY cbY goY rsY geY keY := by
      intro hor
      unfold wY_same_26
      rw [nz_4, nz_4, nI_clamp (show 4 * a + i < 2 ^ 31 by omega), nI_clamp (show 4 * b + i < 2 ^ 31 by omega)]
      refine ⟨vp_in_nI (by omega) (by decide), vp_in_nI (by omega) (by decide), ?_⟩
      by_cases e : rsY (4 * a + i) = rsY (4 * b + i)
      · exact br_t e (nm_r (nI_1 i) (hn () (lt_s hI (fun _ => e))))
      · exact br_f e (h0 (fun z => e (z i hi hor)))
    refine br_f (nI_ge hi (by omega)) ?_
    cases al with
    | true => exact br_f (by decide) (cmp (Or.inl rfl))
    | false =>
      refine br_t rfl ⟨hv, ?_⟩
      rw [nI_clamp (by omega), o1]
      by_cases e : OK i = 0
      · exact br_t (by rw [e]; rfl) (cmp (Or.inr e))
      · exact br_f (op_ne (b := 0) (by omega) (by decide) e) (nm_r (nI_1 i) (hn () (lt_s hI (fun z => by rcases z with z | z; exact absurd z (by decide); exact absurd z e))))
end
