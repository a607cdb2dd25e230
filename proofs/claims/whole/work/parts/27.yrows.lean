section
variable {opY soY coY ouY kyY liY diY cmY rrY wiY : Int32} {ceY oceY bceY rsY : Nat → Int64} {maY omaY bmaY unY rqY bunY brqY rfY acY brfY bacY srY csY ccY cpY cwY okY osY ocY koY ciY kfY cbY goY geY keY : Nat → Int32} {N : Nat → Nat} {D : Nat → Nat → Int64} {ns no M : Nat} {S OK OS OC : Nat → Nat} {C : Nat → Nat} {jo : Bool}
theorem ym_plain {post : Int32 → SY → Prop} (hC : db_yc N D ceY maY) (h3 : ns ≤ 3) (hS : ∀ s, s < ns → S s < 3) (hsr : ∀ s, s < ns → srY s = nI (S s)) (hk : ko_c ns no OK OS OC) (ho : ky_o no OK OS OC okY osY ocY) (hM : M ≤ 4096) (hcb : ∀ i, i < M → cbY i = nI (C i) ∧ C i < 4096 ∧ ∀ s, s < ns → ro_w (C i) s < N (S s)) (hall : ∀ k, k < no → OK k = 0)
    (h1 : (gr_s (al_b no OK (ou_v D S OS OC)) jo 0 C M).1 ≤ 60 → ∀ rs, (∀ g k, g < (gr_s (al_b no OK (ou_v D S OS OC)) jo 0 C M).1 → k < no → rs (4 * g + k) = ou_v D S OS OC ((gr_s (al_b no OK (ou_v D S OS OC)) jo 0 C M).2 g) k) → post (nI (gr_s (al_b no OK (ou_v D S OS OC)) jo 0 C M).1) (opY, soY, coY, nI no, kyY, liY, bo_i jo, nI M, rrY, wiY, ceY, oceY, bceY, maY, omaY, bmaY, unY, rqY, bunY, brqY, rfY, acY, brfY, bacY, srY, csY, ccY, cpY, cwY, okY, osY, ocY, koY, ciY, kfY, cbY, goY, rs, geY, keY))
    (h0 : 60 < (gr_s (al_b no OK (ou_v D S OS OC)) jo 0 C M).1 → ∀ rs, post (nI 61) (opY, soY, coY, nI no, kyY, liY, bo_i jo, nI M, rrY, wiY, ceY, oceY, bceY, maY, omaY, bmaY, unY, rqY, bunY, brqY, rfY, acY, brfY, bacY, srY, csY, ccY, cpY, cwY, okY, osY, ocY, koY, ciY, kfY, cbY, goY, rs, geY, keY)) : wpY_plainRows post (opY, soY, coY, nI no, kyY, liY, bo_i jo, nI M, rrY, wiY, ceY, oceY, bceY, maY, omaY, bmaY, unY, rqY, bunY, brqY, rfY, acY, brfY, bacY, srY, csY, ccY, cpY, cwY, okY, osY, ocY, koY, ciY, kfY, cbY, goY, rsY, geY, keY) := by
  have h4 := hk.1
  refine loop_0 (fun m p s => wY_plainRows_4 post m (nI (gr_s (al_b no OK (ou_v D S OS OC)) jo 0 C p).1) (nI p) opY soY coY (nI no) kyY liY (bo_i jo) (nI M) rrY wiY ceY oceY bceY maY omaY bmaY unY rqY bunY brqY rfY acY brfY bacY srY csY ccY cpY cwY okY osY ocY koY ciY kfY cbY goY s geY keY) (fun p s => (gr_s (al_b no OK (ou_v D S OS OC)) jo 0 C p).1 ≤ 61 ∧ ∀ g k, g < (gr_s (al_b no OK (ou_v D S OS OC)) jo 0 C p).1 → k < no → s (4 * g + k) = ou_v D S OS OC ((gr_s (al_b no OK (ou_v D S OS OC)) jo 0 C p).2 g) k) M rsY ⟨Nat.zero_le _, fun g k hg => absurd hg (Nat.not_lt_zero _)⟩ ?_ ?_
  · intro m s hI
    refine br_t (nI_le (Nat.le_refl _) (by omega)) ?_
    by_cases z : (gr_s (al_b no OK (ou_v D S OS OC)) jo 0 C M).1 ≤ 60
    · exact h1 z s hI.2
    · rw [show (gr_s (al_b no OK (ou_v D S OS OC)) jo 0 C M).1 = 61 by have := hI.1; omega]
      exact h0 (by omega) s
  · intro m p s hp hI hn
    have hup := gr_up (al := al_b no OK (ou_v D S OS OC)) (jo := jo) (g0 := 0) (C := C) p
    have hmono := gr_mono (al := al_b no OK (ou_v D S OS OC)) (jo := jo) (g0 := 0) (C := C) (show p ≤ M by omega)
    have hnew := gr_new (al := al_b no OK (ou_v D S OS OC)) (jo := jo) (g0 := 0) (C := C) (p := p)
    have hold := gr_old (al := al_b no OK (ou_v D S OS OC)) (jo := jo) (g0 := 0) (C := C) (p := p)
    have hgd : gr_g (al_b no OK (ou_v D S OS OC)) jo 0 C p = if jo = true then fi_f (fun g => al_b no OK (ou_v D S OS OC) ((gr_s (al_b no OK (ou_v D S OS OC)) jo 0 C p).2 g) (C p)) (gr_s (al_b no OK (ou_v D S OS OC)) jo 0 C p).1 else (gr_s (al_b no OK (ou_v D S OS OC)) jo 0 C p).1 := rfl
    generalize gr_s (al_b no OK (ou_v D S OS OC)) jo 0 C M = sM at *
    generalize gr_s (al_b no OK (ou_v D S OS OC)) jo 0 C p = s1 at *
    generalize gr_s (al_b no OK (ou_v D S OS OC)) jo 0 C (p + 1) = s2 at *
    generalize gr_g (al_b no OK (ou_v D S OS OC)) jo 0 C p = gp at *
    obtain ⟨c1, c2, c3⟩ := hcb p hp
    have h61 := hI.1
    refine br_f (nI_ge hp (by omega)) (pk_le 61 s1.1 (fun z => ?_) (fun z => ⟨vp_in_nI (by omega) (by decide), ?_⟩))
    · rw [show s1.1 = 61 by omega]
      exact h0 (by omega) s
    · rw [nI_clamp (by omega), c1]
      refine ym_put hC h3 hS hsr hk ho (by omega) c2 c3 (fun rs hkeep hput => ?_)
      dsimp only
      have nxt1 : gp = s1.1 → wY_plainRows_4 post m (nI (s1.1 + 1)) (nI (p + 1)) opY soY coY (nI no) kyY liY (bo_i jo) (nI M) rrY wiY ceY oceY bceY maY omaY bmaY unY rqY bunY brqY rfY acY brfY bacY srY csY ccY cpY cwY okY osY ocY koY ciY kfY cbY goY rs geY keY := by
        intro e
        have e2 := hnew e
        have e3 : s2.1 = s1.1 + 1 := by rw [e2]
        have := hn rs
        rw [e3] at this
        refine this ⟨by omega, fun g k hg hk' => ?_⟩
        rw [e2]
        dsimp only
        by_cases eg : g = s1.1
        · subst eg
          rw [if_pos rfl]
          exact hput k hk' (hall k hk')
        · rw [if_neg eg, hkeep g k (by omega) (by omega)]
          exact hI.2 g k (by omega) hk'
      have nxt0 : gp ≠ s1.1 → wY_plainRows_4 post m (nI s1.1) (nI (p + 1)) opY soY coY (nI no) kyY liY (bo_i jo) (nI M) rrY wiY ceY oceY bceY maY omaY bmaY unY rqY bunY brqY rfY acY brfY bacY srY csY ccY cpY cwY okY osY ocY koY ciY kfY cbY goY rs geY keY := by
        intro e
        have e2 := hold e
        have := hn rs
        rw [e2] at this
        refine this ⟨by omega, fun g k hg hk' => ?_⟩
        rw [hkeep g k hg (by omega)]
        exact hI.2 g k hg hk'
      have g1 : gp = s1.1 → wY_plainRows_74 post (wY_plainRows_4 post m) (nI s1.1) (nI p) 1 opY soY coY (nI no) kyY liY (bo_i jo) (nI M) rrY wiY ceY oceY bceY maY omaY bmaY unY rqY bunY brqY rfY acY brfY bacY srY csY ccY cpY cwY okY osY ocY koY ciY kfY cbY goY rs geY keY := fun e => br_f (by decide) (nm_r (nI_1 _) (nm_r (nI_1 p) (nxt1 e)))
      have g0' : gp ≠ s1.1 → wY_plainRows_74 post (wY_plainRows_4 post m) (nI s1.1) (nI p) 0 opY soY coY (nI no) kyY liY (bo_i jo) (nI M) rrY wiY ceY oceY bceY maY omaY bmaY unY rqY bunY brqY rfY acY brfY bacY srY csY ccY cpY cwY okY osY ocY koY ciY kfY cbY goY rs geY keY := fun e => br_t rfl (nm_r (nI_1 p) (nxt0 e))
      cases jo with
      | false =>
        have eg : gp = s1.1 := hgd
        exact ⟨1, br_c (fun _ => g1 eg) (fun _ => br_t rfl (g1 eg))⟩
      | true =>
        have eg : gp = fi_f (fun g => al_b no OK (ou_v D S OS OC) (s1.2 g) (C p)) s1.1 := hgd
        refine loop_0 (fun m' j (x : Int32) => wY_plainRows_34 post (wY_plainRows_4 post m) (nI s1.1) (nI p) opY soY coY (nI no) kyY liY (bo_i true) (nI M) rrY wiY ceY oceY bceY maY omaY bmaY unY rqY bunY brqY rfY acY brfY bacY srY csY ccY cpY cwY okY osY ocY koY ciY kfY cbY goY rs geY keY m' x (nI j)) (fun j x => (x = 1 ∧ ∀ j', j' < j → al_b no OK (ou_v D S OS OC) (s1.2 j') (C p) = false) ∨ (x = 0 ∧ ∃ j', j' < s1.1 ∧ al_b no OK (ou_v D S OS OC) (s1.2 j') (C p) = true)) s1.1 1 (Or.inl ⟨rfl, lt_0⟩) ?_ ?_
        · intro m' x hx
          refine br_t (nI_le (Nat.le_refl _) (by omega)) ?_
          rcases hx with ⟨ex, ha⟩ | ⟨ex, j', hj', ha⟩
          · subst ex
            exact g1 (by rw [eg]; exact ff_eq (Nat.le_refl _) ha (fun w => absurd w (Nat.lt_irrefl _)))
          · subst ex
            refine g0' (fun w => ?_)
            rw [eg] at w
            have := (ff_all (fun g => al_b no OK (ou_v D S OS OC) (s1.2 g) (C p)) s1.1).2.1 j' (by omega)
            rw [ha] at this
            exact absurd this (by decide)
        · intro m' j x hj hx hm'
          refine br_f (nI_ge hj (by omega)) (br_f (by decide) ?_)
          rcases hx with ⟨ex, ha⟩ | ⟨ex, hex⟩
          · subst ex
            refine br_f (by decide) (ym_same (al := true) hk ho (by omega) (by omega) (fun hs => br_f (by decide) (nm_r (nI_1 j) (hm' 0 (Or.inr ⟨rfl, j, hj, ?_⟩)))) (fun hs => br_t rfl (nm_r (nI_1 j) (hm' 1 (Or.inl ⟨rfl, lt_s ha ?_⟩)))))
            · refine al_i.mpr (fun k hk' e0 => ?_)
              have := hs k hk' (Or.inl rfl)
              rw [hkeep j k hj (by omega), hput k hk' e0, hI.2 j k hj hk'] at this
              exact this
            · rw [Bool.eq_false_iff]
              intro w
              refine hs (fun k hk' _ => ?_)
              rw [hkeep j k hj (by omega), hput k hk' (hall k hk'), hI.2 j k hj hk']
              exact al_i.mp w k hk' (hall k hk')
          · subst ex
            exact br_t rfl (nm_r (nI_1 j) (hm' 0 (Or.inr ⟨rfl, hex⟩)))
theorem ym_groups {post : Int32 → SY → Prop} (hC : db_yc N D ceY maY) (h3 : ns ≤ 3) (hS : ∀ s, s < ns → S s < 3) (hsr : ∀ s, s < ns → srY s = nI (S s)) (hk : ko_c ns no OK OS OC) (ho : ky_o no OK OS OC okY osY ocY) (hM : M ≤ 4096) (hcb : ∀ i, i < M → cbY i = nI (C i) ∧ C i < 4096 ∧ ∀ s, s < ns → ro_w (C i) s < N (S s))
    (h1 : (gr_s (al_b no OK (ou_v D S OS OC)) true 0 C M).1 ≤ 60 → ∀ rs go, (∀ g k, g < (gr_s (al_b no OK (ou_v D S OS OC)) true 0 C M).1 → k < no → OK k = 0 → rs (4 * g + k) = ou_v D S OS OC ((gr_s (al_b no OK (ou_v D S OS OC)) true 0 C M).2 g) k) → (∀ i, i < M → go i = nI (gr_g (al_b no OK (ou_v D S OS OC)) true 0 C i)) → ∃ n, wY_groups_70 post (nI (gr_s (al_b no OK (ou_v D S OS OC)) true 0 C M).1) n 0 opY soY coY (nI no) kyY liY diY (nI M) rrY wiY ceY oceY bceY maY omaY bmaY unY rqY bunY brqY rfY acY brfY bacY srY csY ccY cpY cwY okY osY ocY koY ciY kfY cbY go rs geY keY)
    (h0 : 60 < (gr_s (al_b no OK (ou_v D S OS OC)) true 0 C M).1 → ∀ rs go, post (nI 61) (opY, soY, coY, nI no, kyY, liY, diY, nI M, rrY, wiY, ceY, oceY, bceY, maY, omaY, bmaY, unY, rqY, bunY, brqY, rfY, acY, brfY, bacY, srY, csY, ccY, cpY, cwY, okY, osY, ocY, koY, ciY, kfY, cbY, go, rs, geY, keY)) : wpY_groups post (opY, soY, coY, nI no, kyY, liY, diY, nI M, rrY, wiY, ceY, oceY, bceY, maY, omaY, bmaY, unY, rqY, bunY, brqY, rfY, acY, brfY, bacY, srY, csY, ccY, cpY, cwY, okY, osY, ocY, koY, ciY, kfY, cbY, goY, rsY, geY, keY) := by
  have h4 := hk.1
  have over : 60 < (gr_s (al_b no OK (ou_v D S OS OC)) true 0 C M).1 → ∀ rs go, ∃ n, wY_groups_70 post (nI 61) n 0 opY soY coY (nI no) kyY liY diY (nI M) rrY wiY ceY oceY bceY maY omaY bmaY unY rqY bunY brqY rfY acY brfY bacY srY csY ccY cpY cwY okY osY ocY koY ciY kfY cbY go rs geY keY := fun z rs go => ⟨1, br_f (by decide) (br_t (by decide) (h0 z rs go))⟩
  refine loop_0 (fun m p (s : (Nat → Int64) × (Nat → Int32)) => wY_groups_4 post m (nI (gr_s (al_b no OK (ou_v D S OS OC)) true 0 C p).1) (nI p) opY soY coY (nI no) kyY liY diY (nI M) rrY wiY ceY oceY bceY maY omaY bmaY unY rqY bunY brqY rfY acY brfY bacY srY csY ccY cpY cwY okY osY ocY koY ciY kfY cbY s.2 s.1 geY keY) (fun p s => (gr_s (al_b no OK (ou_v D S OS OC)) true 0 C p).1 ≤ 61 ∧ (∀ g k, g < (gr_s (al_b no OK (ou_v D S OS OC)) true 0 C p).1 → k < no → OK k = 0 → s.1 (4 * g + k) = ou_v D S OS OC ((gr_s (al_b no OK (ou_v D S OS OC)) true 0 C p).2 g) k) ∧ ∀ i, i < p → s.2 i = nI (gr_g (al_b no OK (ou_v D S OS OC)) true 0 C i)) M (rsY, goY) ⟨Nat.zero_le _, fun g k hg => absurd hg (Nat.not_lt_zero _), lt_0⟩ ?_ ?_
  · rintro m ⟨rs, go⟩ ⟨a, b, c⟩
    refine br_t (nI_le (Nat.le_refl _) (by omega)) ?_
    by_cases z : (gr_s (al_b no OK (ou_v D S OS OC)) true 0 C M).1 ≤ 60
    · exact h1 z rs go b c
    · have := over (by omega) rs go
      rw [show (gr_s (al_b no OK (ou_v D S OS OC)) true 0 C M).1 = 61 by omega]
      exact this
  · rintro m p ⟨rs, go⟩ hp ⟨a, b, c⟩ hn
    have hup := gr_up (al := al_b no OK (ou_v D S OS OC)) (jo := true) (g0 := 0) (C := C) p
    have hmono := gr_mono (al := al_b no OK (ou_v D S OS OC)) (jo := true) (g0 := 0) (C := C) (show p ≤ M by omega)
    have hnew := gr_new (al := al_b no OK (ou_v D S OS OC)) (jo := true) (g0 := 0) (C := C) (p := p)
    have hold := gr_old (al := al_b no OK (ou_v D S OS OC)) (jo := true) (g0 := 0) (C := C) (p := p)
    have hgd : gr_g (al_b no OK (ou_v D S OS OC)) true 0 C p = fi_f (fun g => al_b no OK (ou_v D S OS OC) ((gr_s (al_b no OK (ou_v D S OS OC)) true 0 C p).2 g) (C p)) (gr_s (al_b no OK (ou_v D S OS OC)) true 0 C p).1 := rfl
    obtain ⟨c1, c2, c3⟩ := hcb p hp
    refine br_f (nI_ge hp (by omega)) (pk_le 61 (gr_s (al_b no OK (ou_v D S OS OC)) true 0 C p).1 (fun z => ?_) (fun z => ⟨vp_in_nI (by omega) (by decide), ?_⟩))
    · have := over (by omega) rs go
      rw [show (gr_s (al_b no OK (ou_v D S OS OC)) true 0 C p).1 = 61 by omega]
      exact this
    · rw [nI_clamp (by omega), c1]
      refine ym_put hC h3 hS hsr hk ho (by omega) c2 c3 (fun rs1 hkeep hput => ?_)
      dsimp only
      clear h1 h0 over
      have hff := ff_all (fun g => al_b no OK (ou_v D S OS OC) ((gr_s (al_b no OK (ou_v D S OS OC)) true 0 C p).2 g) (C p)) (gr_s (al_b no OK (ou_v D S OS OC)) true 0 C p).1
      rw [← hgd] at hff
      obtain ⟨f1, f2, f3⟩ := hff
      have hgo : ∀ i, i < p + 1 → upd go p (nI (gr_g (al_b no OK (ou_v D S OS OC)) true 0 C p)) i = nI (gr_g (al_b no OK (ou_v D S OS OC)) true 0 C i) := lt_s (fun i hi => by rw [pk_un (by omega)]; exact c i hi) pk_us
      generalize gr_s (al_b no OK (ou_v D S OS OC)) true 0 C p = s1 at *
      generalize gr_s (al_b no OK (ou_v D S OS OC)) true 0 C (p + 1) = s2 at *
      generalize gr_g (al_b no OK (ou_v D S OS OC)) true 0 C = G at *
      have sm : ∀ g, g < s1.1 → ((∀ k, k < no → (false = true ∨ OK k = 0) → rs1 (4 * g + k) = rs1 (4 * s1.1 + k)) ↔ al_b no OK (ou_v D S OS OC) (s1.2 g) (C p) = true) := by
        intro g hg
        rw [al_i]
        constructor
        · intro hs k hk' e0
          have := hs k hk' (Or.inr e0)
          rw [hkeep g k hg (by omega), hput k hk' e0, b g k hg hk' e0] at this
          exact this
        · intro hs k hk' e0
          have e0 : OK k = 0 := by rcases e0 with w | w; exact absurd w (by decide); exact w
          rw [hkeep g k hg (by omega), hput k hk' e0, b g k hg hk' e0]
          exact hs k hk' e0
      refine loop_0 (fun m' g (_ : Unit) => wY_groups_31 post (wY_groups_4 post m) (nI s1.1) (nI p) opY soY coY (nI no) kyY liY diY (nI M) rrY wiY ceY oceY bceY maY omaY bmaY unY rqY bunY brqY rfY acY brfY bacY srY csY ccY cpY cwY okY osY ocY koY ciY kfY cbY go rs1 geY keY m' (nI g)) (fun _ _ => True) (G p) () trivial ?_ ?_
      · intro m' _ _
        rw [wY_groups_31]
        refine ym_same (al := false) hk ho (by omega) (by omega) (fun hs => br_f (by decide) ?_) (fun hs => ?_)
        · refine ⟨vp_in_nI (by omega) (by decide), nm_r (e' := upd go p (nI (G p))) (by rw [nI_clamp (by omega)]) (pk_eq (G p) s1.1 (fun e => ?_) (fun e => ?_))⟩
          · have e2 := hnew e
            have e3 : s2.1 = s1.1 + 1 := by rw [e2]
            have := hn (rs1, upd go p (nI (G p)))
            rw [e3] at this
            refine nm_r (nI_1 _) (nm_r (nI_1 p) (this ⟨by omega, fun g k hg hk' e0 => ?_, hgo⟩))
            show rs1 (4 * g + k) = _
            rw [e2]
            dsimp only
            by_cases eg : g = s1.1
            · subst eg
              rw [if_pos rfl]
              exact hput k hk' e0
            · rw [if_neg eg, hkeep g k (by omega) (by omega)]
              exact b g k (by omega) hk' e0
          · have e2 := hold e
            have := hn (rs1, upd go p (nI (G p)))
            rw [e2] at this
            refine nm_r (nI_1 p) (this ⟨by omega, fun g k hg hk' e0 => ?_, hgo⟩)
            show rs1 (4 * g + k) = _
            rw [hkeep g k hg (by omega)]
            exact b g k hg hk' e0
        · exfalso
          rcases Nat.lt_or_ge (G p) s1.1 with w | w
          · exact hs ((sm _ w).mpr (f3 w))
          · have : G p = s1.1 := by omega
            rw [this] at hs
            exact hs (fun _ _ _ => rfl)
      · intro m' g _ hg _ hm'
        rw [wY_groups_31]
        refine ym_same (al := false) hk ho (by omega) (by omega) (fun hs => ?_) (fun hs => br_t rfl (nm_r (nI_1 g) (hm' () trivial)))
        exfalso
        have := f2 g hg
        rw [(sm g (by omega)).mp hs] at this
        exact absurd this (by decide)
end
