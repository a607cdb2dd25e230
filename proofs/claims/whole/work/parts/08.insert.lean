section
variable {toX soX coX ouX kyX moX diX rrX rwX : Int32} {ceX sceX fvX ovX rsX : Nat → Int64} {rcX unX rqX taX acX srcX sunX srqX staX sacX stX cfX cpX chX csX okX ocX koX kfX cbX mkX rtX : Nat → Int32} {opY soY coY ouY kyY liY diY cmY rrY wiY : Int32} {ceY oceY bceY rsY : Nat → Int64} {maY omaY bmaY unY rqY bunY brqY rfY acY brfY bacY srY csY ccY cpY cwY okY osY ocY koY ciY kfY cbY goY geY keY : Nat → Int32} {N : Nat → Nat} {D : Nat → Nat → Int64} {U R : Nat → Bool} {T A : Nat → Nat}
theorem dy_ext {ce ce' : Nat → Int64} {ma ma' : Nat → Int32} (h : db_yc N D ce ma) (h1 : ∀ i, i < 144 → ce' i = ce i) (h2 : ∀ t, t < 3 → ma' t = ma t) : db_yc N D ce' ma' := by
  refine ⟨fun t ht => ?_, fun c r hc hr => ?_⟩
  · rw [h2 t ht]
    exact h.1 t ht
  · have := (h.1 (c / 3) (by omega)).2
    rw [h1 _ (by omega)]
    exact h.2 c r hc hr
theorem ul_step {s f : Nat → Int64} {i : Nat} (hi : i < 2 ^ 31) (h : ∀ j, j < i → s j = f j) : ∀ j, j < i + 1 → vp_updL s (nI i).toNatClampNeg (f (nI i).toNatClampNeg) j = f j := by
  rw [nI_clamp hi]
  refine lt_s (fun j hj => ?_) ?_
  · rw [pk_uLn (by omega)]
    exact h j hj
  · exact pk_uLs
theorem ui_step {s f : Nat → Int32} {i : Nat} (hi : i < 2 ^ 31) (h : ∀ j, j < i → s j = f j) : ∀ j, j < i + 1 → upd s (nI i).toNatClampNeg (f (nI i).toNatClampNeg) j = f j := by
  rw [nI_clamp hi]
  refine lt_s (fun j hj => ?_) ?_
  · rw [pk_un (by omega)]
    exact h j hj
  · exact pk_us
theorem ym_save {post : SY → Prop} (h : ∀ oce oma, (∀ i, i < 144 → oce i = ceY i) → (∀ t, t < 3 → oma t = maY t) → post (opY, soY, coY, ouY, kyY, liY, diY, cmY, rrY, wiY, ceY, oce, bceY, maY, oma, bmaY, unY, rqY, bunY, brqY, rfY, acY, brfY, bacY, srY, csY, ccY, cpY, cwY, okY, osY, ocY, koY, ciY, kfY, cbY, goY, rsY, geY, keY)) : wpY_save post (opY, soY, coY, ouY, kyY, liY, diY, cmY, rrY, wiY, ceY, oceY, bceY, maY, omaY, bmaY, unY, rqY, bunY, brqY, rfY, acY, brfY, bacY, srY, csY, ccY, cpY, cwY, okY, osY, ocY, koY, ciY, kfY, cbY, goY, rsY, geY, keY) := by
  refine loop_0 (fun n i s => wY_save_2 post opY soY coY ouY kyY liY diY cmY rrY wiY n (nI i) ceY s bceY maY omaY bmaY unY rqY bunY brqY rfY acY brfY bacY srY csY ccY cpY cwY okY osY ocY koY ciY kfY cbY goY rsY geY keY) (fun i s => ∀ j, j < i → s j = ceY j) 144 oceY lt_0 ?_ ?_
  · intro n s hI
    refine br_t (by decide) (loop_0 (fun n i s' => wY_save_29 post opY soY coY ouY kyY liY diY cmY rrY wiY n (nI i) ceY s bceY maY s' bmaY unY rqY bunY brqY rfY acY brfY bacY srY csY ccY cpY cwY okY osY ocY koY ciY kfY cbY goY rsY geY keY) (fun i s' => ∀ j, j < i → s' j = maY j) 3 omaY lt_0 ?_ ?_)
    · intro n s' hI'
      exact br_t (by decide) (h s s' hI hI')
    · intro n i s' hi hI' hn
      exact br_f (nI_ge (b := 3) hi (by decide)) ⟨vp_in_nI hi (by decide), vp_in_nI hi (by decide), nm_e (nm_r (nI_1 i) (hn _ (ui_step (by omega) hI')))⟩
  · intro n i s hi hI hn
    exact br_f (nI_ge (b := 144) hi (by decide)) ⟨vp_in_nI hi (by decide), vp_in_nI hi (by decide), nm_e (nm_r (nI_1 i) (hn _ (ul_step (by omega) hI)))⟩
theorem ym_settle {post : Int32 → SY → Prop} {N' : Nat → Nat} {D' : Nat → Nat → Int64} (hC : db_yc N' D' ceY maY) (hk : db_k U R T A unY rqY rfY acY) {p : Int32} (h1 : (∀ c, c < 9 → fi_t N' D' (U c) (R c) (T c) c) → post p (opY, soY, coY, ouY, kyY, liY, diY, cmY, rrY, wiY, ceY, oceY, bceY, maY, omaY, bmaY, unY, rqY, bunY, brqY, rfY, acY, brfY, bacY, srY, csY, ccY, cpY, cwY, okY, osY, ocY, koY, ciY, kfY, cbY, goY, rsY, geY, keY)) (h0 : (¬ ∀ c, c < 9 → fi_t N' D' (U c) (R c) (T c) c) → ∀ ce ma, (∀ i, i < 144 → ce i = oceY i) → (∀ t, t < 3 → ma t = omaY t) → post (-3) (opY, soY, coY, ouY, kyY, liY, diY, cmY, rrY, wiY, ce, oceY, bceY, ma, omaY, bmaY, unY, rqY, bunY, brqY, rfY, acY, brfY, bacY, srY, csY, ccY, cpY, cwY, okY, osY, ocY, koY, ciY, kfY, cbY, goY, rsY, geY, keY)) : wpY_settle post (opY, soY, coY, ouY, kyY, liY, diY, cmY, rrY, wiY, ceY, oceY, bceY, maY, omaY, bmaY, unY, rqY, bunY, brqY, rfY, acY, brfY, bacY, srY, csY, ccY, cpY, cwY, okY, osY, ocY, koY, ciY, kfY, cbY, goY, rsY, geY, keY) p := by
  unfold wpY_settle
  dsimp only
  refine ym_allFit hC hk (fun hf => ?_) (fun hf => ?_)
  · exact br_f (by decide) (h1 hf)
  · refine br_t rfl ?_
    refine loop_0 (fun n i s => wY_settle_11 post opY soY coY ouY kyY liY diY cmY rrY wiY n (nI i) s oceY bceY maY omaY bmaY unY rqY bunY brqY rfY acY brfY bacY srY csY ccY cpY cwY okY osY ocY koY ciY kfY cbY goY rsY geY keY) (fun i s => ∀ j, j < i → s j = oceY j) 144 ceY lt_0 ?_ ?_
    · intro n s hI
      refine br_t (by decide) (loop_0 (fun n i s' => wY_settle_38 post opY soY coY ouY kyY liY diY cmY rrY wiY n (nI i) s oceY bceY s' omaY bmaY unY rqY bunY brqY rfY acY brfY bacY srY csY ccY cpY cwY okY osY ocY koY ciY kfY cbY goY rsY geY keY) (fun i s' => ∀ j, j < i → s' j = omaY j) 3 maY lt_0 ?_ ?_)
      · intro n s' hI'
        exact br_t (by decide) (h0 hf s s' hI hI')
      · intro n i s' hi hI' hn
        exact br_f (nI_ge (b := 3) hi (by decide)) ⟨vp_in_nI hi (by decide), vp_in_nI hi (by decide), nm_e (nm_r (nI_1 i) (hn _ (ui_step (by omega) hI')))⟩
    · intro n i s hi hI hn
      exact br_f (nI_ge (b := 144) hi (by decide)) ⟨vp_in_nI hi (by decide), vp_in_nI hi (by decide), nm_e (nm_r (nI_1 i) (hn _ (ul_step (by omega) hI)))⟩
/-! the inserted row -/
def in_v (p1 p2 p3 : Int32) (m : Nat) (c : Nat) : Int64 :=
  if c = 0 then (if m % 2 = 0 then p1.toInt64 else nu_l) else if c = 1 then (if m / 2 % 2 = 0 then p2.toInt64 else nu_l) else (if m / 4 % 2 = 0 then p3.toInt64 else nu_l)
def in_D (N : Nat → Nat) (D : Nat → Nat → Int64) (t : Nat) (w : Nat → Int64) : Nat → Nat → Int64 := fun c r => if c / 3 = t ∧ r = N t then w (c % 3) else D c r
theorem br_if {α : Type} (P : α → Prop) {c d : Prop} [Decidable d] {x y : α} (e : c ↔ d) (h : P (if d then x else y)) : (c → P x) ∧ (¬ c → P y) := by
  by_cases hd : d
  · rw [if_pos hd] at h
    exact br_t (e.mpr hd) h
  · rw [if_neg hd] at h
    exact br_f (fun z => hd (e.mp z)) h
theorem br_ifn {α : Type} (P : α → Prop) {c d : Prop} [Decidable d] {x y : α} (e : ¬ c ↔ d) (h : P (if d then x else y)) : (c → P y) ∧ (¬ c → P x) := by
  by_cases hd : d
  · rw [if_pos hd] at h
    exact br_f (e.mpr hd) h
  · rw [if_neg hd] at h
    exact ⟨fun _ => h, fun z => absurd (e.mp z) hd⟩
theorem nb_x : ∀ m, m < 8 → ((nI m &&& 1) = 0 ↔ m % 2 = 0) ∧ ((nI m &&& 2) = 0 ↔ m / 2 % 2 = 0) ∧ ((nI m &&& 4) = 0 ↔ m / 4 % 2 = 0) := by decide +kernel
theorem nb_y : ∀ m, m < 8 → (¬ (nI m &&& 1) = 1 ↔ m % 2 = 0) ∧ (¬ ((nI m >>> ((1 : Int32) &&& 31)) &&& 1) = 1 ↔ m / 2 % 2 = 0) ∧ (¬ ((nI m >>> ((2 : Int32) &&& 31)) &&& 1) = 1 ↔ m / 4 % 2 = 0) := by decide +kernel
theorem dx_ins {t : Nat} (ht : t < 3) (hN : N t < 16) {ce : Nat → Int64} {rc : Nat → Int32} (h : db_xc N D ce rc) (w : Nat → Int64) : db_xc (ex_n N t (N t + 1)) (in_D N D t w) (vp_updL (vp_updL (vp_updL ce (16 * (3 * t) + N t) (w 0)) (16 * (3 * t + 1) + N t) (w 1)) (16 * (3 * t + 2) + N t) (w 2)) (upd rc t (nI (N t + 1))) := by
  refine ⟨fun q hq => ?_, fun c r hc hr => ?_⟩
  · by_cases e : q = t
    · subst e
      rw [pk_us, ex_s]
      exact ⟨rfl, by omega⟩
    · rw [pk_un e, show ex_n N t (N t + 1) q = N q from if_neg e]
      exact h.1 q hq
  · have h16 := (h.1 (c / 3) (by omega)).2
    by_cases e : c / 3 = t
    · rw [e, ex_s] at hr
      by_cases e2 : r = N t
      · subst e2
        rw [show in_D N D t w c (N t) = w (c % 3) from if_pos ⟨e, rfl⟩]
        have h3 : c = 3 * t ∨ c = 3 * t + 1 ∨ c = 3 * t + 2 := by omega
        rcases h3 with z | z | z
        · subst z
          rw [pk_uLn (by omega), pk_uLn (by omega), pk_uLs, show 3 * t % 3 = 0 by omega]
        · subst z
          rw [pk_uLn (by omega), pk_uLs, show (3 * t + 1) % 3 = 1 by omega]
        · subst z
          rw [pk_uLs, show (3 * t + 2) % 3 = 2 by omega]
      · rw [show in_D N D t w c r = D c r from if_neg (fun z => e2 z.2), pk_uLn (by omega), pk_uLn (by omega), pk_uLn (by omega)]
        exact h.2 c r hc (by rw [e]; omega)
    · rw [show ex_n N t (N t + 1) (c / 3) = N (c / 3) from if_neg e] at hr
      rw [show in_D N D t w c r = D c r from if_neg (fun z => e z.1), pk_uLn (by omega), pk_uLn (by omega), pk_uLn (by omega)]
      exact h.2 c r hc hr
theorem dx_ins0 {t : Nat} (ht : t < 3) (hN : N t < 16) {ce : Nat → Int64} {rc : Nat → Int32} (h : db_xc N D ce rc) (w0 w1 w2 : Int64) : db_xc N D (vp_updL (vp_updL (vp_updL ce (16 * (3 * t) + N t) w0) (16 * (3 * t + 1) + N t) w1) (16 * (3 * t + 2) + N t) w2) (upd (upd rc t (nI (N t + 1))) t (nI (N t))) := by
  refine ⟨fun q hq => ?_, fun c r hc hr => ?_⟩
  · by_cases e : q = t
    · subst e
      rw [pk_us]
      exact ⟨rfl, by omega⟩
    · rw [pk_un e, pk_un e]
      exact h.1 q hq
  · have h16 := (h.1 (c / 3) (by omega)).2
    have hne : c / 3 = t → r ≠ N t := by
      intro e
      rw [e] at hr
      omega
    have a0 : ∀ d, d < 3 → 16 * c + r ≠ 16 * (3 * t + d) + N t := by
      intro d hd z
      have : c = 3 * t + d := by omega
      exact hne (by omega) (by omega)
    rw [pk_uLn (a0 2 (by decide)), pk_uLn (a0 1 (by decide)), pk_uLn (show 16 * c + r ≠ 16 * (3 * t) + N t from a0 0 (by decide))]
    exact h.2 c r hc hr
theorem dy_ins {t : Nat} (ht : t < 3) (hN : N t < 16) {ce : Nat → Int64} {ma : Nat → Int32} (h : db_yc N D ce ma) (w : Nat → Int64) : db_yc (ex_n N t (N t + 1)) (in_D N D t w) (vp_updL (vp_updL (vp_updL ce (48 * t + 3 * N t) (w 0)) (48 * t + 3 * N t + 1) (w 1)) (48 * t + 3 * N t + 2) (w 2)) (upd ma t (nI (N t + 1))) := by
  refine ⟨fun q hq => ?_, fun c r hc hr => ?_⟩
  · by_cases e : q = t
    · subst e
      rw [pk_us, ex_s]
      exact ⟨rfl, by omega⟩
    · rw [pk_un e, show ex_n N t (N t + 1) q = N q from if_neg e]
      exact h.1 q hq
  · have h16 := (h.1 (c / 3) (by omega)).2
    by_cases e : c / 3 = t
    · rw [e, ex_s] at hr
      rw [e]
      by_cases e2 : r = N t
      · subst e2
        rw [show in_D N D t w c (N t) = w (c % 3) from if_pos ⟨e, rfl⟩]
        have h3 : c % 3 = 0 ∨ c % 3 = 1 ∨ c % 3 = 2 := by omega
        rcases h3 with z | z | z
        · rw [z, pk_uLn (by omega), pk_uLn (by omega)]
          exact pk_uLs
        · rw [z, pk_uLn (by omega)]
          exact pk_uLs
        · rw [z]
          exact pk_uLs
      · rw [show in_D N D t w c r = D c r from if_neg (fun z => e2 z.2), pk_uLn (by omega), pk_uLn (by omega), pk_uLn (by omega)]
        have := h.2 c r hc (by rw [e]; omega)
        rw [e] at this
        exact this
    · rw [show ex_n N t (N t + 1) (c / 3) = N (c / 3) from if_neg e] at hr
      have hr16 : r < 16 := by omega
      have a0 : ∀ d, d < 3 → 48 * (c / 3) + 3 * r + c % 3 ≠ 48 * t + 3 * N t + d := by
        intro d hd z
        exact e (by omega)
      rw [show in_D N D t w c r = D c r from if_neg (fun z => e z.1), pk_uLn (a0 2 (by decide)), pk_uLn (a0 1 (by decide)), pk_uLn (show 48 * (c / 3) + 3 * r + c % 3 ≠ 48 * t + 3 * N t from a0 0 (by decide))]
      exact h.2 c r hc hr
end
