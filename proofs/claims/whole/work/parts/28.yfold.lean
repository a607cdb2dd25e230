section
variable {opY soY coY ouY kyY liY diY cmY rrY wiY : Int32} {ceY oceY bceY rsY : Nat → Int64} {maY omaY bmaY unY rqY bunY brqY rfY acY brfY bacY srY csY ccY cpY cwY okY osY ocY koY ciY kfY cbY goY geY keY : Nat → Int32} {N : Nat → Nat} {D : Nat → Nat → Int64} {ns no M : Nat} {S OK OS OC : Nat → Nat} {C G : Nat → Nat}
theorem bo_if (b : Bool) : (if b = true then (1 : Int32) else 0) = bo_i b := by cases b <;> rfl
theorem ym_diff {post : Int32 → Prop} (hC : db_yc N D ceY maY) (h3 : ns ≤ 3) (hS : ∀ s, s < ns → S s < 3) (hsr : ∀ s, s < ns → srY s = nI (S s)) {s c : Nat} (hs : s < ns) (hc : c < 3) {b : Int32} {E : Nat → Bool} (hb : ∀ r, r < 16 → bt b r = E r) (hE : ∀ r, r < 16 → E r = true → r < N (S s)) (h : post (nI (dn_n (fun r => D (3 * S s + c) r) E))) : wpY_different post (opY, soY, coY, ouY, kyY, liY, diY, cmY, rrY, wiY, ceY, oceY, bceY, maY, omaY, bmaY, unY, rqY, bunY, brqY, rfY, acY, brfY, bacY, srY, csY, ccY, cpY, cwY, okY, osY, ocY, koY, ciY, kfY, cbY, goY, rsY, geY, keY) b (nI s) (nI c) := by
  have hs3 := hS s hs
  have h16 := (hC.1 (S s) hs3).2
  have ecell : ∀ r, r < N (S s) → ceY (48 * S s + c + 3 * r) = D (3 * S s + c) r := by
    intro r hr
    have := hC.2 (3 * S s + c) r (by omega) (by rw [show (3 * S s + c) / 3 = S s by omega]; exact hr)
    rw [show (3 * S s + c) / 3 = S s by omega, show (3 * S s + c) % 3 = c by omega] at this
    rw [← this]
    exact congrArg ceY (by omega)
  refine ⟨vp_in_nI (by omega) (by decide), nm_r (e' := nI (48 * S s + c)) (by rw [nI_clamp (by omega), hsr s hs, nz_48, nI_add]) ?_⟩
  refine loop_0 (fun n r (_ : Unit) => wY_different_19 post b (nI (48 * S s + c)) opY soY coY ouY kyY liY diY cmY rrY wiY ceY oceY bceY maY omaY bmaY unY rqY bunY brqY rfY acY brfY bacY srY csY ccY cpY cwY okY osY ocY koY ciY kfY cbY goY rsY geY keY n (nI (cn_b (dn_f (fun r => D (3 * S s + c) r) E) r)) (nI r)) (fun _ _ => True) 16 () trivial ?_ ?_
  · intro n _ _
    exact br_t (by decide) h
  · intro n r _ hr _ hn
    have hn := hn () trivial
    refine br_f (nI_ge (b := 16) hr (by decide)) ?_
    rw [bt_sh hr, bo_if, hb r hr]
    cases he : E r with
    | false =>
      refine br_t rfl (nm_r (nI_1 r) ?_)
      rw [cn_f (fun z => by rw [(dn_i.mp z).1] at he; exact absurd he (by decide))] at hn
      exact hn
    | true =>
      refine br_f (by decide) ?_
      have hrN := hE r hr he
      refine loop_0 (fun m q (x : Int32) => wY_different_44 post (wY_different_19 post b (nI (48 * S s + c)) opY soY coY ouY kyY liY diY cmY rrY wiY ceY oceY bceY maY omaY bmaY unY rqY bunY brqY rfY acY brfY bacY srY csY ccY cpY cwY okY osY ocY koY ciY kfY cbY goY rsY geY keY n) b (nI (cn_b (dn_f (fun r => D (3 * S s + c) r) E) r)) (nI (48 * S s + c)) (nI r) opY soY coY ouY kyY liY diY cmY rrY wiY ceY oceY bceY maY omaY bmaY unY rqY bunY brqY rfY acY brfY bacY srY csY ccY cpY cwY okY osY ocY koY ciY kfY cbY goY rsY geY keY m x (nI q)) (fun q x => (x = 1 ∧ ∀ q', q' < q → E q' = true → D (3 * S s + c) q' ≠ D (3 * S s + c) r) ∨ (x = 0 ∧ ∃ q', q' < r ∧ E q' = true ∧ D (3 * S s + c) q' = D (3 * S s + c) r)) r 1 (Or.inl ⟨rfl, lt_0⟩) ?_ ?_
      · intro m x hx
        refine br_t (nI_le (Nat.le_refl _) (by omega)) ?_
        rcases hx with ⟨ex, ha⟩ | ⟨ex, q', hq', he', hw'⟩
        · subst ex
          rw [cn_t (dn_i.mpr ⟨he, ha⟩)] at hn
          exact br_f (by decide) (nm_r (nI_1 _) (nm_r (nI_1 r) hn))
        · subst ex
          rw [cn_f (fun z => (dn_i.mp z).2 q' hq' he' hw')] at hn
          exact br_t rfl (nm_r (nI_1 r) hn)
      · intro m q x hq hx hm
        refine br_f (nI_ge hq (by omega)) ?_
        rw [bt_sh (show q < 16 by omega), bo_if, hb q (by omega)]
        cases heq : E q with
        | false =>
          refine br_f (by decide) (nm_r (nI_1 q) (hm x ?_))
          rcases hx with ⟨ex, ha⟩ | z
          · exact Or.inl ⟨ex, lt_s ha (fun z => by rw [heq] at z; exact absurd z (by decide))⟩
          · exact Or.inr z
        | true =>
          have hqN := hE q (by omega) heq
          rw [nz_3m, nz_3m, nI_add, nI_add, nI_clamp (show 48 * S s + c + 3 * q < 2 ^ 31 by omega), nI_clamp (show 48 * S s + c + 3 * r < 2 ^ 31 by omega), ecell q hqN, ecell r hrN]
          refine br_t rfl ⟨vp_in_nI (by omega) (by decide), vp_in_nI (by omega) (by decide), ?_⟩
          by_cases ev : D (3 * S s + c) q = D (3 * S s + c) r
          · exact br_t ev (nm_r (nI_1 q) (hm 0 (Or.inr ⟨rfl, q, hq, heq, ev⟩)))
          · refine br_f ev (nm_r (nI_1 q) (hm x ?_))
            rcases hx with ⟨ex, ha⟩ | z
            · exact Or.inl ⟨ex, lt_s ha (fun _ => ev)⟩
            · exact Or.inr z
theorem lN_z {n : Nat} (h : n < 2 ^ 31) : lN n = 0 ↔ n = 0 := lN_eq (b := 0) h (by decide)
/-- one value into Y's fold -/
theorem ym_f103 {post : SY → Prop} {J2 : Int32 → (Nat → Int64) → (Nat → Int64) → (Nat → Int64) → (Nat → Int32) → (Nat → Int32) → (Nat → Int32) → (Nat → Int32) → (Nat → Int32) → (Nat → Int32) → (Nat → Int32) → (Nat → Int32) → (Nat → Int32) → (Nat → Int32) → (Nat → Int32) → (Nat → Int32) → (Nat → Int32) → (Nat → Int32) → (Nat → Int32) → (Nat → Int32) → (Nat → Int32) → (Nat → Int32) → (Nat → Int32) → (Nat → Int32) → (Nat → Int32) → (Nat → Int32) → (Nat → Int32) → (Nat → Int32) → (Nat → Int64) → (Nat → Int32) → (Nat → Int32) → Prop} {J : Int64 → Int64 → Int64 → Int64 → Int32 → Int32 → Prop} {act : Nat → Bool} {x : Nat → Int64} {i k s : Nat} {g b : Int32} (hi : i < 4096) (hk : k < 4) (hs : s < 3) (hc : C i < 4096) (ecb : cbY i = nI (C i)) (eos : osY k = nI s)
    (h0 : x i = nu_l → J (lN (fo_s act x i).1) (fo_s act x i).2.1 (fo_s act x i).2.2.1 (fo_s act x i).2.2.2 b (nI (i + 1)))
    (h1 : x i ≠ nu_l → J (lN ((fo_s act x i).1 + 1)) ((fo_s act x i).2.1 + x i) (if (fo_s act x i).1 = 0 ∨ x i < (fo_s act x i).2.2.1 then x i else (fo_s act x i).2.2.1) (if (fo_s act x i).1 = 0 ∨ (fo_s act x i).2.2.2 < x i then x i else (fo_s act x i).2.2.2) (b ||| ((1 : Int32) <<< (nI (ro_w (C i) s) &&& 31))) (nI (i + 1))) (hcnt : (fo_s act x i).1 ≤ 4096) :
    wY_fold_103 post J2 J g (nI k) (lN (fo_s act x i).1) (fo_s act x i).2.1 (fo_s act x i).2.2.1 (fo_s act x i).2.2.2 b (nI i) (x i) opY soY coY ouY kyY liY diY cmY rrY wiY ceY oceY bceY maY omaY bmaY unY rqY bunY brqY rfY acY brfY bacY srY csY ccY cpY cwY okY osY ocY koY ciY kfY cbY goY rsY geY keY := by
  refine br_c (fun z => nm_r (nI_1 i) (h0 z)) (fun z => ?_)
  have h1 := h1 z
  generalize fo_s act x i = st at *
  generalize x i = v at *
  have e161 : ∀ le mo, J (lN (st.1 + 1)) (st.2.1 + v) le mo (b ||| ((1 : Int32) <<< (nI (ro_w (C i) s) &&& 31))) (nI (i + 1)) → wY_fold_161 post J2 J g (nI k) (lN st.1) st.2.1 le b (nI i) v mo opY soY coY ouY kyY liY diY cmY rrY wiY ceY oceY bceY maY omaY bmaY unY rqY bunY brqY rfY acY brfY bacY srY csY ccY cpY cwY okY osY ocY koY ciY kfY cbY goY rsY geY keY := by
    intro le mo hJ
    refine nm_r (lN_1 _) (nm_e ⟨vp_in_nI hi (by decide), vp_in_nI hk (by decide), ?_⟩)
    rw [nI_clamp (show i < 2 ^ 31 by omega), nI_clamp (show k < 2 ^ 31 by omega), ecb, eos]
    unfold wpY_rowOf
    dsimp only
    rw [ro_e hc hs]
    exact nm_e (nm_r (nI_1 i) hJ)
  have e138 : ∀ le, J (lN (st.1 + 1)) (st.2.1 + v) le (if st.1 = 0 ∨ st.2.2.2 < v then v else st.2.2.2) (b ||| ((1 : Int32) <<< (nI (ro_w (C i) s) &&& 31))) (nI (i + 1)) → wY_fold_138 post J2 J g (nI k) (lN st.1) st.2.1 st.2.2.2 b (nI i) v le opY soY coY ouY kyY liY diY cmY rrY wiY ceY oceY bceY maY omaY bmaY unY rqY bunY brqY rfY acY brfY bacY srY csY ccY cpY cwY okY osY ocY koY ciY kfY cbY goY rsY geY keY := by
    intro le hJ
    by_cases hz : st.1 = 0
    · rw [if_pos (Or.inl hz)] at hJ
      exact br_t ((lN_z (by omega)).mpr hz) (e161 le v hJ)
    · refine br_f (fun w => hz ((lN_z (by omega)).mp w)) (br_c (fun w => ?_) (fun w => ?_))
      · rw [if_neg (fun y => by rcases y with y | y; exact hz y; exact absurd y (Int64.not_lt.mpr w))] at hJ
        exact e161 le _ hJ
      · rw [if_pos (Or.inr (Int64.not_le.mp w))] at hJ
        exact e161 le v hJ
  by_cases hz : st.1 = 0
  · rw [if_pos (Or.inl hz)] at h1
    exact br_t ((lN_z (by omega)).mpr hz) (e138 v h1)
  · refine br_f (fun w => hz ((lN_z (by omega)).mp w)) (br_c (fun w => ?_) (fun w => ?_))
    · rw [if_neg (fun y => by rcases y with y | y; exact hz y; exact absurd y (Int64.not_lt.mpr w))] at h1
      exact e138 _ h1
    · rw [if_pos (Or.inr (Int64.not_le.mp w))] at h1
      exact e138 v h1
theorem ym_fold {post : SY → Prop} (hC : db_yc N D ceY maY) (h3 : ns ≤ 3) (hS : ∀ s, s < ns → S s < 3) (hsr : ∀ s, s < ns → srY s = nI (S s)) (hk : ko_c ns no OK OS OC) (ho : ky_o no OK OS OC okY osY ocY) (hM : M ≤ 4096) (hcb : ∀ i, i < M → cbY i = nI (C i) ∧ C i < 4096 ∧ ∀ s, s < ns → ro_w (C i) s < N (S s)) (hgo : ∀ i, i < M → goY i = nI (G i) ∧ G i < 2 ^ 31) {g : Nat} (hg : g < 60)
    (h : ∀ rs, (∀ g' k, g' ≠ g → k < 4 → rs (4 * g' + k) = rsY (4 * g' + k)) → (∀ k, k < no → OK k = 0 → rs (4 * g + k) = rsY (4 * g + k)) → (∀ k, k < no → OK k ≠ 0 → rs (4 * g + k) = rv_v OK OS (ou_v D S OS OC) (ou_w D S OS OC) C G M g k) → post (opY, soY, coY, nI no, kyY, liY, diY, nI M, rrY, wiY, ceY, oceY, bceY, maY, omaY, bmaY, unY, rqY, bunY, brqY, rfY, acY, brfY, bacY, srY, csY, ccY, cpY, cwY, okY, osY, ocY, koY, ciY, kfY, cbY, goY, rs, geY, keY)) : wpY_fold post (opY, soY, coY, nI no, kyY, liY, diY, nI M, rrY, wiY, ceY, oceY, bceY, maY, omaY, bmaY, unY, rqY, bunY, brqY, rfY, acY, brfY, bacY, srY, csY, ccY, cpY, cwY, okY, osY, ocY, koY, ciY, kfY, cbY, goY, rsY, geY, keY) (nI g) := by
  have h4 := hk.1
  refine loop_0 (fun n k s => wY_fold_2 post (nI g) opY soY coY (nI no) kyY liY diY (nI M) rrY wiY n (nI k) ceY oceY bceY maY omaY bmaY unY rqY bunY brqY rfY acY brfY bacY srY csY ccY cpY cwY okY osY ocY koY ciY kfY cbY goY s geY keY) (fun k s => (∀ g' k', g' ≠ g → k' < 4 → s (4 * g' + k') = rsY (4 * g' + k')) ∧ (∀ k', k' < no → OK k' = 0 → s (4 * g + k') = rsY (4 * g + k')) ∧ ∀ k', k' < k → OK k' ≠ 0 → s (4 * g + k') = rv_v OK OS (ou_v D S OS OC) (ou_w D S OS OC) C G M g k') no rsY ⟨fun _ _ _ _ => rfl, fun _ _ _ => rfl, lt_0⟩ ?_ ?_
  · intro n s hI
    exact br_t (nI_le (Nat.le_refl _) (by omega)) (h s hI.1 hI.2.1 hI.2.2)
  · intro n k s hkn hI hn
    have hv : vp_in (nI k) 4 := vp_in_nI (by omega) (by decide)
    obtain ⟨o1, o2, o3⟩ := ho k hkn
    obtain ⟨k7, ks, kc⟩ := hk.2 k hkn
    have ek : (nI k).toNatClampNeg = k := nI_clamp (by omega)
    refine br_f (nI_ge hkn (by omega)) ⟨hv, ?_⟩
    rw [ek, o1]
    by_cases e0 : OK k = 0
    · exact br_t (by rw [e0]; rfl) (nm_r (nI_1 k) (hn s ⟨hI.1, hI.2.1, lt_s hI.2.2 (fun z => absurd e0 z)⟩))
    · refine br_f (op_ne (b := 0) (by omega) (by decide) e0) ?_
      -- the place gets w
      have put : ∀ w, w = rv_v OK OS (ou_v D S OS OC) (ou_w D S OS OC) C G M g k → wY_fold_2 post (nI g) opY soY coY (nI no) kyY liY diY (nI M) rrY wiY n (nI (k + 1)) ceY oceY bceY maY omaY bmaY unY rqY bunY brqY rfY acY brfY bacY srY csY ccY cpY cwY okY osY ocY koY ciY kfY cbY goY (vp_updL s (4 * g + k) w) geY keY := by
        intro w ew
        refine hn _ ⟨fun g' k' hg' hk' => ?_, fun k' hk' e' => ?_, lt_s (fun k' hk' e' => ?_) (fun _ => ?_)⟩
        · rw [pk_uLn (by omega)]
          exact hI.1 g' k' hg' hk'
        · have : k' ≠ k := fun z => e0 (z ▸ e')
          rw [pk_uLn (by omega)]
          exact hI.2.1 k' hk' e'
        · rw [pk_uLn (by omega)]
          exact hI.2.2 k' hk' e'
        · rw [pk_uLs, ew]
      generalize hact : ac_b OK (ou_v D S OS OC) C G g k = act at put
      have erv : rv_v OK OS (ou_v D S OS OC) (ou_w D S OS OC) C G M g k = fo_v (OK k) (ou_w D S OS OC k) (fo_s act (vx_v OK (ou_v D S OS OC) C k) M) (fo_e act (fun i => ro_w (C i) (OS k)) M) := by
        rw [← hact]
        rfl
      rw [erv] at put
      have hcnt : ∀ i, (fo_s act (vx_v OK (ou_v D S OS OC) C k) i).1 ≤ i := by
        intro i
        induction i with
        | zero => exact Nat.le_refl _
        | succ i ih =>
          by_cases z : act i = true
          · rw [fo_t z]
            exact Nat.succ_le_succ ih
          · rw [fo_n z]
            omega
      have hEN : ∀ i, i ≤ M → ∀ r, fo_e act (fun i => ro_w (C i) (OS k)) i r = true → r < N (S (OS k)) := by
        intro i
        induction i with
        | zero => intro _ r z; exact absurd z Bool.false_ne_true
        | succ i ih =>
          intro hi r z
          by_cases y : act i = true
          · rw [fe_t y] at z
            rcases st_i.mp z with w | w
            · rw [w]
              exact (hcb i (by omega)).2.2 _ ks
            · exact ih (by omega) r w
          · rw [fe_n y] at z
            exact ih (by omega) r z
      refine loop_0 (fun m i (b : Int32) => wY_fold_43 post (wY_fold_2 post (nI g) opY soY coY (nI no) kyY liY diY (nI M) rrY wiY n) (nI g) (nI k) opY soY coY (nI no) kyY liY diY (nI M) rrY wiY ceY oceY bceY maY omaY bmaY unY rqY bunY brqY rfY acY brfY bacY srY csY ccY cpY cwY okY osY ocY koY ciY kfY cbY goY s geY keY m (lN (fo_s act (vx_v OK (ou_v D S OS OC) C k) i).1) (fo_s act (vx_v OK (ou_v D S OS OC) C k) i).2.1 (fo_s act (vx_v OK (ou_v D S OS OC) C k) i).2.2.1 (fo_s act (vx_v OK (ou_v D S OS OC) C k) i).2.2.2 b (nI i)) (fun i b => ∀ r, r < 16 → bt b r = fo_e act (fun i => ro_w (C i) (OS k)) i r) M 0 (fun r _ => bt_z) ?_ ?_
      · intro m b hb
        have hcM := hcnt M
        refine br_t (nI_le (Nat.le_refl _) (by omega)) ⟨hv, ?_⟩
        rw [ek, o1, o2, o3, nz_4, nI_clamp (show 4 * g + k < 2 ^ 31 by omega)]
        have hvx : vp_in (nI (4 * g + k)) 250 := vp_in_nI (by omega) (by decide)
        refine pk_le 3 (OK k) (fun z3 => ⟨hv, ?_⟩) (fun z3 => ⟨hvx, nm_e (nm_r (nI_1 k) (put _ (fv_c (by omega)).symm))⟩)
        by_cases k6 : OK k = 6
        · refine br_t (by rw [k6]; rfl) ⟨hv, hv, ym_diff hC h3 hS hsr ks kc hb (fun r hr z => hEN M (Nat.le_refl _) r z) ⟨hvx, nm_e (nm_r (nI_1 k) (put _ ?_))⟩⟩
          have h16 : dn_n (fun r => D (3 * S (OS k) + OC k) r) (fo_e act (fun i => ro_w (C i) (OS k)) M) ≤ 16 := cn_le _ 16
          rw [k6, fv_6]
          exact nI_l (by omega)
        · refine br_f (op_ne (b := 6) (by omega) (by decide) k6) ?_
          by_cases hz : (fo_s act (vx_v OK (ou_v D S OS OC) C k) M).1 = 0
          · exact br_t ((lN_z (by omega)).mpr hz) ⟨hvx, nm_e (nm_r (nI_1 k) (put _ (fv_0 (by omega) k6 hz).symm))⟩
          · refine br_f (fun w => hz ((lN_z (by omega)).mp w)) ⟨hv, ?_⟩
            have ef := fv_n (W := ou_w D S OS OC k) (E := fo_e act (fun i => ro_w (C i) (OS k)) M) (show ¬ OK k < 3 by omega) k6 hz
            by_cases k3 : OK k = 3
            · rw [if_pos k3] at ef
              exact br_t (by rw [k3]; rfl) ⟨hvx, nm_e (nm_r (nI_1 k) (put _ ef.symm))⟩
            · rw [if_neg k3] at ef
              refine br_f (op_ne (b := 3) (by omega) (by decide) k3) ⟨hv, ?_⟩
              by_cases k4 : OK k = 4
              · rw [if_pos k4] at ef
                exact br_t (by rw [k4]; rfl) ⟨hvx, nm_e (nm_r (nI_1 k) (put _ ef.symm))⟩
              · rw [if_neg k4] at ef
                exact br_f (op_ne (b := 4) (by omega) (by decide) k4) ⟨hvx, nm_e (nm_r (nI_1 k) (put _ ef.symm))⟩
      · intro m i b hi hb hm
        have hci := hcnt i
        obtain ⟨c1, c2, c3⟩ := hcb i hi
        obtain ⟨g1, g2⟩ := hgo i hi
        have hvi : vp_in (nI i) 4096 := vp_in_nI (by omega) (by decide)
        refine br_f (nI_ge hi (by omega)) ⟨hvi, ?_⟩
        rw [nI_clamp (show i < 2 ^ 31 by omega), g1, ek, o1, c1, o2, o3]
        have main : G i = g → wY_fold_103 post (wY_fold_2 post (nI g) opY soY coY (nI no) kyY liY diY (nI M) rrY wiY n) (wY_fold_43 post (wY_fold_2 post (nI g) opY soY coY (nI no) kyY liY diY (nI M) rrY wiY n) (nI g) (nI k) opY soY coY (nI no) kyY liY diY (nI M) rrY wiY ceY oceY bceY maY omaY bmaY unY rqY bunY brqY rfY acY brfY bacY srY csY ccY cpY cwY okY osY ocY koY ciY kfY cbY goY s geY keY m) (nI g) (nI k) (lN (fo_s act (vx_v OK (ou_v D S OS OC) C k) i).1) (fo_s act (vx_v OK (ou_v D S OS OC) C k) i).2.1 (fo_s act (vx_v OK (ou_v D S OS OC) C k) i).2.2.1 (fo_s act (vx_v OK (ou_v D S OS OC) C k) i).2.2.2 b (nI i) (vx_v OK (ou_v D S OS OC) C k i) opY soY coY (nI no) kyY liY diY (nI M) rrY wiY ceY oceY bceY maY omaY bmaY unY rqY bunY brqY rfY acY brfY bacY srY csY ccY cpY cwY okY osY ocY koY ciY kfY cbY goY s geY keY := by
          intro eG
          refine ym_f103 (s := OS k) (by omega) (by omega) (by omega) c2 c1 o2 (fun z => ?_) (fun z => ?_) (by omega)
          · have ha : ¬ act i = true := fun w => by
              rw [← hact] at w
              exact (ac_i.mp w).2 z
            have := hm b (fun r hr => by rw [fe_n ha]; exact hb r hr)
            rw [fo_n ha] at this
            exact this
          · have ha : act i = true := by
              rw [← hact]
              exact ac_i.mpr ⟨eG, z⟩
            have hr16 : ro_w (C i) (OS k) < 16 := by
              have := c3 _ ks
              have := (hC.1 (S (OS k)) (hS _ ks)).2
              omega
            have := hm (b ||| ((1 : Int32) <<< (nI (ro_w (C i) (OS k)) &&& 31))) (fun r hr => by
              rw [fe_t ha, bt_or (by omega) (by omega)]
              by_cases er : r = ro_w (C i) (OS k)
              · subst er
                rw [st_s, st_s]
              · rw [st_o er, st_o er]
                exact hb r hr)
            rw [fo_t ha] at this
            exact this
        refine pk_eq (G i) g (fun eG => ⟨hv, ?_⟩) (fun eG => nm_r (nI_1 i) ?_) rfl rfl g2 (by omega)
        · have main := main eG
          by_cases k1 : OK k = 1
          · rw [show vx_v OK (ou_v D S OS OC) C k i = 0 from if_pos k1] at main
            exact br_t (by rw [k1]; rfl) main
          · rw [show vx_v OK (ou_v D S OS OC) C k i = ou_v D S OS OC (C i) k from if_neg k1] at main
            exact br_f (op_ne (b := 1) (by omega) (by decide) k1) ⟨hvi, hv, hv, ym_in hC h3 hS hsr c2 c3 ks kc main⟩
        · have ha : ¬ act i = true := fun w => by
            rw [← hact] at w
            exact eG (ac_i.mp w).1
          have := hm b (fun r hr => by rw [fe_n ha]; exact hb r hr)
          rw [fo_n ha] at this
          exact this
end
