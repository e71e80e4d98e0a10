theorem thr_v : ∀ i, i < 6 → thr (nI i) = some (nI (3 ^ i)) := by decide +kernel
theorem cv_n1 {x : Nat} : cv x = -1 ↔ ¬ x < 1000000 := by
  unfold cv
  by_cases h : x < 1000000
  · rw [if_pos h]
    exact ⟨fun e => absurd e (nI_m1 (by omega)), fun e => absurd h e⟩
  · rw [if_neg h]
    exact ⟨fun _ => h, fun _ => rfl⟩
theorem cv_lt {x : Nat} (h : x < 1000000) : cv x = nI x := if_pos h
theorem cv_n2 (x : Nat) : ¬ cv x = -2 := by
  unfold cv
  by_cases h : x < 1000000
  · rw [if_pos h]
    intro e
    have := nI_toInt (n := x) (by omega)
    rw [e, show (-2 : Int32).toInt = -2 from rfl] at this
    omega
  · rw [if_neg h]; decide
theorem mxn_v {A B : Nat} (hA : A < 1000000) (hB : B < 1000000) : (if nI A < nI B then nI B else nI A) = nI (mxn A B) := by
  unfold mxn
  by_cases h : A < B
  · rw [if_pos (nI_lt h (by omega)), if_pos (by omega)]
  · rw [if_neg (nI_nlt (by omega) (by omega))]
    by_cases e : A ≤ B
    · rw [if_pos e, show A = B by omega]
    · rw [if_neg e]
def bts (N : Nat) (r : Nat → Int32) : Prop := N < 64 ∧ ∀ i, i < 6 → N.testBit i = decide (r i ≠ 0)
def lF (dp : Nat) (σ σ' : hM) : Prop := σ'.2.2 = σ.2.2 ∧ (∀ a, a ≠ 93 → σ'.1 a = σ.1 a) ∧ ∀ j, j ≤ dp → σ'.2.1 (86 + j) = σ.2.1 (86 + j)
theorem lF.rfl {dp : Nat} {σ : hM} : lF dp σ σ := ⟨Eq.refl _, fun _ _ => Eq.refl _, fun _ _ => Eq.refl _⟩
theorem lF.trans {dp : Nat} {σ σ' σ'' : hM} (h : lF dp σ σ') (g : lF dp σ' σ'') : lF dp σ σ'' := ⟨g.1.trans h.1, fun a ha => (g.2.1 a ha).trans (h.2.1 a ha), fun j hj => (g.2.2 j hj).trans (h.2.2 j hj)⟩
section SEARCH2
variable {wt : Nat → Int64} {tk r0 : Nat → Int32} {t R : Nat} {q : Int32}
theorem ff (ht6 : t ≤ 6) (hm : ∀ i, i < t → ∃ m, m ≤ 30 ∧ tk (4 * i) = nI m) (hP : ∀ i, i < t → ∃ P, P < 16 ∧ tk (4 * i + 3) = nI P) : ∀ (n D dp c N : Nat) (σ : hM), D < n → dp + D ≤ 6 → uN (rcc r0 c) t = D → lG σ R t tk q → vld r0 t c → bts N (rcc r0 c) → (∀ k, k < 16 → σ.2.1 (86 + dp) k = odr wt tk (rcc r0 c) t k) → mem wt tk r0 t q σ → ∃ σ', fX2_fewestFrom kT1 n 84 (nI c) (nI N) (nI dp) σ = some (cv (lf wt tk t q D (rcc r0 c)), σ') ∧ mem wt tk r0 t q σ' ∧ lF dp σ σ' := by
  have hmc : ∀ i, i < t → (tk (4 * i)).toNatClampNeg ≤ 30 ∧ tk (4 * i) = nI (tk (4 * i)).toNatClampNeg := by
    intro i hi
    obtain ⟨m, h1, h2⟩ := hm i hi
    rw [h2, nI_clamp (by omega)]
    exact ⟨h1, rfl⟩
  intro n
  induction n with
  | zero => intro D dp c N σ hD; exact absurd hD (Nat.not_lt_zero D)
  | succ n ih =>
    intro D dp c N σ0 hDn hdp hD hG0 hv hb hrow0 hM0
    obtain ⟨hN, hbit⟩ := hb
    have hc := hv.1
    -- one result more
    have after : ∀ (i : Nat) (p5 : Int32) (σ : hM), i < t → rcc r0 c i = 0 → (p5 = 0 ∨ p5 = 1) → lG σ R t tk q → (∀ k, k < 16 → σ.2.1 (86 + dp) k = odr wt tk (rcc r0 c) t k) → mem wt tk r0 t q σ → ∃ σ', fX2_fewestAfter kT1 (fX2_fewestFrom kT1 n) 84 (nI c) (nI N) (nI dp) (nI i) p5 σ = some (cv (lf wt tk t q (D - 1) (sx (rcc r0 c) i (if p5 = 0 then 2 else 1))), σ') ∧ mem wt tk r0 t q σ' ∧ lF dp σ σ' := by
      intro i p5 σ hi hri hp hG hrow hme
      obtain ⟨⟨o0, o1, o2, o85⟩, hk, h3, hR⟩ := id hG
      have hrho : ¬ (if p5 = 0 then (2 : Int32) else 1) = 0 := by rcases hp with rfl | rfl <;> decide
      have hu := uN_sx (r := rcc r0 c) (v := if p5 = 0 then (2 : Int32) else 1) hri hrho t
      rw [if_pos hi, hD] at hu
      obtain ⟨v, hv12, hve⟩ : ∃ v : Nat, (v = 1 ∨ v = 2) ∧ (if p5 = 0 then (2 : Int32) else 1) = nI v := by
        rcases hp with rfl | rfl
        · exact ⟨2, Or.inr rfl, rfl⟩
        · exact ⟨1, Or.inl rfl, rfl⟩
      obtain ⟨hv', hr'⟩ := rcc_add hv (by omega) hi hri hv12
      rw [← hve] at hr'
      have hc' := hv'.1
      have ex3 : nI c + (if p5 = 0 then (2 : Int32) else 1) * nI (3 ^ i) = nI (c + v * 3 ^ i) := by rw [hve, pk_mul, nI_add]
      have hw : (0 : Int32) ≤ nI (c + v * 3 ^ i) ∧ nI (c + v * 3 ^ i) ≤ Int32.ofNat 729 - 1 := ⟨nI_pos' (by omega), by rw [show Int32.ofNat 729 - 1 = nI 728 by decide]; exact nI_le (by omega) (by decide)⟩
      have al93 : aln kT1 93 = some (Int32.ofNat 729) := by
        unfold aln
        rw [show kT1.1 93 = 11 from rfl, if_pos (by decide), show kT1.2 93 = 729 from rfl]
      have tail : ∀ (u : hM), u.2.2 = σ.2.2 → ((gtr kT1 u 84 2 1).bind fun a10 => (ald 11 kT1 u a10 (nI (c + v * 3 ^ i))).bind fun x11 => some (x11, u)) = some (u.1 93 (c + v * 3 ^ i), u) := by
        intro u hu2
        rw [gR1 84 2, hu2, o1, ob, lA1 93 729 (k := c + v * 3 ^ i) (by omega), ob]
      unfold fX2_fewestAfter
      simp only [iflt]
      rw [thr_v i (by omega), ob, ex3, if_neg (show ¬ (6 : Int32) ≤ nI dp from nI_ge (b := 6) (by omega) (by decide)), gR1 84 2, o1, ob, al93, ob, isW, ob, ifz1 hw, gR1 84 2, o1, ob, lA1 93 729 (k := c + v * 3 ^ i) (by omega), ob]
      rcases hme (c + v * 3 ^ i) hv' with e | e
      · obtain ⟨σ1, f1, f2, f3, f4, f5⟩ := ev_fillOdds (wt := wt) (r := rcc r0 c) (p5 := p5) hG (by omega) hi hri hp (hP i hi) hrow
        have hG1 := hG.fr f2 (fun a _ => by rw [f3])
        have b' : bts (N ||| 2 ^ i) (rcc r0 (c + v * 3 ^ i)) := by
          refine ⟨Nat.or_lt_two_pow (n := 6) hN (Nat.pow_lt_pow_right (by decide) (by omega)), fun j hj => ?_⟩
          rw [bitset, hbit j hj, hr']
          unfold sx
          by_cases z : j = i
          · subst z; simp [hrho]
          · simp [z]
        obtain ⟨σ2, g1, g2, g3⟩ := ih (D - 1) (dp + 1) (c + v * 3 ^ i) (N ||| 2 ^ i) σ1 (by omega) (by omega) (by rw [hr']; omega) hG1 hv' b' (fun k hk16 => by rw [f5 k hk16, hr']) (fun c2 h2 => by rw [f3]; exact hme c2 h2)
        rw [if_pos e, nI_1, vC1 84 2, f1, ob, gR1 84 2, f2, o1, ob, shl31 i (by omega), or_nI, vC1 84 2, g1, ob, sA1 93 729 (k := c + v * 3 ^ i) (by omega), ob, gR1 84 2, wrr, g3.1, f2, o1, ob, lA1 93 729 (k := c + v * 3 ^ i) (by omega), ob, wIe, hr']
        refine ⟨_, rfl, fun c2 h2 => ?_, ⟨g3.1.trans f2, fun a ha => by rw [wIn ha, g3.2.1 a ha, f3], fun j hj => ?_⟩⟩
        · rw [wIs]
          by_cases z : c2 = c + v * 3 ^ i
          · rw [if_pos z, z]
            right
            rw [hr', show uN (sx (rcc r0 c) i (if p5 = 0 then 2 else 1)) t = D - 1 by omega]
          · rw [if_neg z]
            exact g2 c2 h2
        · show σ2.2.1 (86 + j) = _
          rw [g3.2.2 j (by omega), f4 _ (by omega)]
      · rw [e, if_neg (cv_n2 _), ob, lA1 93 729 (k := c + v * 3 ^ i) (by omega), ob, e, hr', show uN (sx (rcc r0 c) i (if p5 = 0 then 2 else 1)) t = D - 1 by omega]
        exact ⟨σ, rfl, hme, lF.rfl⟩
    -- the tasks in their order
    have loop : ∀ (d k fuel : Nat) (σ : hM), k + d = t → d < fuel → lG σ R t tk q → (∀ k, k < 16 → σ.2.1 (86 + dp) k = odr wt tk (rcc r0 c) t k) → mem wt tk r0 t q σ → ∃ σ', fX2_fewestFrom_L40 kT1 (fX2_fewestFrom kT1 n) 84 (nI c) (nI N) (nI dp) (fun x19 u20 => some (x19, u20)) fuel (cv (bsf (gD wt tk t q D (rcc r0 c)) (rcc r0 c) k)) (nI k) σ = some (cv (bsf (gD wt tk t q D (rcc r0 c)) (rcc r0 c) t), σ') ∧ mem wt tk r0 t q σ' ∧ lF dp σ σ' := by
      intro d
      induction d with
      | zero =>
        intro k fuel σ hk hf hG hrow hme
        obtain ⟨f, rfl⟩ : ∃ f, fuel = f + 1 := ⟨fuel - 1, by omega⟩
        obtain ⟨⟨o0, o1, o2, o85⟩, ⟨kR, -, -, -, -, -, et, -, -⟩, h3, hR⟩ := id hG
        have e : k = t := by omega
        subst e
        rw [fX2_fewestFrom_L40, gR1 84 2, o2, ob, gI kR, ob, et, if_pos (nI_le (Nat.le_refl k) (by omega))]
        exact ⟨σ, rfl, hme, lF.rfl⟩
      | succ d ihd =>
        intro k fuel σ hk hf hG hrow hme
        obtain ⟨f, rfl⟩ : ∃ f, fuel = f + 1 := ⟨fuel - 1, by omega⟩
        obtain ⟨⟨o0, o1, o2, o85⟩, ⟨kR, ⟨k1, l1⟩, -, -, -, ⟨e0, -⟩, et, -, hkk⟩, h3, hR⟩ := id hG
        have nx : ∀ (x : Int32) (σ' : hM), x = cv (bsf (gD wt tk t q D (rcc r0 c)) (rcc r0 c) (k + 1)) → mem wt tk r0 t q σ' → lF dp σ σ' → ∃ σ'', fX2_fewestFrom_L40 kT1 (fX2_fewestFrom kT1 n) 84 (nI c) (nI N) (nI dp) (fun x19 u20 => some (x19, u20)) f x (nI (k + 1)) σ' = some (cv (bsf (gD wt tk t q D (rcc r0 c)) (rcc r0 c) t), σ'') ∧ mem wt tk r0 t q σ'' ∧ lF dp σ σ'' := by
          intro x σ' hx hM' hF
          obtain ⟨σ'', g1, g2, g3⟩ := ihd (k + 1) f σ' (by omega) (by omega) (hG.fr hF.1 hF.2.1) (fun k hk16 => by rw [hF.2.2 dp (Nat.le_refl _)]; exact hrow k hk16) hM'
          rw [hx]
          exact ⟨σ'', g1, g2, hF.trans g3⟩
        rw [fX2_fewestFrom_L40, gR1 84 2, o2, ob, gI kR, ob, et, if_neg (nI_ge (by omega) (by omega))]
        simp only [iflt, nI_1]
        rw [bit_if hN (by omega)]
        have bk := hbit k (by omega)
        by_cases hr : rcc r0 c k = 0
        · rw [if_neg (by rw [bk]; simp [hr])]
          obtain ⟨σa, a1, a2, a3⟩ := after k 1 σ (by omega) hr (Or.inr rfl) hG hrow hme
          rw [if_neg (show ¬ (1 : Int32) = 0 by decide)] at a1
          have hGa := hG.fr a3.1 a3.2.1
          have hrowa : ∀ k, k < 16 → σa.2.1 (86 + dp) k = odr wt tk (rcc r0 c) t k := fun k hk16 => by rw [a3.2.2 dp (Nat.le_refl _)]; exact hrow k hk16
          have lb1 := lf_bd (wt := wt) (q := q) (fun i hi => (hmc i hi).1) (D - 1) (sx (rcc r0 c) k 1)
          have lb2 := lf_bd (wt := wt) (q := q) (fun i hi => (hmc i hi).1) (D - 1) (sx (rcc r0 c) k 2)
          have hble := bsf_le (g := gD wt tk t q D (rcc r0 c)) (r := rcc r0 c) k
          have hgD : gD wt tk t q D (rcc r0 c) k = (tk (4 * k)).toNatClampNeg + mxn (lf wt tk t q (D - 1) (sx (rcc r0 c) k 1)) (lf wt tk t q (D - 1) (sx (rcc r0 c) k 2)) := rfl
          have hbs : bsf (gD wt tk t q D (rcc r0 c)) (rcc r0 c) (k + 1) = if bsf (gD wt tk t q D (rcc r0 c)) (rcc r0 c) k ≤ gD wt tk t q D (rcc r0 c) k then bsf (gD wt tk t q D (rcc r0 c)) (rcc r0 c) k else gD wt tk t q D (rcc r0 c) k := by
            show (if rcc r0 c k = 0 then _ else _) = _
            rw [if_pos hr]
          have hmk := hmc k (by omega)
          rw [vC1 84 2, a1, ob]
          by_cases c1 : lf wt tk t q (D - 1) (sx (rcc r0 c) k 1) < 1000000
          · rw [if_neg (show ¬ (cv (lf wt tk t q (D - 1) (sx (rcc r0 c) k 1)), σa).1 = -1 from fun z => (cv_n1.mp z) c1)]
            obtain ⟨σb, b1, b2, b3⟩ := after k 0 σa (by omega) hr (Or.inl rfl) hGa hrowa a2
            rw [if_pos rfl] at b1
            rw [vC1 84 2, b1, ob]
            by_cases c2 : lf wt tk t q (D - 1) (sx (rcc r0 c) k 2) < 1000000
            · rw [if_neg (show ¬ (cv (lf wt tk t q (D - 1) (sx (rcc r0 c) k 2)), σb).1 = -1 from fun z => (cv_n1.mp z) c2)]
              have b84 : σb.2.2 84 2 = some R := by rw [b3.1, a3.1]; exact o2
              have bR0 : σb.2.2 R 0 = some (R + 1) := by rw [b3.1, a3.1]; exact e0
              have bR1 : σb.1 (R + 1) k = tk (4 * k) := by rw [b3.2.1 _ (by omega), a3.2.1 _ (by omega)]; exact (hkk k (by omega)).1
              have hmx : mxn (lf wt tk t q (D - 1) (sx (rcc r0 c) k 1)) (lf wt tk t q (D - 1) (sx (rcc r0 c) k 2)) ≤ 30 * (D - 1) := by
                have := lb1.2 c1
                have := lb2.2 c2
                unfold mxn
                split <;> omega
              have hgl : gD wt tk t q D (rcc r0 c) k < 1000000 := by rw [hgD]; omega
              have ex : tk (4 * k) + (if cv (lf wt tk t q (D - 1) (sx (rcc r0 c) k 1)) < cv (lf wt tk t q (D - 1) (sx (rcc r0 c) k 2)) then cv (lf wt tk t q (D - 1) (sx (rcc r0 c) k 2)) else cv (lf wt tk t q (D - 1) (sx (rcc r0 c) k 1))) = nI (gD wt tk t q D (rcc r0 c) k) := by
                rw [cv_lt c1, cv_lt c2, mxn_v c1 c2, hmk.2, nI_add, ← hgD]
              rw [gR1 84 2, b84, ob, gR kR, bR0, ob, lA 6 k1 l1 (by omega) (by decide), ob, bR1]
              dsimp only
              rw [ex]
              by_cases cb : bsf (gD wt tk t q D (rcc r0 c)) (rcc r0 c) k < 1000000
              · rw [if_neg (fun z => (cv_n1.mp z) cb), cv_lt cb]
                by_cases le : bsf (gD wt tk t q D (rcc r0 c)) (rcc r0 c) k ≤ gD wt tk t q D (rcc r0 c) k
                · rw [if_pos (nI_le le (by omega))]
                  exact nx _ σb (by rw [hbs, if_pos le, cv_lt cb]) b2 (a3.trans b3)
                · rw [if_neg (nI_ge (by omega) (by omega))]
                  exact nx _ σb (by rw [hbs, if_neg le, cv_lt hgl]) b2 (a3.trans b3)
              · rw [if_pos (cv_n1.mpr cb)]
                exact nx _ σb (by rw [hbs, if_neg (by omega), cv_lt hgl]) b2 (a3.trans b3)
            · rw [if_pos (show (cv (lf wt tk t q (D - 1) (sx (rcc r0 c) k 2)), σb).1 = -1 from cv_n1.mpr c2)]
              have hg2 : 1000000 ≤ gD wt tk t q D (rcc r0 c) k := by
                rw [hgD]
                unfold mxn
                split <;> omega
              exact nx _ σb (by rw [hbs, if_pos (by omega)]) b2 (a3.trans b3)
          · rw [if_pos (show (cv (lf wt tk t q (D - 1) (sx (rcc r0 c) k 1)), σa).1 = -1 from cv_n1.mpr c1)]
            have hg1 : 1000000 ≤ gD wt tk t q D (rcc r0 c) k := by
              rw [hgD]
              unfold mxn
              split <;> omega
            exact nx _ σa (by rw [hbs, if_pos (by omega)]) a2 a3
        · rw [if_pos (by rw [bk]; simp [hr])]
          exact nx _ σ (by
            show _ = cv (if rcc r0 c k = 0 then _ else _)
            rw [if_neg hr]) hme lF.rfl
    obtain ⟨⟨o0, o1, o2, o85⟩, ⟨kR, -⟩, h3, hR⟩ := id hG0
    obtain ⟨a1, a2⟩ := kLg dp (by omega)
    have la : aldr 17 kT1 σ0 85 (nI dp) = some (86 + dp) := (lR 7 (show kT1.1 85 = 17 from rfl) (show kT1.2 85 = 7 from rfl) (by omega) (by decide)).trans (o85 dp (by omega))
    have hw : (0 : Int32) ≤ nI dp ∧ nI dp ≤ 6 := ⟨nI_pos' (by omega), nI_le (b := 6) (by omega) (by decide)⟩
    have nq : gtq kT1 σ0 84 2 2 = some (some R) := (gQ (show kT1.1 84 = 3 from rfl)).trans (by rw [o2])
    rw [fX2_fewestFrom]
    unfold fX2_fewestFromB
    rw [isW, ob, ifz1 hw, nq, ob, if_neg (by simp), gR1 84 2, o0, ob, la, ob, vC1 84 2, ev_isKnown a1 a2 h3, ob, lf_eq hD, sm_cong 16 hrow0, gr_cong 16 hrow0]
    by_cases u : gr (odr wt tk (rcc r0 c) t) 16 * 100 < q.toInt64 * sm (odr wt tk (rcc r0 c) t) 16
    · rw [if_pos u, if_pos u]
      obtain ⟨σ', g1, g2, g3⟩ := loop t 0 6000 σ0 (by omega) (by omega) hG0 hrow0 hM0
      rw [nI_0, show cv (bsf (gD wt tk t q D (rcc r0 c)) (rcc r0 c) 0) = -1 from rfl] at g1
      rw [if_pos (show ((0 : Int32), σ0).1 = 0 from rfl)]
      exact ⟨σ', g1, g2, g3⟩
    · rw [if_neg u, if_neg u, if_neg (show ¬ ((1 : Int32), σ0).1 = 0 from (by decide : ¬ (1 : Int32) = 0))]
      exact ⟨σ0, rfl, hM0, lF.rfl⟩
end SEARCH2
