/-! the reference's flow: again and again along the cheapest way -/
def anc (par : Nat → Nat) : Nat → Nat → Nat
  | 0, n => n
  | j + 1, n => par (anc par j n)
theorem chn_anc {s : Nat} {par : Nat → Nat} {k n : Nat} (h : chn s par k n) : ∀ j, j ≤ k → chn s par (k - j) (anc par j n) := by
  intro j
  induction j with
  | zero => intro _; exact h
  | succ j ih =>
    intro hj
    have h1 := ih (by omega)
    rw [show k - j = (k - (j + 1)) + 1 by omega] at h1
    exact h1.2
theorem anc_inj {s : Nat} {par : Nat → Nat} {k n : Nat} (h : chn s par k n) {i j : Nat} (hi : i ≤ k) (hj : j ≤ k) (e : anc par i n = anc par j n) : i = j := by
  have h1 := chn_anc h i hi
  have h2 := chn_anc h j hj
  rw [e] at h1
  have := chn_un _ _ _ h1 h2
  omega
theorem anc_k {s : Nat} {par : Nat → Nat} {k n : Nat} (h : chn s par k n) : anc par k n = s := by
  have h1 := chn_anc h k (Nat.le_refl k)
  rw [Nat.sub_self] at h1
  exact h1
theorem anc_ne {s : Nat} {par : Nat → Nat} {k n j : Nat} (h : chn s par k n) (hj : j < k) : anc par j n ≠ s := by
  have h1 := chn_anc h j (by omega)
  rw [show k - j = (k - j - 1) + 1 by omega] at h1
  exact h1.1
theorem bal_le {m : Nat} {u v : Nat → Nat} {f cp : Nat → Int} (h : ∀ i, i < m → 0 ≤ f i ∧ f i ≤ cp i) (n : Nat) : bal m u v f n ≤ sm m (fun i => if v i = n then cp i else 0) := by
  apply sm_le
  intro i hi
  have := h i hi
  split <;> split <;> omega
theorem rmU_eq (I : Nat → Nat → Int) (h e : Nat) (x : Int) : (u2 (u2 I h e (I h e - x)) h (mate e) ((u2 I h e (I h e - x)) h (mate e) + x)) h = rmU (I h) e x := by
  funext y
  have hm := mate_ne e
  simp only [u2, rmU, if_true, if_neg hm]
  by_cases a : y = mate e
  · subst a
    simp only [if_true, if_neg hm]
  · simp only [if_neg a]
/-- the state in which the filling goes on -/
def mSt (I0 J : Nat → Nat → Int) (m : Nat) (u v : Nat → Nat) (w cp : Nat → Int) : Prop := Fr [73, 75, 76] [(44, 55)] I0 J ∧ mNet J m u v w ∧ Rs m 340 u v w cp 0 19 (J 73) ∧ J 44 55 = sm m (fun i => w i * fl (J 73) i)
set_option maxRecDepth 4000 in
set_option maxHeartbeats 2000000 in
theorem m_aug {sh : oS} {I0 : Nat → Nat → Int} {L : Nat → Nat → Int64} {Q : oQ} {K : oK} (hK : oCl tb_X12_flow Q K) (hs : Sh sh) {m : Nat} {u v : Nat → Nat} {w cp : Nat → Int} (hw : ∀ i, i < m → -7 ≤ w i ∧ w i ≤ 7) (hcp : ∀ i, i < m → cp i ≤ 1000000000) (hV : sm m (fun i => if v i = 19 then cp i else 0) ≤ 1000) (all : Int)
    (kk : ∀ J, mSt I0 J m u v w cp → ∀ R : Nat → Bool, R 0 = true → R 19 = false → (∀ e, e < 2 * m → 0 < J 73 e → R (eF u v e) = true → R (eT u v e) = true) → K 230 [some (vR 44), none, none, none, some (vI (bal m u v (fl (J 73)) 19)), some (vI all), none, none, none, none] [] (sh, J, L) (0, 0)) :
    ∀ (d : Nat) (J : Nat → Nat → Int), mSt I0 J m u v w cp → 1000 ≤ bal m u v (fl (J 73)) 19 + d → K 49 [some (vR 44), none, none, none, some (vI (bal m u v (fl (J 73)) 19)), some (vI all), none, none, none, none] [] (sh, J, L) (0, 0) := by
  intro d
  induction d with
  | zero =>
    intro J hJ hd
    -- nothing more can flow than comes to the end: one search, that finds nothing, or more than all
    obtain ⟨hF, hn, ⟨hl, hr0, hcap, hbal, pi, hp⟩, hcost⟩ := id hJ
    have hfl : ∀ i, i < m → 0 ≤ fl (J 73) i ∧ fl (J 73) i ≤ cp i := fun i hi => by
      have h1 := hr0 (2 * i) (by omega)
      have h2 := hr0 (2 * i + 1) (by omega)
      have h3 := hcap i hi
      unfold fl
      omega
    have hb := bal_le (u := u) (v := v) hfl 19
    have hrr : ∀ e, e < 2 * m → 0 ≤ J 73 e ∧ J 73 e ≤ 2000000000 := fun e he => by
      have h1 := hr0 e he
      have h2 := hr0 (mate e) (mate_lt he)
      have h3 := hcap (e / 2) (by omega)
      have h4 := hcp (e / 2) (by omega)
      rcases e_cases e with q | q
      · rw [q, mate_ev] at h2; rw [← q] at h3 h2; rw [q]; rw [← q]; omega
      · rw [q, mate_od] at h2; rw [← q] at h3; omega
    have hend : 1000 ≤ bal m u v (fl (J 73)) 19 := by omega
    refine B_X12_flow_49 hK hs (k := ?_)
    refine s_seek hs hn hl hw hrr hp (fun J1 hg hcl r hr => ?_)
    have far0 := hg.2.1.1
    refine B_X12_flow_53 hK (n53 := by rw [hr]; split <;> omega) (kt := fun h53 => ?_) (kf := fun h53 => ?_)
    · have e73 : J1 73 = J 73 := by funext x; exact hg.1 73 x (by decide) (by simp)
      have hst : mSt I0 J1 m u v w cp := by
        refine ⟨hF.tr hg.1 (by decide) (by decide) (by decide) (by decide), hn.fr (hg.1 44 47 (by decide) (by decide)) ?_ ?_ ?_, ?_, ?_⟩
        · funext x; exact hg.1 71 x (by decide) (by simp)
        · funext x; exact hg.1 72 x (by decide) (by simp)
        · funext x; exact hg.1 74 x (by decide) (by simp)
        · rw [e73]; exact ⟨hl, hr0, hcap, hbal, pi, hp⟩
        · rw [hg.1 44 55 (by decide) (by decide), e73]; exact hcost
      have h9 := kk J1 hst (fun n => decide (J1 75 n < 268435456)) (by simp [far0]) (by rw [hr] at h53; simp; split at h53 <;> omega) (fun e he hre hR => by
        rw [e73] at hre
        simp only [decide_eq_true_eq] at hR ⊢
        have h1 := hcl e he hre hR
        have h2 := relI_up (by decide) hg.2.1 (e_lt hl he).1 hR
        have h3 := eC_bd hw he
        omega)
      rw [e73] at h9
      exact h9
    · exfalso
      -- a way is open, but all is full: push one along it would pass the bound; here by the cut at the end
      have hlt : J1 75 19 < 268435456 := by rw [hr] at h53; split at h53 <;> omega
      obtain ⟨came, hpar, hcm⟩ := hg.2.2
      obtain ⟨⟨a1, a2, a3, a4, a5⟩, -⟩ := hpar 19 (by decide) (by decide) hlt
      -- all edges into the end are full, and none leads away with room back
      have hz : ∀ i, i < m → ((if v i = 19 then fl (J 73) i else 0) - (if u i = 19 then fl (J 73) i else 0)) = (if v i = 19 then cp i else 0) := by
        have hle : ∀ i, i < m → 0 ≤ (if v i = 19 then cp i else 0) - ((if v i = 19 then fl (J 73) i else 0) - (if u i = 19 then fl (J 73) i else 0)) := fun i hi => by
          have := hfl i hi
          split <;> split <;> omega
        have h0 : sm m (fun i => (if v i = 19 then cp i else 0) - ((if v i = 19 then fl (J 73) i else 0) - (if u i = 19 then fl (J 73) i else 0))) ≤ 0 := by
          rw [sm_sub]
          have : bal m u v (fl (J 73)) 19 = sm m (fun i => (if v i = 19 then fl (J 73) i else 0) - (if u i = 19 then fl (J 73) i else 0)) := rfl
          omega
        intro i hi
        have := sm_z hle h0 i hi
        omega
      have h3 := hz (came 19 / 2) (by omega)
      have h4 := hfl (came 19 / 2) (by omega)
      have h5 := hcap (came 19 / 2) (by omega)
      rcases e_cases (came 19) with q | q
      · have e1 := e_ev u v w (came 19 / 2)
        rw [← q] at e1
        rw [e1.2.1] at a3
        simp only [if_pos a3] at h3
        unfold fl at h3 h4
        have a2' : 0 < J 73 (2 * (came 19 / 2)) := by rw [← q]; exact a2
        split at h3 <;> omega
      · have e1 := e_od u v w (came 19 / 2)
        rw [← q] at e1
        rw [e1.2.1] at a3
        rw [if_pos a3] at h3
        unfold fl at h3 h4
        rw [← q] at h3 h4
        split at h3 <;> omega
  | succ d ih =>
    intro J hJ hd
    obtain ⟨hF, hn, ⟨hl, hr0, hcap, hbal, pi, hp⟩, hcost⟩ := id hJ
    have hfl : ∀ i, i < m → 0 ≤ fl (J 73) i ∧ fl (J 73) i ≤ cp i := fun i hi => by
      have h1 := hr0 (2 * i) (by omega)
      have h2 := hr0 (2 * i + 1) (by omega)
      have h3 := hcap i hi
      unfold fl
      omega
    have hrr : ∀ e, e < 2 * m → 0 ≤ J 73 e ∧ J 73 e ≤ 2000000000 := fun e he => by
      have h1 := hr0 e he
      have h2 := hr0 (mate e) (mate_lt he)
      have h3 := hcap (e / 2) (by omega)
      have h4 := hcp (e / 2) (by omega)
      rcases e_cases e with q | q
      · rw [q, mate_ev] at h2; rw [← q] at h3 h2; rw [q]; rw [← q]; omega
      · rw [q, mate_od] at h2; rw [← q] at h3; omega
    refine B_X12_flow_49 hK hs (k := ?_)
    refine s_seek hs hn hl hw hrr hp (fun J1 hg hcl r hr => ?_)
    have far0 := hg.2.1.1
    have e73 : J1 73 = J 73 := by funext x; exact hg.1 73 x (by decide) (by simp)
    have hn1 : mNet J1 m u v w := by
      refine hn.fr (hg.1 44 47 (by decide) (by decide)) ?_ ?_ ?_
      · funext x; exact hg.1 71 x (by decide) (by simp)
      · funext x; exact hg.1 72 x (by decide) (by simp)
      · funext x; exact hg.1 74 x (by decide) (by simp)
    have hF1 : Fr [73, 75, 76] [(44, 55)] I0 J1 := hF.tr hg.1 (by decide) (by decide) (by decide) (by decide)
    have c1 : J1 44 55 = sm m (fun i => w i * fl (J 73) i) := by rw [hg.1 44 55 (by decide) (by decide)]; exact hcost
    refine B_X12_flow_53 hK (n53 := by rw [hr]; split <;> omega) (kt := fun h53 => ?_) (kf := fun h53 => ?_)
    · have h9 := kk J1 ⟨hF1, hn1, by rw [e73]; exact ⟨hl, hr0, hcap, hbal, pi, hp⟩, by rw [e73]; exact c1⟩ (fun n => decide (J1 75 n < 268435456)) (by simp [far0]) (by rw [hr] at h53; simp; split at h53 <;> omega) (fun e he hre hR => by
        rw [e73] at hre
        simp only [decide_eq_true_eq] at hR ⊢
        have h1 := hcl e he hre hR
        have h2 := relI_up (by decide) hg.2.1 (e_lt hl he).1 hR
        have h3 := eC_bd hw he
        omega)
      rw [e73] at h9
      exact h9
    have hlt : J1 75 19 < 268435456 := by rw [hr] at h53; split at h53 <;> omega
    obtain ⟨came, hpar, hcm⟩ := hg.2.2
    obtain ⟨-, k0, hk0⟩ := hpar 19 (by decide) (by decide) hlt
    generalize hpr : (fun x => eF u v (came x)) = par at hk0
    -- the way's nodes
    have nd : ∀ j, j ≤ k0 → anc par j 19 < 340 ∧ J1 75 (anc par j 19) < 268435456 := by
      intro j
      induction j with
      | zero => intro _; exact ⟨(show 19 < 340 by decide), hlt⟩
      | succ j ihj =>
        intro hj
        obtain ⟨b1, b2⟩ := ihj (by omega)
        obtain ⟨⟨a1, a2, a3, a4, a5⟩, -⟩ := hpar _ b1 (anc_ne hk0 (by omega)) b2
        have e : anc par (j + 1) 19 = eF u v (came (anc par j 19)) := by rw [← hpr]; rfl
        rw [e]
        exact ⟨(e_lt hl a1).1, a4⟩
    -- the way's edges
    have ed : ∀ j, j < k0 → came (anc par j 19) < 2 * m ∧ 0 < J 73 (came (anc par j 19)) ∧ eT u v (came (anc par j 19)) = anc par j 19 ∧ eF u v (came (anc par j 19)) = anc par (j + 1) 19 ∧ J1 75 (anc par j 19) = J1 75 (anc par (j + 1) 19) + eC w (came (anc par j 19)) ∧ J1 76 (anc par j 19) = (came (anc par j 19) : Int) := by
      intro j hj
      obtain ⟨b1, b2⟩ := nd j (by omega)
      obtain ⟨⟨a1, a2, a3, a4, a5⟩, -⟩ := hpar _ b1 (anc_ne hk0 hj) b2
      have e : eF u v (came (anc par j 19)) = anc par (j + 1) 19 := by rw [← hpr]; rfl
      refine ⟨a1, a2, a3, e, ?_, hcm _ b1 (anc_ne hk0 hj) b2⟩
      have h1 := hcl _ a1 a2 a4
      rw [a3] at h1
      rw [e] at h1 a5
      omega
    obtain ⟨pj, hpj, hpj2⟩ := pot_far hl (by decide) (fun e he => eC_bd hw he) (by decide) hp hg.2.1 hcl
    -- the second walk: what flows is written
    have walk2 : ∀ (x : Int), 0 < x → (∀ j, j < k0 → x ≤ J 73 (came (anc par j 19))) → ∀ (q j : Nat) (J2 : Nat → Nat → Int), j + q = k0 → Fr [73, 75, 76] [(44, 55)] I0 J2 → mNet J2 m u v w → J2 75 = J1 75 → J2 76 = J1 76 → J2 44 55 = J1 44 55 → (∀ i, j ≤ i → i < k0 → J2 73 (came (anc par i 19)) = J 73 (came (anc par i 19))) → (∀ e, e < 2 * m → 0 ≤ J2 73 e) → (∀ i, i < m → J2 73 (2 * i) + J2 73 (2 * i + 1) = cp i) → (∀ n, bal m u v (fl (J2 73)) n = bal m u v (fl (J 73)) n + ((if n = 19 then x else 0) - (if n = anc par j 19 then x else 0))) → sm m (fun i => w i * fl (J2 73) i) = sm m (fun i => w i * fl (J 73) i) + x * (J1 75 19 - J1 75 (anc par j 19)) → pot (2 * m) (eF u v) (eT u v) (J2 73) (eC w) pj → K 126 [some (vR 44), none, none, none, some (vI (bal m u v (fl (J 73)) 19)), some (vI all), some (vI x), some (vI (anc par j 19 : Int)), none, none] [] (sh, J2, L) (0, 0) := by
      intro x hx0 hxr q
      induction q with
      | zero =>
        intro j J2 hj f1 f2 f3 f4 f5 f6 f7 f8 f9 f10 f11
        have hz : anc par j 19 = 0 := by rw [show j = k0 by omega]; exact anc_k hk0
        refine B_X12_flow_126 hK (n128 := by omega) (kt := fun _ => ?_) (kf := fun h => absurd (by omega) h)
        refine B_X12_flow_201 hK hs (k := ?_)
        rw [hz] at f9 f10
        have e19 : bal m u v (fl (J2 73)) 19 = bal m u v (fl (J 73)) 19 + x := by rw [f9 19]; simp
        have e73b : (u2 J2 44 55 (J2 44 55 + x * J2 75 19)) 73 = J2 73 := u2_h (by decide)
        have h9 := ih (u2 J2 44 55 (J2 44 55 + x * J2 75 19)) ⟨?_, ?_, ?_, ?_⟩ (by rw [e73b, e19]; omega)
        · rw [e73b, e19] at h9
          exact h9
        · exact f1.u 44 55 _ (Or.inr (by decide))
        · exact f2.fr (by simp [u2]) (u2_h (by decide)) (u2_h (by decide)) (u2_h (by decide))
        · rw [e73b]
          refine ⟨hl, f7, f8, fun n hn h0 h19 => ?_, pj, f11⟩
          rw [f9 n, if_neg h19, if_neg h0, hbal n hn h0 h19]; rfl
        · rw [e73b, f10, u2_at, f5, c1, f3, far0]
          simp
      | succ q ihq =>
        intro j J2 hj f1 f2 f3 f4 f5 f6 f7 f8 f9 f10 f11
        have hjk : j < k0 := by omega
        obtain ⟨d1, d2, d3, d4, d5, d6⟩ := ed j hjk
        obtain ⟨b1, b2⟩ := nd j (by omega)
        have b0 := anc_ne hk0 hjk
        obtain ⟨n1, n2, n3⟩ := f2
        generalize he : came (anc par j 19) = e at d1 d2 d3 d4 d5 d6
        obtain ⟨g1, g2, g3⟩ := n3 e d1
        have t76 : J2 76 ((anc par j 19 : Int).toNat) = (e : Int) := by rw [Int.toNat_natCast, f4]; exact d6
        refine B_X12_flow_126 hK (n128 := by omega) (kt := fun h => absurd h (by omega)) (kf := fun _ => ?_)
        have cont : ∀ s0 : Int, s0 = (mate e : Int) → K 158 [some (vR 44), none, none, none, some (vI (bal m u v (fl (J 73)) 19)), some (vI all), some (vI x), some (vI (anc par j 19 : Int)), some (vI (e : Int)), none] [vI s0] (sh, J2, L) (0, 0) := by
          intro s0 hs0
          have hm := mate_lt d1
          refine B_X12_flow_158 hK hs (b167 := by omega) (b179 := by omega) (b194 := by omega) (b195 := by rw [t76]; omega) (k := ?_)
          rw [t76, hs0]
          simp only [Int.toNat_natCast]
          rw [g1, d4]
          have erm : (u2 (u2 J2 73 e (J2 73 e - x)) 73 (mate e) ((u2 J2 73 e (J2 73 e - x)) 73 (mate e) + x)) 73 = rmU (J2 73) e x := rmU_eq J2 73 e x
          generalize hJ3 : (u2 (u2 J2 73 e (J2 73 e - x)) 73 (mate e) ((u2 J2 73 e (J2 73 e - x)) 73 (mate e) + x)) = J3 at erm ⊢
          have oth : ∀ h, h ≠ 73 → J3 h = J2 h := fun h hh => by rw [← hJ3, u2_h hh, u2_h hh]
          have hre : J2 73 e = J 73 e := by have := f6 j (Nat.le_refl j) hjk; rw [he] at this; exact this
          have hxe : x ≤ J2 73 e := by rw [hre]; have := hxr j hjk; rw [he] at this; exact this
          refine ihq (j + 1) J3 (by omega) ?_ ?_ ?_ ?_ ?_ ?_ ?_ ?_ ?_ ?_ ?_
          · rw [← hJ3]
            exact (f1.u 73 _ _ (Or.inl (by decide))).u 73 _ _ (Or.inl (by decide))
          · refine mNet.fr ⟨n1, n2, n3⟩ (by rw [oth 44 (by decide)]) (oth 71 (by decide)) (oth 72 (by decide)) (oth 74 (by decide))
          · rw [oth 75 (by decide)]; exact f3
          · rw [oth 76 (by decide)]; exact f4
          · rw [oth 44 (by decide)]; exact f5
          · intro i hi hik
            obtain ⟨i1, i2, i3, i4, -, -⟩ := ed i hik
            have hne : came (anc par i 19) ≠ e := by
              intro z
              have : anc par i 19 = anc par j 19 := by rw [← i3, z, d3]
              have := anc_inj hk0 (by omega) (by omega) this
              omega
            have hnm : came (anc par i 19) ≠ mate e := by
              intro z
              have h1 : anc par i 19 = anc par (j + 1) 19 := by rw [← i3, z, eT_mate, d4]
              have h2 : anc par (i + 1) 19 = anc par j 19 := by rw [← i4, z, eF_mate, d3]
              have := anc_inj hk0 (by omega) (by omega) h1
              have := anc_inj hk0 (by omega) (by omega) h2
              omega
            rw [erm]
            simp only [rmU, if_neg hne, if_neg hnm]
            exact f6 i (by omega) hik
          · intro e' he'
            rw [erm]
            have h1 := f7 e' he'
            have h2 := f7 (mate e) hm
            unfold rmU
            split
            · omega
            · split <;> omega
          · intro i hi
            rw [erm, cap_rmU]
            exact f8 i hi
          · intro n
            rw [erm, bal_rmU d1, f9 n, d3, d4]
            omega
          · rw [erm, cost_rmU d1, f10]
            have h5 : J1 75 (anc par j 19) = J1 75 (anc par (j + 1) 19) + eC w e := d5
            rw [h5, Int.add_assoc, ← Int.mul_add]
            congr 2
            omega
          · intro e' he' hr'
            rw [erm] at hr'
            by_cases z : e' = mate e
            · subst z
              rw [eT_mate, eF_mate, eC_mate, d3, d4]
              have k1 := hpj2 _ (nd j (by omega)).1 (nd j (by omega)).2
              have k2 := hpj2 _ (nd (j + 1) (by omega)).1 (nd (j + 1) (by omega)).2
              omega
            · refine f11 e' he' ?_
              by_cases z2 : e' = e
              · subst z2
                simp only [rmU, if_true] at hr'
                omega
              · simp only [rmU, if_neg z, if_neg z2] at hr'
                exact hr'
        refine B_X12_flow_131 hK hs (b137 := by omega) (n143a := by rw [t76]; omega) (n144 := by
            rw [t76]
            have h1 := Int.tmod_lt_of_pos (e : Int) (show (0 : Int) < 2 by decide)
            have h2 := Int.tmod_nonneg (a := (e : Int)) 2 (by omega)
            omega) (kt := fun h131 => ?_) (kf := fun h131 => ?_)
        · rw [t76] at h131
          rw [t76]
          have ho : e % 2 = 1 := by
            rw [Int.tmod_eq_emod_of_nonneg (by omega)] at h131
            omega
          refine B_X12_flow_154 hK (k := ?_)
          exact cont _ (by unfold mate; rw [if_neg (by omega)]; omega)
        · rw [t76] at h131
          rw [t76]
          have ho : e % 2 = 0 := by
            rw [Int.tmod_eq_emod_of_nonneg (by omega)] at h131
            omega
          refine B_X12_flow_147 hK (k := ?_)
          exact cont _ (by unfold mate; rw [if_pos ho]; omega)
    -- the first walk: the least room
    have walk1 : ∀ (q j : Nat) (x : Int), j + q = k0 → 0 < x → x ≤ 268435456 → (∀ i, i < j → x ≤ J 73 (came (anc par i 19))) → K 65 [some (vR 44), none, none, none, some (vI (bal m u v (fl (J 73)) 19)), some (vI all), some (vI x), some (vI (anc par j 19 : Int)), none, none] [] (sh, J1, L) (0, 0) := by
      intro q
      induction q with
      | zero =>
        intro j x hj hx hx2 hm
        have hz : anc par j 19 = 0 := by rw [show j = k0 by omega]; exact anc_k hk0
        refine B_X12_flow_65 hK (n67 := by omega) (kt := fun _ => ?_) (kf := fun h => absurd (by omega) h)
        refine B_X12_flow_122 hK (k := ?_)
        refine walk2 x hx (fun i hi => hm i (by omega)) k0 0 J1 (by omega) hF1 hn1 rfl rfl rfl (fun i _ _ => by rw [e73]) (by rw [e73]; exact hr0) (by rw [e73]; exact hcap) (fun n => ?_) ?_ (by rw [e73]; exact hpj)
        · rw [e73]
          show _ = _ + ((if n = 19 then x else 0) - (if n = 19 then x else 0))
          omega
        · rw [e73]
          show _ = _ + x * (J1 75 19 - J1 75 19)
          rw [Int.sub_self, Int.mul_zero, Int.add_zero]
      | succ q ihq =>
        intro j x hj hx hx2 hm
        have hjk : j < k0 := by omega
        obtain ⟨d1, d2, d3, d4, d5, d6⟩ := ed j hjk
        obtain ⟨b1, b2⟩ := nd j (by omega)
        have b0 := anc_ne hk0 hjk
        obtain ⟨n1, n2, n3⟩ := hn1
        generalize he : came (anc par j 19) = e at d1 d2 d3 d4 d5 d6
        obtain ⟨g1, g2, g3⟩ := n3 e d1
        have t76 : J1 76 ((anc par j 19 : Int).toNat) = (e : Int) := by rw [Int.toNat_natCast]; exact d6
        have t73 : J1 73 ((e : Int).toNat) = J 73 e := by rw [Int.toNat_natCast, e73]
        have hre := hrr e d1
        have cont : ∀ s0 : Int, 0 < s0 → s0 ≤ x → s0 ≤ J 73 e → K 103 [some (vR 44), none, none, none, some (vI (bal m u v (fl (J 73)) 19)), some (vI all), none, some (vI (anc par j 19 : Int)), none, none] [vI s0] (sh, J1, L) (0, 0) := by
          intro s0 h1 h2 h3
          refine B_X12_flow_103 hK hs (b115 := by omega) (b116 := by rw [t76]; omega) (k := ?_)
          rw [t76]
          simp only [Int.toNat_natCast]
          rw [g1, d4]
          refine ihq (j + 1) s0 (by omega) h1 (by omega) (fun i hi => ?_)
          rcases Nat.lt_or_ge i j with z | z
          · have := hm i z; omega
          · have : i = j := by omega
            subst this
            rw [he]; exact h3
        refine B_X12_flow_65 hK (n67 := by omega) (kt := fun h => absurd h (by omega)) (kf := fun _ => ?_)
        refine B_X12_flow_70 hK hs (b76 := by omega) (b85 := by rw [t76]; omega) (n88a := by rw [t76, t73]; omega) (n88b := by omega) (kt := fun h70 => ?_) (kf := fun h70 => ?_)
        · rw [t76, t73] at h70
          refine B_X12_flow_101 hK (k := ?_)
          exact cont x hx (Int.le_refl x) h70
        · rw [t76, t73] at h70
          rw [t76]
          refine B_X12_flow_91 hK hs (b97 := by omega) (k := ?_)
          rw [t73]
          exact cont (J 73 e) d2 (by omega) (Int.le_refl _)
    refine B_X12_flow_56 hK (k := ?_)
    exact walk1 k0 0 268435456 (by omega) (by decide) (Int.le_refl _) (fun i hi => absurd hi (by omega))
