section
variable {N : Nat} {M M1 M2 : kMem} {tm a b : Nat} {e L R P : Nat → Nat} {S : Nat → Prop} {rt : Nat} {lo hi : Nat → Nat}
theorem mrotl (h : MT M tm e S L R P rt) (hp : PT S L R P rt lo hi) (ha : S a) (hb : R a = b) (h13 : b ≠ 13) : ∃ M', F_TM_rotateLeft N M tm (e a) = some M' ∧ MT M' tm e S (rlL L a b (P a)) (rlR L R a b (L b) (P a)) (rlP P a b (L b) (P a)) (if P a = 13 then b else rt) ∧ FT tm e S M M' ∧ M'.2.1 = M.2.1 := by
  have a1 := hp.1 a ha
  obtain ⟨sb, pb, lb, ub⟩ := (hp.2.2.1 a ha).resolve_left (by omega)
  rw [hb] at sb pb lb ub
  have b1 := hp.1 b sb
  have nab : b ≠ a := by omega
  have hba : (e b = e a) = False := by rw [h.inj sb ha]; exact eq_false nab
  have hab : (e a = e b) = False := by rw [h.inj ha sb]; exact eq_false nab.symm
  have na : (e a = 0) = False := eq_false (h.nz ha)
  have ka := h.k ha
  have kb := h.k sb
  have t0 : kt M tm 34 = true := h.2.2.2.1
  have ta : (tm = e a) = False := eq_false (h.tn ha).symm
  have tb : (tm = e b) = False := eq_false (h.tn sb).symm
  have e13 := h.1
  have hr0 := h.2.2.2.2
  have a4 := hp.2.2.2.1 a ha
  have rt5 := hp.2.2.2.2
  have cc : L b = 13 ∨ S (L b) ∧ P (L b) = b ∧ L b ≠ a ∧ L b ≠ b ∧ L b ≠ P a := by
    rcases hp.2.1 b sb with z | ⟨z1, z2, z3, z4⟩
    · exact Or.inl z
    · have c1 := hp.1 _ z1
      have a2 := hp.2.1 (P a)
      have a3 := hp.2.2.1 (P a)
      refine Or.inr ⟨z1, z2, by omega, by omega, fun w => ?_⟩
      have d1 := hp.1 (P a)
      have n1 := hp.n13 z1
      clear h hp
      grind
  have dd : P a = 13 ∨ S (P a) ∧ P a ≠ a ∧ P a ≠ b ∧ ((L (P a) = a ∧ R (P a) ≠ a) ∨ (L (P a) ≠ a ∧ R (P a) = a)) := by
    rcases a4 with ⟨y, -⟩ | ⟨y1, y2⟩
    · exact Or.inl y
    · have d1 := hp.1 _ y1
      have d2 := hp.2.1 _ y1
      have d3 := hp.2.2.1 _ y1
      have n1 := hp.n13 ha
      refine Or.inr ⟨y1, ?_⟩
      clear h hp cc
      grind
  unfold F_TM_rotateLeft F_TM_rotateLeft_32
  rcases cc with hc | ⟨sc, pc, nca, ncb, ncd⟩
  · skip
    rcases dd with hd | ⟨sd, nda, ndb, hl⟩
    · refine ⟨ksR (ksR (ksR (ksR (ksR M (e a) 3 0) (e b) 4 0) tm 3 (e b)) (e b) 2 (e a)) (e a) 4 (e b), ?_, ?_, ?_⟩
      · simp only [z_RR, z_tR, na, ka, kb, t0, kg_t, kl_v, h.r ha, hb, h.l sb, h.p ha, e13, hba, hab, if_false, if_true, false_and, true_and, and_true, Nat.reduceEqDiff, and_false, and_self, hc, hd]
      · refine ⟨e13, fun q hq => ⟨h.nz hq, h.k hq, h.co hq, ?_, ?_, ?_⟩, h.2.2.1, t0, ?_⟩
        · have n9 := hp.n13 hq
          have tq := (h.tn hq)
          simp only [z_RR, Nat.reduceEqDiff, and_false, and_true, if_false, h.inj hq ha, h.inj hq sb, h.l hq, tq, false_and]
          unfold rlL
          grind
        · have n9 := hp.n13 hq
          have tq := (h.tn hq)
          simp only [z_RR, Nat.reduceEqDiff, and_false, and_true, if_false, h.inj hq ha, h.inj hq sb, h.r hq, tq, false_and]
          unfold rlR
          grind
        · have n9 := hp.n13 hq
          have tq := (h.tn hq)
          simp only [z_RR, Nat.reduceEqDiff, and_false, and_true, if_false, h.inj hq ha, h.inj hq sb, h.p hq, tq, false_and]
          unfold rlP
          grind
        · simp only [z_RR, ta, tb, hd, Nat.reduceEqDiff, and_false, false_and, if_false, if_true, and_self]
      · refine ⟨h.ft rfl rfl rfl (fun x j hx hj => ?_) (fun q hq j hj => ?_), rfl⟩
        · have xa := eq_false (hx _ ha)
          have xb := eq_false (hx _ sb)
          have xt : (x = tm ∧ j = 3) = False := eq_false (fun z => hj.elim (fun y => y z.1) (fun y => y z.2))
          simp only [z_RR, xa, xb, xt, false_and, if_false]
        · have j2 : (j = 2) = False := eq_false (by omega)
          have j3 : (j = 3) = False := eq_false (by omega)
          have j4 : (j = 4) = False := eq_false (by omega)
          simp only [z_RR, j2, j3, j4, and_false, if_false]
    · have kd := h.k sd
      have nd : (e (P a) = 0) = False := eq_false (h.nz sd)
      have hda : (e (P a) = e a) = False := by rw [h.inj sd ha]; exact eq_false nda
      have hdb : (e (P a) = e b) = False := by rw [h.inj sd sb]; exact eq_false ndb
      have had : (e a = e (P a)) = False := by rw [h.inj ha sd]; exact eq_false nda.symm
      have hbd : (e b = e (P a)) = False := by rw [h.inj sb sd]; exact eq_false ndb.symm
      rcases hl with ⟨hl, hl2⟩ | ⟨hl2, hl⟩
      · refine ⟨ksR (ksR (ksR (ksR (ksR M (e a) 3 0) (e b) 4 (e (P a))) (e (P a)) 2 (e b)) (e b) 2 (e a)) (e a) 4 (e b), ?_, ?_, ?_⟩
        · simp only [z_RR, z_tR, na, ka, kb, t0, kg_t, kl_v, h.r ha, hb, h.l sb, h.p ha, e13, hba, hab, if_false, if_true, false_and, true_and, and_true, Nat.reduceEqDiff, and_false, and_self, hc, kd, nd, hda, hdb, had, hbd, h.l sd, h.r sd, hl]
        · refine ⟨e13, fun q hq => ⟨h.nz hq, h.k hq, h.co hq, ?_, ?_, ?_⟩, h.2.2.1, t0, ?_⟩
          · have n9 := hp.n13 hq
            have tq := (h.tn hq)
            simp only [z_RR, Nat.reduceEqDiff, and_false, and_true, if_false, h.inj hq ha, h.inj hq sb, h.inj hq sd, h.l hq, tq, false_and]
            unfold rlL
            grind
          · have n9 := hp.n13 hq
            have tq := (h.tn hq)
            simp only [z_RR, Nat.reduceEqDiff, and_false, and_true, if_false, h.inj hq ha, h.inj hq sb, h.inj hq sd, h.r hq, tq, false_and]
            unfold rlR
            grind
          · have n9 := hp.n13 hq
            have tq := (h.tn hq)
            simp only [z_RR, Nat.reduceEqDiff, and_false, and_true, if_false, h.inj hq ha, h.inj hq sb, h.inj hq sd, h.p hq, tq, false_and]
            unfold rlP
            grind
          · have td : (tm = e (P a)) = False := eq_false (h.tn sd).symm
            have d9 := hp.n13 sd
            simp only [z_RR, ta, tb, td, Nat.reduceEqDiff, and_false, false_and, if_false, hr0]
            rw [if_neg d9]
        · refine ⟨h.ft rfl rfl rfl (fun x j hx hj => ?_) (fun q hq j hj => ?_), rfl⟩
          · have xa := eq_false (hx _ ha)
            have xb := eq_false (hx _ sb)
            have xd := eq_false (hx _ sd)
            simp only [z_RR, xa, xb, xd, false_and, if_false]
          · have j2 : (j = 2) = False := eq_false (by omega)
            have j3 : (j = 3) = False := eq_false (by omega)
            have j4 : (j = 4) = False := eq_false (by omega)
            simp only [z_RR, j2, j3, j4, and_false, if_false]
      · refine ⟨ksR (ksR (ksR (ksR (ksR M (e a) 3 0) (e b) 4 (e (P a))) (e (P a)) 3 (e b)) (e b) 2 (e a)) (e a) 4 (e b), ?_, ?_, ?_⟩
        · have eqLa : (e (L (P a)) = e a) = False := by
            rcases hp.2.1 _ sd with z | ⟨z, -⟩
            · rw [z, e13]; exact eq_false (h.nz ha).symm
            · rw [h.inj z ha]; exact eq_false hl2
          simp only [z_RR, z_tR, na, ka, kb, t0, kg_t, kl_v, h.r ha, hb, h.l sb, h.p ha, e13, hba, hab, if_false, if_true, false_and, true_and, and_true, Nat.reduceEqDiff, and_false, and_self, hc, kd, nd, hda, hdb, had, hbd, h.l sd, h.r sd, hl, eqLa]
        · refine ⟨e13, fun q hq => ⟨h.nz hq, h.k hq, h.co hq, ?_, ?_, ?_⟩, h.2.2.1, t0, ?_⟩
          · have n9 := hp.n13 hq
            have tq := (h.tn hq)
            simp only [z_RR, Nat.reduceEqDiff, and_false, and_true, if_false, h.inj hq ha, h.inj hq sb, h.inj hq sd, h.l hq, tq, false_and]
            unfold rlL
            grind
          · have n9 := hp.n13 hq
            have tq := (h.tn hq)
            simp only [z_RR, Nat.reduceEqDiff, and_false, and_true, if_false, h.inj hq ha, h.inj hq sb, h.inj hq sd, h.r hq, tq, false_and]
            unfold rlR
            grind
          · have n9 := hp.n13 hq
            have tq := (h.tn hq)
            simp only [z_RR, Nat.reduceEqDiff, and_false, and_true, if_false, h.inj hq ha, h.inj hq sb, h.inj hq sd, h.p hq, tq, false_and]
            unfold rlP
            grind
          · have td : (tm = e (P a)) = False := eq_false (h.tn sd).symm
            have d9 := hp.n13 sd
            simp only [z_RR, ta, tb, td, Nat.reduceEqDiff, and_false, false_and, if_false, hr0]
            rw [if_neg d9]
        · refine ⟨h.ft rfl rfl rfl (fun x j hx hj => ?_) (fun q hq j hj => ?_), rfl⟩
          · have xa := eq_false (hx _ ha)
            have xb := eq_false (hx _ sb)
            have xd := eq_false (hx _ sd)
            simp only [z_RR, xa, xb, xd, false_and, if_false]
          · have j2 : (j = 2) = False := eq_false (by omega)
            have j3 : (j = 3) = False := eq_false (by omega)
            have j4 : (j = 4) = False := eq_false (by omega)
            simp only [z_RR, j2, j3, j4, and_false, if_false]
  · have kc := h.k sc
    have nc : (e (L b) = 0) = False := eq_false (h.nz sc)
    have hca : (e (L b) = e a) = False := by rw [h.inj sc ha]; exact eq_false nca
    have hcb : (e (L b) = e b) = False := by rw [h.inj sc sb]; exact eq_false ncb
    have hac : (e a = e (L b)) = False := by rw [h.inj ha sc]; exact eq_false nca.symm
    have hbc : (e b = e (L b)) = False := by rw [h.inj sb sc]; exact eq_false ncb.symm
    rcases dd with hd | ⟨sd, nda, ndb, hl⟩
    · refine ⟨ksR (ksR (ksR (ksR (ksR (ksR M (e a) 3 (e (L b))) (e (L b)) 4 (e a)) (e b) 4 0) tm 3 (e b)) (e b) 2 (e a)) (e a) 4 (e b), ?_, ?_, ?_⟩
      · simp only [z_RR, z_tR, na, ka, kb, t0, kg_t, kl_v, h.r ha, hb, h.l sb, h.p ha, e13, hba, hab, if_false, if_true, false_and, true_and, and_true, Nat.reduceEqDiff, and_false, and_self, kc, nc, hca, hcb, hac, hbc, hd]
      · refine ⟨e13, fun q hq => ⟨h.nz hq, h.k hq, h.co hq, ?_, ?_, ?_⟩, h.2.2.1, t0, ?_⟩
        · have n9 := hp.n13 hq
          have tq := (h.tn hq)
          simp only [z_RR, Nat.reduceEqDiff, and_false, and_true, if_false, h.inj hq ha, h.inj hq sb, h.inj hq sc, h.l hq, tq, false_and]
          unfold rlL
          grind
        · have n9 := hp.n13 hq
          have tq := (h.tn hq)
          simp only [z_RR, Nat.reduceEqDiff, and_false, and_true, if_false, h.inj hq ha, h.inj hq sb, h.inj hq sc, h.r hq, tq, false_and]
          unfold rlR
          grind
        · have n9 := hp.n13 hq
          have tq := (h.tn hq)
          simp only [z_RR, Nat.reduceEqDiff, and_false, and_true, if_false, h.inj hq ha, h.inj hq sb, h.inj hq sc, h.p hq, tq, false_and]
          unfold rlP
          grind
        · simp only [z_RR, ta, tb, hd, Nat.reduceEqDiff, and_false, false_and, if_false, if_true, and_self]
      · refine ⟨h.ft rfl rfl rfl (fun x j hx hj => ?_) (fun q hq j hj => ?_), rfl⟩
        · have xa := eq_false (hx _ ha)
          have xb := eq_false (hx _ sb)
          have xc := eq_false (hx _ sc)
          have xt : (x = tm ∧ j = 3) = False := eq_false (fun z => hj.elim (fun y => y z.1) (fun y => y z.2))
          simp only [z_RR, xa, xb, xc, xt, false_and, if_false]
        · have j2 : (j = 2) = False := eq_false (by omega)
          have j3 : (j = 3) = False := eq_false (by omega)
          have j4 : (j = 4) = False := eq_false (by omega)
          simp only [z_RR, j2, j3, j4, and_false, if_false]
    · have kd := h.k sd
      have nd : (e (P a) = 0) = False := eq_false (h.nz sd)
      have hda : (e (P a) = e a) = False := by rw [h.inj sd ha]; exact eq_false nda
      have hdb : (e (P a) = e b) = False := by rw [h.inj sd sb]; exact eq_false ndb
      have had : (e a = e (P a)) = False := by rw [h.inj ha sd]; exact eq_false nda.symm
      have hbd : (e b = e (P a)) = False := by rw [h.inj sb sd]; exact eq_false ndb.symm
      have hcd : (e (L b) = e (P a)) = False := by rw [h.inj sc sd]; exact eq_false ncd
      have hdc : (e (P a) = e (L b)) = False := by rw [h.inj sd sc]; exact eq_false (Ne.symm ncd)
      rcases hl with ⟨hl, hl2⟩ | ⟨hl2, hl⟩
      · refine ⟨ksR (ksR (ksR (ksR (ksR (ksR M (e a) 3 (e (L b))) (e (L b)) 4 (e a)) (e b) 4 (e (P a))) (e (P a)) 2 (e b)) (e b) 2 (e a)) (e a) 4 (e b), ?_, ?_, ?_⟩
        · simp only [z_RR, z_tR, na, ka, kb, t0, kg_t, kl_v, h.r ha, hb, h.l sb, h.p ha, e13, hba, hab, if_false, if_true, false_and, true_and, and_true, Nat.reduceEqDiff, and_false, and_self, kc, nc, hca, hcb, hac, hbc, kd, nd, hda, hdb, had, hbd, h.l sd, h.r sd, hcd, hdc, hl]
        · refine ⟨e13, fun q hq => ⟨h.nz hq, h.k hq, h.co hq, ?_, ?_, ?_⟩, h.2.2.1, t0, ?_⟩
          · have n9 := hp.n13 hq
            have tq := (h.tn hq)
            simp only [z_RR, Nat.reduceEqDiff, and_false, and_true, if_false, h.inj hq ha, h.inj hq sb, h.inj hq sc, h.inj hq sd, h.l hq, tq, false_and]
            unfold rlL
            grind
          · have n9 := hp.n13 hq
            have tq := (h.tn hq)
            simp only [z_RR, Nat.reduceEqDiff, and_false, and_true, if_false, h.inj hq ha, h.inj hq sb, h.inj hq sc, h.inj hq sd, h.r hq, tq, false_and]
            unfold rlR
            grind
          · have n9 := hp.n13 hq
            have tq := (h.tn hq)
            simp only [z_RR, Nat.reduceEqDiff, and_false, and_true, if_false, h.inj hq ha, h.inj hq sb, h.inj hq sc, h.inj hq sd, h.p hq, tq, false_and]
            unfold rlP
            grind
          · have td : (tm = e (P a)) = False := eq_false (h.tn sd).symm
            have d9 := hp.n13 sd
            have tc : (tm = e (L b)) = False := eq_false (h.tn sc).symm
            simp only [z_RR, ta, tb, td, tc, Nat.reduceEqDiff, and_false, false_and, if_false, hr0]
            rw [if_neg d9]
        · refine ⟨h.ft rfl rfl rfl (fun x j hx hj => ?_) (fun q hq j hj => ?_), rfl⟩
          · have xa := eq_false (hx _ ha)
            have xb := eq_false (hx _ sb)
            have xc := eq_false (hx _ sc)
            have xd := eq_false (hx _ sd)
            simp only [z_RR, xa, xb, xc, xd, false_and, if_false]
          · have j2 : (j = 2) = False := eq_false (by omega)
            have j3 : (j = 3) = False := eq_false (by omega)
            have j4 : (j = 4) = False := eq_false (by omega)
            simp only [z_RR, j2, j3, j4, and_false, if_false]
      · refine ⟨ksR (ksR (ksR (ksR (ksR (ksR M (e a) 3 (e (L b))) (e (L b)) 4 (e a)) (e b) 4 (e (P a))) (e (P a)) 3 (e b)) (e b) 2 (e a)) (e a) 4 (e b), ?_, ?_, ?_⟩
        · have eqLa : (e (L (P a)) = e a) = False := by
            rcases hp.2.1 _ sd with z | ⟨z, -⟩
            · rw [z, e13]; exact eq_false (h.nz ha).symm
            · rw [h.inj z ha]; exact eq_false hl2
          simp only [z_RR, z_tR, na, ka, kb, t0, kg_t, kl_v, h.r ha, hb, h.l sb, h.p ha, e13, hba, hab, if_false, if_true, false_and, true_and, and_true, Nat.reduceEqDiff, and_false, and_self, kc, nc, hca, hcb, hac, hbc, kd, nd, hda, hdb, had, hbd, h.l sd, h.r sd, hcd, hdc, hl, eqLa]
        · refine ⟨e13, fun q hq => ⟨h.nz hq, h.k hq, h.co hq, ?_, ?_, ?_⟩, h.2.2.1, t0, ?_⟩
          · have n9 := hp.n13 hq
            have tq := (h.tn hq)
            simp only [z_RR, Nat.reduceEqDiff, and_false, and_true, if_false, h.inj hq ha, h.inj hq sb, h.inj hq sc, h.inj hq sd, h.l hq, tq, false_and]
            unfold rlL
            grind
          · have n9 := hp.n13 hq
            have tq := (h.tn hq)
            simp only [z_RR, Nat.reduceEqDiff, and_false, and_true, if_false, h.inj hq ha, h.inj hq sb, h.inj hq sc, h.inj hq sd, h.r hq, tq, false_and]
            unfold rlR
            grind
          · have n9 := hp.n13 hq
            have tq := (h.tn hq)
            simp only [z_RR, Nat.reduceEqDiff, and_false, and_true, if_false, h.inj hq ha, h.inj hq sb, h.inj hq sc, h.inj hq sd, h.p hq, tq, false_and]
            unfold rlP
            grind
          · have td : (tm = e (P a)) = False := eq_false (h.tn sd).symm
            have d9 := hp.n13 sd
            have tc : (tm = e (L b)) = False := eq_false (h.tn sc).symm
            simp only [z_RR, ta, tb, td, tc, Nat.reduceEqDiff, and_false, false_and, if_false, hr0]
            rw [if_neg d9]
        · refine ⟨h.ft rfl rfl rfl (fun x j hx hj => ?_) (fun q hq j hj => ?_), rfl⟩
          · have xa := eq_false (hx _ ha)
            have xb := eq_false (hx _ sb)
            have xc := eq_false (hx _ sc)
            have xd := eq_false (hx _ sd)
            simp only [z_RR, xa, xb, xc, xd, false_and, if_false]
          · have j2 : (j = 2) = False := eq_false (by omega)
            have j3 : (j = 3) = False := eq_false (by omega)
            have j4 : (j = 4) = False := eq_false (by omega)
            simp only [z_RR, j2, j3, j4, and_false, if_false]
theorem mrotr (h : MT M tm e S L R P rt) (hp : PT S L R P rt lo hi) (ha : S a) (hb : L a = b) (h13 : b ≠ 13) : ∃ M', F_TM_rotateRight N M tm (e a) = some M' ∧ MT M' tm e S (rrL L R a b (R b) (P a)) (rrR R a b (P a)) (rlP P a b (R b) (P a)) (if P a = 13 then b else rt) ∧ FT tm e S M M' ∧ M'.2.1 = M.2.1 := by
  have a1 := hp.1 a ha
  obtain ⟨sb, pb, lb, ub⟩ := (hp.2.1 a ha).resolve_left (by omega)
  rw [hb] at sb pb lb ub
  have b1 := hp.1 b sb
  have nab : b ≠ a := by omega
  have hba : (e b = e a) = False := by rw [h.inj sb ha]; exact eq_false nab
  have hab : (e a = e b) = False := by rw [h.inj ha sb]; exact eq_false nab.symm
  have na : (e a = 0) = False := eq_false (h.nz ha)
  have ka := h.k ha
  have kb := h.k sb
  have t0 : kt M tm 34 = true := h.2.2.2.1
  have ta : (tm = e a) = False := eq_false (h.tn ha).symm
  have tb : (tm = e b) = False := eq_false (h.tn sb).symm
  have e13 := h.1
  have hr0 := h.2.2.2.2
  have a4 := hp.2.2.2.1 a ha
  have rt5 := hp.2.2.2.2
  have cc : R b = 13 ∨ S (R b) ∧ P (R b) = b ∧ R b ≠ a ∧ R b ≠ b ∧ R b ≠ P a := by
    rcases hp.2.2.1 b sb with z | ⟨z1, z2, z3, z4⟩
    · exact Or.inl z
    · have c1 := hp.1 _ z1
      have a2 := hp.2.1 (P a)
      have a3 := hp.2.2.1 (P a)
      refine Or.inr ⟨z1, z2, by omega, by omega, fun w => ?_⟩
      have d1 := hp.1 (P a)
      have n1 := hp.n13 z1
      clear h hp
      grind
  have dd : P a = 13 ∨ S (P a) ∧ P a ≠ a ∧ P a ≠ b ∧ ((L (P a) = a ∧ R (P a) ≠ a) ∨ (L (P a) ≠ a ∧ R (P a) = a)) := by
    rcases a4 with ⟨y, -⟩ | ⟨y1, y2⟩
    · exact Or.inl y
    · have d1 := hp.1 _ y1
      have d2 := hp.2.1 _ y1
      have d3 := hp.2.2.1 _ y1
      have n1 := hp.n13 ha
      refine Or.inr ⟨y1, ?_⟩
      clear h hp cc
      grind
  unfold F_TM_rotateRight F_TM_rotateRight_32
  rcases cc with hc | ⟨sc, pc, nca, ncb, ncd⟩
  · skip
    rcases dd with hd | ⟨sd, nda, ndb, hl⟩
    · refine ⟨ksR (ksR (ksR (ksR (ksR M (e a) 2 0) (e b) 4 0) tm 3 (e b)) (e b) 3 (e a)) (e a) 4 (e b), ?_, ?_, ?_⟩
      · simp only [z_RR, z_tR, na, ka, kb, t0, kg_t, kl_v, h.l ha, hb, h.r sb, h.p ha, e13, hba, hab, if_false, if_true, false_and, true_and, and_true, Nat.reduceEqDiff, and_false, and_self, hc, hd]
      · refine ⟨e13, fun q hq => ⟨h.nz hq, h.k hq, h.co hq, ?_, ?_, ?_⟩, h.2.2.1, t0, ?_⟩
        · have n9 := hp.n13 hq
          have tq := (h.tn hq)
          simp only [z_RR, Nat.reduceEqDiff, and_false, and_true, if_false, h.inj hq ha, h.inj hq sb, h.l hq, tq, false_and]
          unfold rrL
          grind
        · have n9 := hp.n13 hq
          have tq := (h.tn hq)
          simp only [z_RR, Nat.reduceEqDiff, and_false, and_true, if_false, h.inj hq ha, h.inj hq sb, h.r hq, tq, false_and]
          unfold rrR
          grind
        · have n9 := hp.n13 hq
          have tq := (h.tn hq)
          simp only [z_RR, Nat.reduceEqDiff, and_false, and_true, if_false, h.inj hq ha, h.inj hq sb, h.p hq, tq, false_and]
          unfold rlP
          grind
        · simp only [z_RR, ta, tb, hd, Nat.reduceEqDiff, and_false, false_and, if_false, if_true, and_self]
      · refine ⟨h.ft rfl rfl rfl (fun x j hx hj => ?_) (fun q hq j hj => ?_), rfl⟩
        · have xa := eq_false (hx _ ha)
          have xb := eq_false (hx _ sb)
          have xt : (x = tm ∧ j = 3) = False := eq_false (fun z => hj.elim (fun y => y z.1) (fun y => y z.2))
          simp only [z_RR, xa, xb, xt, false_and, if_false]
        · have j2 : (j = 2) = False := eq_false (by omega)
          have j3 : (j = 3) = False := eq_false (by omega)
          have j4 : (j = 4) = False := eq_false (by omega)
          simp only [z_RR, j2, j3, j4, and_false, if_false]
    · have kd := h.k sd
      have nd : (e (P a) = 0) = False := eq_false (h.nz sd)
      have hda : (e (P a) = e a) = False := by rw [h.inj sd ha]; exact eq_false nda
      have hdb : (e (P a) = e b) = False := by rw [h.inj sd sb]; exact eq_false ndb
      have had : (e a = e (P a)) = False := by rw [h.inj ha sd]; exact eq_false nda.symm
      have hbd : (e b = e (P a)) = False := by rw [h.inj sb sd]; exact eq_false ndb.symm
      rcases hl with ⟨hl, hl2⟩ | ⟨hl2, hl⟩
      · refine ⟨ksR (ksR (ksR (ksR (ksR M (e a) 2 0) (e b) 4 (e (P a))) (e (P a)) 2 (e b)) (e b) 3 (e a)) (e a) 4 (e b), ?_, ?_, ?_⟩
        · have eqRa : (e (R (P a)) = e a) = False := by
            rcases hp.2.2.1 _ sd with z | ⟨z, -⟩
            · rw [z, e13]; exact eq_false (h.nz ha).symm
            · rw [h.inj z ha]; exact eq_false hl2
          simp only [z_RR, z_tR, na, ka, kb, t0, kg_t, kl_v, h.l ha, hb, h.r sb, h.p ha, e13, hba, hab, if_false, if_true, false_and, true_and, and_true, Nat.reduceEqDiff, and_false, and_self, hc, kd, nd, hda, hdb, had, hbd, h.l sd, h.r sd, hl, eqRa]
        · refine ⟨e13, fun q hq => ⟨h.nz hq, h.k hq, h.co hq, ?_, ?_, ?_⟩, h.2.2.1, t0, ?_⟩
          · have n9 := hp.n13 hq
            have tq := (h.tn hq)
            simp only [z_RR, Nat.reduceEqDiff, and_false, and_true, if_false, h.inj hq ha, h.inj hq sb, h.inj hq sd, h.l hq, tq, false_and]
            unfold rrL
            grind
          · have n9 := hp.n13 hq
            have tq := (h.tn hq)
            simp only [z_RR, Nat.reduceEqDiff, and_false, and_true, if_false, h.inj hq ha, h.inj hq sb, h.inj hq sd, h.r hq, tq, false_and]
            unfold rrR
            grind
          · have n9 := hp.n13 hq
            have tq := (h.tn hq)
            simp only [z_RR, Nat.reduceEqDiff, and_false, and_true, if_false, h.inj hq ha, h.inj hq sb, h.inj hq sd, h.p hq, tq, false_and]
            unfold rlP
            grind
          · have td : (tm = e (P a)) = False := eq_false (h.tn sd).symm
            have d9 := hp.n13 sd
            simp only [z_RR, ta, tb, td, Nat.reduceEqDiff, and_false, false_and, if_false, hr0]
            rw [if_neg d9]
        · refine ⟨h.ft rfl rfl rfl (fun x j hx hj => ?_) (fun q hq j hj => ?_), rfl⟩
          · have xa := eq_false (hx _ ha)
            have xb := eq_false (hx _ sb)
            have xd := eq_false (hx _ sd)
            simp only [z_RR, xa, xb, xd, false_and, if_false]
          · have j2 : (j = 2) = False := eq_false (by omega)
            have j3 : (j = 3) = False := eq_false (by omega)
            have j4 : (j = 4) = False := eq_false (by omega)
            simp only [z_RR, j2, j3, j4, and_false, if_false]
      · refine ⟨ksR (ksR (ksR (ksR (ksR M (e a) 2 0) (e b) 4 (e (P a))) (e (P a)) 3 (e b)) (e b) 3 (e a)) (e a) 4 (e b), ?_, ?_, ?_⟩
        · simp only [z_RR, z_tR, na, ka, kb, t0, kg_t, kl_v, h.l ha, hb, h.r sb, h.p ha, e13, hba, hab, if_false, if_true, false_and, true_and, and_true, Nat.reduceEqDiff, and_false, and_self, hc, kd, nd, hda, hdb, had, hbd, h.l sd, h.r sd, hl]
        · refine ⟨e13, fun q hq => ⟨h.nz hq, h.k hq, h.co hq, ?_, ?_, ?_⟩, h.2.2.1, t0, ?_⟩
          · have n9 := hp.n13 hq
            have tq := (h.tn hq)
            simp only [z_RR, Nat.reduceEqDiff, and_false, and_true, if_false, h.inj hq ha, h.inj hq sb, h.inj hq sd, h.l hq, tq, false_and]
            unfold rrL
            grind
          · have n9 := hp.n13 hq
            have tq := (h.tn hq)
            simp only [z_RR, Nat.reduceEqDiff, and_false, and_true, if_false, h.inj hq ha, h.inj hq sb, h.inj hq sd, h.r hq, tq, false_and]
            unfold rrR
            grind
          · have n9 := hp.n13 hq
            have tq := (h.tn hq)
            simp only [z_RR, Nat.reduceEqDiff, and_false, and_true, if_false, h.inj hq ha, h.inj hq sb, h.inj hq sd, h.p hq, tq, false_and]
            unfold rlP
            grind
          · have td : (tm = e (P a)) = False := eq_false (h.tn sd).symm
            have d9 := hp.n13 sd
            simp only [z_RR, ta, tb, td, Nat.reduceEqDiff, and_false, false_and, if_false, hr0]
            rw [if_neg d9]
        · refine ⟨h.ft rfl rfl rfl (fun x j hx hj => ?_) (fun q hq j hj => ?_), rfl⟩
          · have xa := eq_false (hx _ ha)
            have xb := eq_false (hx _ sb)
            have xd := eq_false (hx _ sd)
            simp only [z_RR, xa, xb, xd, false_and, if_false]
          · have j2 : (j = 2) = False := eq_false (by omega)
            have j3 : (j = 3) = False := eq_false (by omega)
            have j4 : (j = 4) = False := eq_false (by omega)
            simp only [z_RR, j2, j3, j4, and_false, if_false]
  · have kc := h.k sc
    have nc : (e (R b) = 0) = False := eq_false (h.nz sc)
    have hca : (e (R b) = e a) = False := by rw [h.inj sc ha]; exact eq_false nca
    have hcb : (e (R b) = e b) = False := by rw [h.inj sc sb]; exact eq_false ncb
    have hac : (e a = e (R b)) = False := by rw [h.inj ha sc]; exact eq_false nca.symm
    have hbc : (e b = e (R b)) = False := by rw [h.inj sb sc]; exact eq_false ncb.symm
    rcases dd with hd | ⟨sd, nda, ndb, hl⟩
    · refine ⟨ksR (ksR (ksR (ksR (ksR (ksR M (e a) 2 (e (R b))) (e (R b)) 4 (e a)) (e b) 4 0) tm 3 (e b)) (e b) 3 (e a)) (e a) 4 (e b), ?_, ?_, ?_⟩
      · simp only [z_RR, z_tR, na, ka, kb, t0, kg_t, kl_v, h.l ha, hb, h.r sb, h.p ha, e13, hba, hab, if_false, if_true, false_and, true_and, and_true, Nat.reduceEqDiff, and_false, and_self, kc, nc, hca, hcb, hac, hbc, hd]
      · refine ⟨e13, fun q hq => ⟨h.nz hq, h.k hq, h.co hq, ?_, ?_, ?_⟩, h.2.2.1, t0, ?_⟩
        · have n9 := hp.n13 hq
          have tq := (h.tn hq)
          simp only [z_RR, Nat.reduceEqDiff, and_false, and_true, if_false, h.inj hq ha, h.inj hq sb, h.inj hq sc, h.l hq, tq, false_and]
          unfold rrL
          grind
        · have n9 := hp.n13 hq
          have tq := (h.tn hq)
          simp only [z_RR, Nat.reduceEqDiff, and_false, and_true, if_false, h.inj hq ha, h.inj hq sb, h.inj hq sc, h.r hq, tq, false_and]
          unfold rrR
          grind
        · have n9 := hp.n13 hq
          have tq := (h.tn hq)
          simp only [z_RR, Nat.reduceEqDiff, and_false, and_true, if_false, h.inj hq ha, h.inj hq sb, h.inj hq sc, h.p hq, tq, false_and]
          unfold rlP
          grind
        · simp only [z_RR, ta, tb, hd, Nat.reduceEqDiff, and_false, false_and, if_false, if_true, and_self]
      · refine ⟨h.ft rfl rfl rfl (fun x j hx hj => ?_) (fun q hq j hj => ?_), rfl⟩
        · have xa := eq_false (hx _ ha)
          have xb := eq_false (hx _ sb)
          have xc := eq_false (hx _ sc)
          have xt : (x = tm ∧ j = 3) = False := eq_false (fun z => hj.elim (fun y => y z.1) (fun y => y z.2))
          simp only [z_RR, xa, xb, xc, xt, false_and, if_false]
        · have j2 : (j = 2) = False := eq_false (by omega)
          have j3 : (j = 3) = False := eq_false (by omega)
          have j4 : (j = 4) = False := eq_false (by omega)
          simp only [z_RR, j2, j3, j4, and_false, if_false]
    · have kd := h.k sd
      have nd : (e (P a) = 0) = False := eq_false (h.nz sd)
      have hda : (e (P a) = e a) = False := by rw [h.inj sd ha]; exact eq_false nda
      have hdb : (e (P a) = e b) = False := by rw [h.inj sd sb]; exact eq_false ndb
      have had : (e a = e (P a)) = False := by rw [h.inj ha sd]; exact eq_false nda.symm
      have hbd : (e b = e (P a)) = False := by rw [h.inj sb sd]; exact eq_false ndb.symm
      have hcd : (e (R b) = e (P a)) = False := by rw [h.inj sc sd]; exact eq_false ncd
      have hdc : (e (P a) = e (R b)) = False := by rw [h.inj sd sc]; exact eq_false (Ne.symm ncd)
      rcases hl with ⟨hl, hl2⟩ | ⟨hl2, hl⟩
      · refine ⟨ksR (ksR (ksR (ksR (ksR (ksR M (e a) 2 (e (R b))) (e (R b)) 4 (e a)) (e b) 4 (e (P a))) (e (P a)) 2 (e b)) (e b) 3 (e a)) (e a) 4 (e b), ?_, ?_, ?_⟩
        · have eqRa : (e (R (P a)) = e a) = False := by
            rcases hp.2.2.1 _ sd with z | ⟨z, -⟩
            · rw [z, e13]; exact eq_false (h.nz ha).symm
            · rw [h.inj z ha]; exact eq_false hl2
          simp only [z_RR, z_tR, na, ka, kb, t0, kg_t, kl_v, h.l ha, hb, h.r sb, h.p ha, e13, hba, hab, if_false, if_true, false_and, true_and, and_true, Nat.reduceEqDiff, and_false, and_self, kc, nc, hca, hcb, hac, hbc, kd, nd, hda, hdb, had, hbd, h.l sd, h.r sd, hcd, hdc, hl, eqRa]
        · refine ⟨e13, fun q hq => ⟨h.nz hq, h.k hq, h.co hq, ?_, ?_, ?_⟩, h.2.2.1, t0, ?_⟩
          · have n9 := hp.n13 hq
            have tq := (h.tn hq)
            simp only [z_RR, Nat.reduceEqDiff, and_false, and_true, if_false, h.inj hq ha, h.inj hq sb, h.inj hq sc, h.inj hq sd, h.l hq, tq, false_and]
            unfold rrL
            grind
          · have n9 := hp.n13 hq
            have tq := (h.tn hq)
            simp only [z_RR, Nat.reduceEqDiff, and_false, and_true, if_false, h.inj hq ha, h.inj hq sb, h.inj hq sc, h.inj hq sd, h.r hq, tq, false_and]
            unfold rrR
            grind
          · have n9 := hp.n13 hq
            have tq := (h.tn hq)
            simp only [z_RR, Nat.reduceEqDiff, and_false, and_true, if_false, h.inj hq ha, h.inj hq sb, h.inj hq sc, h.inj hq sd, h.p hq, tq, false_and]
            unfold rlP
            grind
          · have td : (tm = e (P a)) = False := eq_false (h.tn sd).symm
            have d9 := hp.n13 sd
            have tc : (tm = e (R b)) = False := eq_false (h.tn sc).symm
            simp only [z_RR, ta, tb, td, tc, Nat.reduceEqDiff, and_false, false_and, if_false, hr0]
            rw [if_neg d9]
        · refine ⟨h.ft rfl rfl rfl (fun x j hx hj => ?_) (fun q hq j hj => ?_), rfl⟩
          · have xa := eq_false (hx _ ha)
            have xb := eq_false (hx _ sb)
            have xc := eq_false (hx _ sc)
            have xd := eq_false (hx _ sd)
            simp only [z_RR, xa, xb, xc, xd, false_and, if_false]
          · have j2 : (j = 2) = False := eq_false (by omega)
            have j3 : (j = 3) = False := eq_false (by omega)
            have j4 : (j = 4) = False := eq_false (by omega)
            simp only [z_RR, j2, j3, j4, and_false, if_false]
      · refine ⟨ksR (ksR (ksR (ksR (ksR (ksR M (e a) 2 (e (R b))) (e (R b)) 4 (e a)) (e b) 4 (e (P a))) (e (P a)) 3 (e b)) (e b) 3 (e a)) (e a) 4 (e b), ?_, ?_, ?_⟩
        · simp only [z_RR, z_tR, na, ka, kb, t0, kg_t, kl_v, h.l ha, hb, h.r sb, h.p ha, e13, hba, hab, if_false, if_true, false_and, true_and, and_true, Nat.reduceEqDiff, and_false, and_self, kc, nc, hca, hcb, hac, hbc, kd, nd, hda, hdb, had, hbd, h.l sd, h.r sd, hcd, hdc, hl]
        · refine ⟨e13, fun q hq => ⟨h.nz hq, h.k hq, h.co hq, ?_, ?_, ?_⟩, h.2.2.1, t0, ?_⟩
          · have n9 := hp.n13 hq
            have tq := (h.tn hq)
            simp only [z_RR, Nat.reduceEqDiff, and_false, and_true, if_false, h.inj hq ha, h.inj hq sb, h.inj hq sc, h.inj hq sd, h.l hq, tq, false_and]
            unfold rrL
            grind
          · have n9 := hp.n13 hq
            have tq := (h.tn hq)
            simp only [z_RR, Nat.reduceEqDiff, and_false, and_true, if_false, h.inj hq ha, h.inj hq sb, h.inj hq sc, h.inj hq sd, h.r hq, tq, false_and]
            unfold rrR
            grind
          · have n9 := hp.n13 hq
            have tq := (h.tn hq)
            simp only [z_RR, Nat.reduceEqDiff, and_false, and_true, if_false, h.inj hq ha, h.inj hq sb, h.inj hq sc, h.inj hq sd, h.p hq, tq, false_and]
            unfold rlP
            grind
          · have td : (tm = e (P a)) = False := eq_false (h.tn sd).symm
            have d9 := hp.n13 sd
            have tc : (tm = e (R b)) = False := eq_false (h.tn sc).symm
            simp only [z_RR, ta, tb, td, tc, Nat.reduceEqDiff, and_false, false_and, if_false, hr0]
            rw [if_neg d9]
        · refine ⟨h.ft rfl rfl rfl (fun x j hx hj => ?_) (fun q hq j hj => ?_), rfl⟩
          · have xa := eq_false (hx _ ha)
            have xb := eq_false (hx _ sb)
            have xc := eq_false (hx _ sc)
            have xd := eq_false (hx _ sd)
            simp only [z_RR, xa, xb, xc, xd, false_and, if_false]
          · have j2 : (j = 2) = False := eq_false (by omega)
            have j3 : (j = 3) = False := eq_false (by omega)
            have j4 : (j = 4) = False := eq_false (by omega)
            simp only [z_RR, j2, j3, j4, and_false, if_false]
end
