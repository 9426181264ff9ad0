/-! the text as a String, and how it is fed to the class -/
def STx (M : kMem) (s : Nat) (cs : List Nat) : Prop := (kt M s 40 = true ∧ kI M s 1 = 0) ∧ kt M (kR M s 0) 20 = true ∧ kn M (kR M s 0) = cs.length ∧ ∀ i, i < cs.length → kI M (kR M s 0) i = nI (cs.getD i 0)
def Fq (M M' : kMem) (k : Nat) : Prop := (∃ l, M'.1 = M.1 ++ l ∧ (l.map (fun c => c.2 + 1)).sum ≤ k) ∧ (∀ a j, a ≤ M.1.length → kR M' a j = kR M a j) ∧ ∀ a j, a ≤ M.1.length → ¬ (a = 2 ∧ j = 1) → a ≠ 3 → kI M' a j = kI M a j
def cT (cs : List Nat) : Nat → Nat := fun k => if k < cs.length then cs.getD k 0 else 32
section
variable {N : Nat} {M M' M1 M2 : kMem} {a s i j k k2 w c : Nat} {cs : List Nat}
theorem Fq.rf' : Fq M M 0 := ⟨⟨[], by simp, by simp⟩, fun _ _ _ => rfl, fun _ _ _ _ _ => rfl⟩
theorem Fq.le (h : Fq M M' k) (hk : k ≤ k2) : Fq M M' k2 := by
  obtain ⟨⟨l, hl, hs⟩, h2⟩ := h
  exact ⟨⟨l, hl, by omega⟩, h2⟩
theorem Fq.len (h : Fq M M' k) : M.1.length ≤ M'.1.length := by
  obtain ⟨⟨l, hl, -⟩, -⟩ := h
  rw [hl, List.length_append]
  omega
theorem Fq.trans (h : Fq M M1 k) (h2 : Fq M1 M2 k2) : Fq M M2 (k + k2) := by
  have hlen := h.len
  obtain ⟨⟨l, hl, hs⟩, h3, h4⟩ := h
  obtain ⟨⟨l2, hl2, hs2⟩, g3, g4⟩ := h2
  exact ⟨⟨l ++ l2, by rw [hl2, hl, List.append_assoc], by rw [List.map_append, List.sum_append]; omega⟩, fun a j ha => (g3 a j (by omega)).trans (h3 a j ha), fun a j ha h5 h6 => (g4 a j (by omega) h5 h6).trans (h4 a j ha h5 h6)⟩
theorem Fq.tg (h : Fq M M' k) (ha : kt M a s = true) : kt M' a s = true := by
  obtain ⟨⟨l, hl, -⟩, -⟩ := h
  exact kt_pre hl ha
theorem Fq.ng (h : Fq M M' k) (ha : kt M a s = true) : kn M' a = kn M a := by
  obtain ⟨⟨l, hl, -⟩, -⟩ := h
  have := kt_le ha
  unfold kn
  rw [kcell_pre hl this.1 this.2]
theorem SMp.fd (h : SMp M) (o : Fq M M' k) : SMp M' := by
  have hl0 := h.len
  obtain ⟨⟨l, hl, -⟩, ho, -⟩ := o
  refine ⟨fun a h1 h2 => ?_, fun a j h2 => ?_⟩
  · rw [kcell_pre hl h1 (by omega)]
    exact h.1 a h1 h2
  · rw [ho a j (by omega)]
    exact h.2 a j h2
theorem STx.fd (h : STx M s cs) (o : Fq M M' k) (hS : SMp M) : STx M' s cs := by
  obtain ⟨⟨h1, h2⟩, h3, h4, h5⟩ := h
  have l1 := hS.hi h1 (by decide)
  have l2 : 539 < kR M s 0 := by
    refine Decidable.byContradiction fun z => ?_
    have g1 := (kt_le h3).1
    have g2 := hS.kt1 g1 (by omega)
    have g3 : ∀ a, a ≤ 539 → 1 ≤ a → (cellAt a).1 ≠ 20 := by decide +kernel
    exact kt_ne h3 g2 (fun y => g3 _ (by omega) g1 y.symm) rfl
  have e0 : kR M' s 0 = kR M s 0 := o.2.1 s 0 (kt_le h1).2
  refine ⟨⟨o.tg h1, (o.2.2 s 1 (kt_le h1).2 (by omega) (by omega)).trans h2⟩, ?_⟩
  rw [e0]
  exact ⟨o.tg h3, (o.ng h3).trans h4, fun i hi => (o.2.2 _ i (kt_le h3).2 (by omega) (by omega)).trans (h5 i hi)⟩
theorem ch_tab : ∀ c, c < 128 → ((nI c &&& 255).toUInt32 % 65536).toInt32 = nI c ∧ ((nI c).toUInt32 % 65536).toInt32 = nI c := by decide +kernel
theorem st_len (h : STx M s cs) : F_J0_lengthR N M s = some (nI cs.length) := by
  obtain ⟨⟨h1, h2⟩, h3, h4, -⟩ := h
  unfold F_J0_lengthR F_J0_coderR
  rw [h1, kg_t, h3, kg_t, kg_t, if_neg (by decide), kg_t, h2]
  rw [show (decide ((0 : Int32).toInt8.toInt32 = 0)) = true from by decide, kg_t, Option.bind_some, h4, sh_r0, ofNnI]
theorem st_ch (h : STx M s cs) (hc : ∀ i, i < cs.length → cs.getD i 0 < 128) {x : Nat} (hx : x < cs.length) (hl : cs.length ≤ 2000) : F_J0_charAtR N M s (nI x) = some (nI (cs.getD x 0)) := by
  obtain ⟨⟨h1, h2⟩, h3, h4, h5⟩ := h
  obtain ⟨c1, c2⟩ := ch_tab _ (hc x hx)
  unfold F_J0_charAtR F_J0_isLatin1R F_J1_charAtR F_J3_check
  rw [h1, kg_t, if_neg (by decide), kg_t, h2, if_pos rfl, Option.bind_some, if_neg (by decide), kg_t, h3, kg_t, h4, ofNnI]
  rw [if_neg (show ¬ nI x < 0 from nI_pos (by omega)), if_pos ((nI_ltI (by omega) (by omega)).mpr hx), Option.bind_some, kin_nI h3 h4 hx (by omega), kg_t, kx_nI (by omega), h5 x hx, c1]
  simp only [c2, decide_true, kg_t, Option.bind_some]
theorem or_nI {x c : Nat} (hc : c < 256) (hx : x * 256 + c < 4294967296) : nI (x * 256) ||| nI c = nI (x * 256 + c) := by
  apply Int32.toBitVec_inj.mp
  apply BitVec.eq_of_toNat_eq
  show ((BitVec.ofNat 32 (x * 256)) ||| (BitVec.ofNat 32 c)).toNat = (BitVec.ofNat 32 (x * 256 + c)).toNat
  have e32 : (2 : Nat) ^ 32 = 4294967296 := by decide
  have m1 : x * 256 % 4294967296 = x * 256 := by omega
  have m2 : c % 4294967296 = c := by omega
  have m3 : (x * 256 + c) % 4294967296 = x * 256 + c := Nat.mod_eq_of_lt hx
  rw [BitVec.toNat_or, BitVec.toNat_ofNat, BitVec.toNat_ofNat, BitVec.toNat_ofNat, e32, m1, m2, m3, Nat.mul_comm x 256]
  exact (Nat.two_pow_add_eq_or_of_lt (i := 8) hc x).symm
/-- the first m bytes from p on, packed -/
def pkv (f : Nat → Nat) (p : Nat) : Nat → Nat
  | 0 => 0
  | m + 1 => pkv f p m * 256 + f (p + m)
theorem pk_step {f : Nat → Nat} {p m : Nat} (hf : f (p + m) < 128) (hb : pkv f p m < 8388608) : (nI (pkv f p m) <<< ((8 : Int32) &&& 31)) ||| nI (f (p + m)) = nI (pkv f p (m + 1)) := by
  rw [pk_shlN _ 8 (by decide) (by omega)]
  exact or_nI (by omega) (by omega)
theorem pk_lt3 {f : Nat → Nat} {p : Nat} (hf : ∀ m, m < 4 → f (p + m) < 128) {m : Nat} (hm : m < 4) : pkv f p m < 8388608 := by
  have f0 := hf 0 (by omega)
  have f1 := hf 1 (by omega)
  have f2 := hf 2 (by omega)
  have : m = 0 ∨ m = 1 ∨ m = 2 ∨ m = 3 := by omega
  rcases this with rfl | rfl | rfl | rfl
  · show (0 : Nat) < _; omega
  · show 0 * 256 + f (p + 0) < _; omega
  · show (0 * 256 + f (p + 0)) * 256 + f (p + 1) < _; omega
  · show ((0 * 256 + f (p + 0)) * 256 + f (p + 1)) * 256 + f (p + 2) < _; omega
theorem bt_pk {f : Nat → Nat} {p : Nat} (hf : ∀ m, m < 4 → 1 ≤ f (p + m) ∧ f (p + m) < 128) : bt (nI (pkv f p 4)) 24 = nI (f (p + 0)) ∧ bt (nI (pkv f p 4)) 16 = nI (f (p + 1)) ∧ bt (nI (pkv f p 4)) 8 = nI (f (p + 2)) ∧ bt (nI (pkv f p 4)) 0 = nI (f (p + 3)) := by
  have f0 := hf 0 (by omega)
  have f1 := hf 1 (by omega)
  have f2 := hf 2 (by omega)
  have f3 := hf 3 (by omega)
  have e : pkv f p 4 = (((0 * 256 + f (p + 0)) * 256 + f (p + 1)) * 256 + f (p + 2)) * 256 + f (p + 3) := rfl
  have hX : pkv f p 4 < 2147483648 := by omega
  unfold bt
  rw [pk_shrN hX _ 24 (by decide), pk_shrN hX _ 16 (by decide), pk_shrN hX _ 8 (by decide), pk_shrN hX _ 0 (by decide)]
  rw [pk_andN (n := pkv f p 4 / 2 ^ 24) (by omega) 8 (by decide), pk_andN (n := pkv f p 4 / 2 ^ 16) (by omega) 8 (by decide), pk_andN (n := pkv f p 4 / 2 ^ 8) (by omega) 8 (by decide), pk_andN (n := pkv f p 4 / 2 ^ 0) (by omega) 8 (by decide)]
  refine ⟨?_, ?_, ?_, ?_⟩ <;> (congr 1; omega)
theorem ad4_pk {f : Nat → Nat} {p : Nat} (hf : ∀ m, m < 4 → 1 ≤ f (p + m) ∧ f (p + m) < 128) (q : Nat × (Nat → Nat)) : ct (nI (pkv f p 4)) = 4 ∧ (ad4 q (nI (pkv f p 4))).1 = q.1 + 4 ∧ ∀ k, (ad4 q (nI (pkv f p 4))).2 k = if q.1 ≤ k ∧ k < q.1 + 4 then f (p + (k - q.1)) else q.2 k := by
  obtain ⟨b0, b1, b2, b3⟩ := bt_pk hf
  have f0 := hf 0 (by omega)
  have f1 := hf 1 (by omega)
  have f2 := hf 2 (by omega)
  have f3 := hf 3 (by omega)
  have n0 : ¬ nI (f (p + 0)) = 0 := nI_ne0 (by omega) (by omega)
  have n1 : ¬ nI (f (p + 1)) = 0 := nI_ne0 (by omega) (by omega)
  have n2 : ¬ nI (f (p + 2)) = 0 := nI_ne0 (by omega) (by omega)
  have n3 : ¬ nI (f (p + 3)) = 0 := nI_ne0 (by omega) (by omega)
  unfold ad4 ad ct nz
  rw [b0, b1, b2, b3, if_neg n0, if_neg n1, if_neg n2, if_neg n3, if_neg n0, if_neg n1, if_neg n2, if_neg n3]
  refine ⟨rfl, rfl, fun k => ?_⟩
  show (if k = q.1 + 1 + 1 + 1 then kx (nI (f (p + 3))) else if k = q.1 + 1 + 1 then kx (nI (f (p + 2))) else if k = q.1 + 1 then kx (nI (f (p + 1))) else if k = q.1 then kx (nI (f (p + 0))) else q.2 k) = _
  rw [kx_nI (by omega), kx_nI (by omega), kx_nI (by omega), kx_nI (by omega)]
  by_cases c3 : k = q.1 + 1 + 1 + 1
  · rw [if_pos c3, if_pos (by omega), c3]; congr 1; omega
  · rw [if_neg c3]
    by_cases c2 : k = q.1 + 1 + 1
    · rw [if_pos c2, if_pos (by omega), c2]; congr 1; omega
    · rw [if_neg c2]
      by_cases c1 : k = q.1 + 1
      · rw [if_pos c1, if_pos (by omega), c1]; congr 1; omega
      · rw [if_neg c1]
        by_cases c0 : k = q.1
        · rw [if_pos c0, if_pos (by omega), c0]; congr 1; omega
        · rw [if_neg c0, if_neg (by omega)]
theorem cT_ok (hc : ∀ i, i < cs.length → 1 ≤ cs.getD i 0 ∧ cs.getD i 0 < 128) (k : Nat) : 1 ≤ cT cs k ∧ cT cs k < 128 := by
  unfold cT
  split
  · next h => exact hc k h
  · omega
/-- twenty characters into five ints -/
theorem lw_f24 (hS : SMp M) (hs : STx M s cs) (hc : ∀ i, i < cs.length → 1 ≤ cs.getD i 0 ∧ cs.getD i 0 < 128) (hl : cs.length ≤ 340) {x : Nat} (hx : x ≤ 400) (k8 : kMem → Nat → Nat → Int32 → Int32 → Option (Int32 × kMem)) {v : Nat} (hv : kt M v 13 = true ∧ kn M v = 5 ∧ 539 < v) (x2 : Int32) : ∀ (d j n : Nat) (M1 : kMem), j + d = 20 → d < n → M1.1 = M.1 → (∀ a i, kR M1 a i = kR M a i) → (∀ a i, a ≠ v → kI M1 a i = kI M a i) → (∀ i, i < 5 → kI M1 v i = nI (pkv (fun y => cT cs (x + y)) (4 * i) (min 4 (j - 4 * i)))) → ∃ M2, F_L_feeds_24 N k8 n M1 1 s x2 (nI x) v (nI j) = F_L_feeds_24 N k8 (n - d) M2 1 s x2 (nI x) v (nI 20) ∧ M2.1 = M.1 ∧ (∀ a i, kR M2 a i = kR M a i) ∧ (∀ a i, a ≠ v → kI M2 a i = kI M a i) ∧ ∀ i, i < 5 → kI M2 v i = nI (pkv (fun y => cT cs (x + y)) (4 * i) 4) := by
  intro d
  induction d with
  | zero =>
    intro j n M1 hj hn h1 h2 h3 h4
    rw [show j = 20 by omega] at h4 ⊢
    refine ⟨M1, rfl, h1, h2, h3, fun i hi => ?_⟩
    rw [h4 i hi, show min 4 (20 - 4 * i) = 4 by omega]
  | succ d ih =>
    intro j n M1 hj hn h1 h2 h3 h4
    obtain ⟨n, rfl⟩ : ∃ n', n = n' + 1 := ⟨n - 1, by omega⟩
    have hk1 : kt M1 v 13 = true := by rw [kt_cg h1]; exact hv.1
    have hn1 : kn M1 v = 5 := by rw [kn_cg h1]; exact hv.2.1
    have nvs : ∀ a t, kt M a t = true → t ≠ 13 → a ≠ v := fun a t z y => kt_ne z hv.1 y
    have hs1 : STx M1 s cs := by
      obtain ⟨⟨g1, g2⟩, g3, g4, g5⟩ := hs
      refine ⟨⟨by rw [kt_cg h1]; exact g1, (h3 s 1 (nvs _ _ g1 (by decide))).trans g2⟩, ?_⟩
      rw [h2, kt_cg h1, kn_cg h1]
      exact ⟨g3, g4, fun i hi => (h3 _ i (nvs _ _ g3 (by decide))).trans (g5 i hi)⟩
    have ej : nI j / 4 = nI (j / 4) := by
      rw [show (4 : Int32) = nI 4 from rfl, pk_div (by omega) (by decide) (by decide)]
    have hj4 : j / 4 < 5 := by omega
    have k1 : kin M1 v 13 (nI (j / 4)) = true := kin_nI hk1 hn1 hj4 (by decide)
    have ev := h4 (j / 4) hj4
    rw [show min 4 (j - 4 * (j / 4)) = j % 4 by omega] at ev
    have hb := pk_lt3 (f := fun y => cT cs (x + y)) (p := 4 * (j / 4)) (fun m _ => (cT_ok hc _).2) (m := j % 4) (by omega)
    have hst := pk_step (f := fun y => cT cs (x + y)) (p := 4 * (j / 4)) (m := j % 4) (cT_ok hc _).2 hb
    have ea : 4 * (j / 4) + j % 4 = j := by omega
    have ecT : cT cs (x + (4 * (j / 4) + j % 4)) = cT cs (x + j) := by rw [ea]
    rw [ecT] at hst
    -- one step, with the character
    have stp : ∀ c : Int32, c = nI (cT cs (x + j)) → ∃ M2, F_L_feeds_24 N k8 n (ksI M1 v (j / 4) ((kI M1 v (j / 4) <<< (8 &&& 31)) ||| c)) 1 s x2 (nI x) v (nI (j + 1)) = F_L_feeds_24 N k8 (n + 1 - (d + 1)) M2 1 s x2 (nI x) v (nI 20) ∧ M2.1 = M.1 ∧ (∀ a i, kR M2 a i = kR M a i) ∧ (∀ a i, a ≠ v → kI M2 a i = kI M a i) ∧ ∀ i, i < 5 → kI M2 v i = nI (pkv (fun y => cT cs (x + y)) (4 * i) 4) := by
      intro c hcc
      rw [show n + 1 - (d + 1) = n - d by omega]
      refine ih (j + 1) n _ (by omega) (by omega) h1 h2 (fun a i ha => ?_) (fun i hi => ?_)
      · rw [z_II, if_neg (fun z => ha z.1)]
        exact h3 a i ha
      · rw [z_II]
        by_cases z : i = j / 4
        · rw [if_pos ⟨rfl, z⟩, z, ev, hcc, hst, show min 4 (j + 1 - 4 * (j / 4)) = j % 4 + 1 by omega]
        · rw [if_neg (fun y => z y.2), h4 i hi]
          congr 2
          omega
    rw [F_L_feeds_24]
    rw [if_pos (show nI j < 20 from by rw [show (20 : Int32) = nI 20 from rfl, nI_ltI (by omega) (by decide)]; omega)]
    rw [show (!((4 : Int32) == 0)) = true from by decide, kg_t, kg_t, ej, k1, kg_t, hs1.1.1, kg_t, st_len hs1, Option.bind_some, nI_add, kx_nI (by omega)]
    by_cases cl : x + j < cs.length
    · rw [if_pos ((nI_ltI (by omega) (by omega)).mpr cl), kg_t, st_ch hs1 (fun i hi => (hc i hi).2) cl (by omega), Option.bind_some, kg_t, kl_v, kl_v, nI_1]
      refine stp _ ?_
      unfold cT
      rw [if_pos cl]
    · rw [if_neg (fun z => cl ((nI_ltI (by omega) (by omega)).mp z)), kg_t, kl_v, kl_v, nI_1]
      refine stp _ ?_
      unfold cT
      rw [if_neg cl]
      rfl
theorem CT.append {I : kInts} {L : kLngs} {Mb : SMem} {m : Nat} {T f : Nat → Nat} (h : CT I m T) (hm : m + 20 ≤ 800) (hf : ∀ y, 1 ≤ f y ∧ f y < 128) (hT : ∀ k, k < m → T k = f k) (hN : 100 < N) : ∃ I', F_X11_append N (wm Mb I L) 1 (nI (pkv (fun y => f (m + y)) 0 4)) (nI (pkv (fun y => f (m + y)) 4 4)) (nI (pkv (fun y => f (m + y)) 8 4)) (nI (pkv (fun y => f (m + y)) 12 4)) (nI (pkv (fun y => f (m + y)) 16 4)) = some (nI (m + 20), wm Mb I' L) ∧ CT I' (m + 20) f ∧ CFt I I' := by
  have fo : ∀ p, ∀ k, k < 4 → 1 ≤ f (m + (p + k)) ∧ f (m + (p + k)) < 128 := fun p k _ => hf _
  obtain ⟨c0, -⟩ := ad4_pk (f := fun y => f (m + y)) (p := 0) (fo 0) (m, T)
  obtain ⟨c1, -⟩ := ad4_pk (f := fun y => f (m + y)) (p := 4) (fo 4) (m, T)
  obtain ⟨c2, -⟩ := ad4_pk (f := fun y => f (m + y)) (p := 8) (fo 8) (m, T)
  obtain ⟨c3, -⟩ := ad4_pk (f := fun y => f (m + y)) (p := 12) (fo 12) (m, T)
  obtain ⟨c4, -⟩ := ad4_pk (f := fun y => f (m + y)) (p := 16) (fo 16) (m, T)
  obtain ⟨I1, I2, I3, I4, I5, ⟨a1, a2, a3, a4, a5⟩, a6, a7⟩ := cx_add5 (Mb := Mb) (N := N) (L := L) (p := (m, T)) (a := nI (pkv (fun y => f (m + y)) 0 4)) (b := nI (pkv (fun y => f (m + y)) 4 4)) (c := nI (pkv (fun y => f (m + y)) 8 4)) (d := nI (pkv (fun y => f (m + y)) 12 4)) (e := nI (pkv (fun y => f (m + y)) 16 4)) h (by unfold ct5; rw [c0, c1, c2, c3, c4]; show m + (4 + 4 + 4 + 4 + 4) ≤ 800; omega) hN
  unfold ad5 at a6
  obtain ⟨-, n0, t0⟩ := ad4_pk (f := fun y => f (m + y)) (p := 0) (fo 0) (m, T)
  obtain ⟨-, n1, t1⟩ := ad4_pk (f := fun y => f (m + y)) (p := 4) (fo 4) (ad4 (m, T) (nI (pkv (fun y => f (m + y)) 0 4)))
  obtain ⟨-, n2, t2⟩ := ad4_pk (f := fun y => f (m + y)) (p := 8) (fo 8) (ad4 (ad4 (m, T) (nI (pkv (fun y => f (m + y)) 0 4))) (nI (pkv (fun y => f (m + y)) 4 4)))
  obtain ⟨-, n3, t3⟩ := ad4_pk (f := fun y => f (m + y)) (p := 12) (fo 12) (ad4 (ad4 (ad4 (m, T) (nI (pkv (fun y => f (m + y)) 0 4))) (nI (pkv (fun y => f (m + y)) 4 4))) (nI (pkv (fun y => f (m + y)) 8 4)))
  obtain ⟨-, n4, t4⟩ := ad4_pk (f := fun y => f (m + y)) (p := 16) (fo 16) (ad4 (ad4 (ad4 (ad4 (m, T) (nI (pkv (fun y => f (m + y)) 0 4))) (nI (pkv (fun y => f (m + y)) 4 4))) (nI (pkv (fun y => f (m + y)) 8 4))) (nI (pkv (fun y => f (m + y)) 12 4)))
  have hm0 : ((m, T) : Nat × (Nat → Nat)).1 = m := rfl
  have en : (ad4 (ad4 (ad4 (ad4 (ad4 (m, T) (nI (pkv (fun y => f (m + y)) 0 4))) (nI (pkv (fun y => f (m + y)) 4 4))) (nI (pkv (fun y => f (m + y)) 8 4))) (nI (pkv (fun y => f (m + y)) 12 4))) (nI (pkv (fun y => f (m + y)) 16 4))).1 = m + 20 := by rw [n4, n3, n2, n1, n0]
  rw [en] at a6
  have hC : CT I5 (m + 20) f := by
    refine ⟨a6.1, fun k hk => (a6.2 k hk).trans ?_⟩
    congr 1
    rw [t4, n3, n2, n1, n0, hm0]
    by_cases z4 : m + 4 + 4 + 4 + 4 ≤ k
    · rw [if_pos (by omega)]
      show f (m + (16 + (k - (m + 4 + 4 + 4 + 4)))) = f k
      congr 1
      omega
    · rw [if_neg (by omega), t3, n2, n1, n0, hm0]
      by_cases z3 : m + 4 + 4 + 4 ≤ k
      · rw [if_pos (by omega)]
        show f (m + (12 + (k - (m + 4 + 4 + 4)))) = f k
        congr 1
        omega
      · rw [if_neg (by omega), t2, n1, n0, hm0]
        by_cases z2 : m + 4 + 4 ≤ k
        · rw [if_pos (by omega)]
          show f (m + (8 + (k - (m + 4 + 4)))) = f k
          congr 1
          omega
        · rw [if_neg (by omega), t1, n0, hm0]
          by_cases z1 : m + 4 ≤ k
          · rw [if_pos (by omega)]
            show f (m + (4 + (k - (m + 4)))) = f k
            congr 1
            omega
          · rw [if_neg (by omega), t0, hm0]
            by_cases z0 : m ≤ k
            · rw [if_pos (by omega)]
              show f (m + (0 + (k - m))) = f k
              congr 1
              omega
            · rw [if_neg (by omega)]
              exact hT k (by omega)
  refine ⟨I5, ?_, hC, a7⟩
  have ec : ∀ x, F_X11_bytesIn N (wm Mb I L) x = some (nI (ct x)) := fun x => cx_bytes _ x hN
  have e20 : nI 4 + nI 4 + nI 4 + nI 4 + nI 4 = nI 20 := by decide
  have h8 : ¬ (800 : Int32) < nI m + nI 20 := by
    rw [nI_add, show (800 : Int32) = nI 800 from rfl, nI_ltI (by decide) (by omega)]
    omega
  unfold F_X11_append
  simp only [wm_kR, wm_kt, wm_kn, wm_kin, wm_kL, wm_kI, wm_ksI, wm_ksL, wm_kJ, wm_ksJ, kg_t, kl_v, Option.bind_some, ec, c0, c1, c2, c3, c4, e20, x1k, x10, t28, h.1, if_neg h8, a1, a2, a3, a4, a5, hC.1]
theorem lw_f8 (hN : 1000 < N) (hc : ∀ i, i < cs.length → 1 ≤ cs.getD i 0 ∧ cs.getD i 0 < 128) (hl : cs.length ≤ 340) : ∀ (d m n : Nat) (M : kMem), SMp M → STx M s cs → CT M.2.1 (20 * m) (cT cs) → cs.length ≤ 20 * m + 20 * d → 20 * m ≤ cs.length + 20 → d < n → ∃ M', F_L_feeds_8 N n M 1 s 0 (nI (20 * m)) = some (1, M') ∧ CT M'.2.1 cs.length (cT cs) ∧ Fq M M' (6 * d) := by
  intro d
  induction d with
  | zero =>
    intro m n M hS hs hT h1 h2 hn
    obtain ⟨n, rfl⟩ : ∃ n', n = n' + 1 := ⟨n - 1, by omega⟩
    unfold F_L_feeds_8 F_X11_truncate
    have k11 : kt M 1 11 = true := hS.kt1 (by decide) (by decide)
    have e10 : kR M 1 0 = 2 := hS.2 1 0 (by decide)
    have k28 : kt M 2 8 = true := hS.kt1 (by decide) (by decide)
    have e1 : kI M 2 1 = nI (20 * m) := hT.1
    rw [hs.1.1, kg_t, st_len hs, Option.bind_some, if_neg (by rw [nI_ltI (by omega) (by omega)]; omega), if_pos rfl, kg_t, Option.bind_some, k11, kg_t, kg_t, e10, k28, kg_t, e1, c_rng M (nI_pos (by omega)) (by rw [nI_ltI (by omega) (by omega)]; omega), Option.bind_some, k11, kg_t, e10, k28, kg_t, kl_v, ksm2 (by rfl), Option.bind_some]
    have hs2 : STx (ksI M 2 1 (nI cs.length)) s cs := by
      obtain ⟨⟨g1, g2⟩, g3, g4, g5⟩ := hs
      have n1 : s ≠ 2 := kt_ne g1 k28 (by decide)
      have n2 : kR M s 0 ≠ 2 := kt_ne g3 k28 (by decide)
      refine ⟨⟨g1, ?_⟩, g3, g4, fun i hi => ?_⟩
      · rw [z_II, if_neg (fun z => n1 z.1)]; exact g2
      · show kI (ksI M 2 1 (nI cs.length)) (kR M s 0) i = _
        rw [z_II, if_neg (fun z => n2 z.1)]; exact g5 i hi
    simp only [z_tI, hs.1.1, kg_t]
    rw [st_len hs2, Option.bind_some, if_pos rfl]
    refine ⟨_, rfl, ⟨?_, fun k hk => ?_⟩, ⟨⟨[], by show M.1 = M.1 ++ []; simp, by simp⟩, fun _ _ _ => rfl, fun a j ha h5 h6 => ?_⟩⟩
    · show kI (ksI M 2 1 (nI cs.length)) 2 1 = _
      rw [z_II, if_pos ⟨rfl, rfl⟩]
    · show kI (ksI M 2 1 (nI cs.length)) 3 k = _
      rw [z_II, if_neg (fun z => absurd z.1 (by decide))]
      exact hT.2 k (by omega)
    · rw [z_II, if_neg h5]
  | succ d ih =>
    intro m n M hS hs hT h1 h2 hn
    by_cases c : 20 * m < cs.length
    · obtain ⟨n, rfl⟩ : ∃ n', n = n' + 1 := ⟨n - 1, by omega⟩
      unfold F_L_feeds_8
      rw [hs.1.1, kg_t, st_len hs, Option.bind_some, if_pos ((nI_ltI (by omega) (by omega)).mpr c)]
      rw [show (decide (0 ≤ (5 : Int32)) && decide ((5 : Int32).toNatClampNeg ≤ 60000)) = true from by decide, kg_t, kl_v, kl_v, show (5 : Int32).toNatClampNeg = 5 from by decide]
      have hlen := hS.len
      have o1 : Fq M (kNew M 13 5) 6 := ⟨⟨[(13, 5)], rfl, by simp⟩, fun a j ha => by rw [z_RN, if_neg (by omega)], fun a j ha _ _ => by rw [z_IN, if_neg (by omega)]⟩
      have hS1 := hS.fd o1
      have hs1 := hs.fd o1 hS
      have hv : kt (kNew M 13 5) (M.1.length + 1) 13 = true ∧ kn (kNew M 13 5) (M.1.length + 1) = 5 ∧ 539 < M.1.length + 1 := ⟨kt_newW, by unfold kn kcell kNew; simp, by omega⟩
      obtain ⟨M2, u1, u2, u3, u4, u5⟩ := lw_f24 (N := N) hS1 hs1 hc hl (x := 20 * m) (by omega) (fun M a0 a1 x2 x3 => F_L_feeds_8 N n M a0 a1 x2 x3) hv 0 20 0 N (kNew M 13 5) (by omega) (by omega) rfl (fun _ _ => rfl) (fun _ _ _ => rfl) (fun i hi => by
        rw [z_IN, if_pos rfl, show min 4 (0 - 4 * i) = 0 by omega]
        rfl)
      rw [show nI 0 = 0 from rfl] at u1
      rw [u1]
      have hw := hv.2.2
      have o2 : Fq M M2 6 := by
        refine ⟨⟨[(13, 5)], u2, by simp⟩, fun a j ha => ?_, fun a j ha h5 h6 => ?_⟩
        · rw [u3, z_RN, if_neg (by omega)]
        · rw [u4 a j (by omega), z_IN, if_neg (by omega)]
      have hS2 := hS.fd o2
      have hs2 := hs.fd o2 hS
      have hT2 : CT M2.2.1 (20 * m) (cT cs) := ⟨((u4 2 1 (by omega)).trans (by rw [z_IN, if_neg (by omega)]; rfl)).trans hT.1, fun k hk => ((u4 3 k (by omega)).trans (by rw [z_IN, if_neg (by omega)]; rfl)).trans (hT.2 k hk)⟩
      obtain ⟨I', w1, w2, w3⟩ := CT.append (N := N) (L := M2.2.2.2) (Mb := ⟨M2, hS2⟩) (f := cT cs) hT2 (by omega) (cT_ok hc) (fun _ _ => rfl) (by omega)
      have w1' : F_X11_append N M2 1 (nI (pkv (fun y => cT cs (20 * m + y)) 0 4)) (nI (pkv (fun y => cT cs (20 * m + y)) 4 4)) (nI (pkv (fun y => cT cs (20 * m + y)) 8 4)) (nI (pkv (fun y => cT cs (20 * m + y)) 12 4)) (nI (pkv (fun y => cT cs (20 * m + y)) 16 4)) = some (nI (20 * m + 20), wm M2 I' M2.2.2.2) := w1
      obtain ⟨n', hn'⟩ : ∃ n', N - 20 = n' + 1 := ⟨N - 21, by omega⟩
      have hk2 : kt M2 (M.1.length + 1) 13 = true := by rw [kt_cg u2]; exact hv.1
      have hn2 : kn M2 (M.1.length + 1) = 5 := by rw [kn_cg u2]; exact hv.2.1
      have kin5 : ∀ i, i < 5 → kin M2 (M.1.length + 1) 13 (nI i) = true := fun i hi => kin_nI hk2 hn2 hi (by decide)
      have q0 := kin5 0 (by omega)
      have q1 := kin5 1 (by omega)
      have q2 := kin5 2 (by omega)
      have q3 := kin5 3 (by omega)
      have q4 := kin5 4 (by omega)
      rw [hn', F_L_feeds_24, if_neg (show ¬ nI 20 < 20 from by decide)]
      rw [show kin M2 (M.1.length + 1) 13 0 = true from q0, kg_t, show kin M2 (M.1.length + 1) 13 1 = true from q1, kg_t, show kin M2 (M.1.length + 1) 13 2 = true from q2, kg_t, show kin M2 (M.1.length + 1) 13 3 = true from q3, kg_t, show kin M2 (M.1.length + 1) 13 4 = true from q4, kg_t]
      rw [show kx 0 = 0 by decide, show kx 1 = 1 by decide, show kx 2 = 2 by decide, show kx 3 = 3 by decide, show kx 4 = 4 by decide, u5 0 (by omega), u5 1 (by omega), u5 2 (by omega), u5 3 (by omega), u5 4 (by omega)]
      have e20 : nI (20 * m) + 20 = nI (20 * m + 20) := by rw [show (20 : Int32) = nI 20 from rfl, nI_add]
      rw [hS2.k11, kg_t, w1', ksm2 (by rfl), Option.bind_some, e20, if_pos rfl, kl_v]
      have o3 : Fq M2 (wm M2 I' M2.2.2.2) 0 := ⟨⟨[], by show M2.1 = M2.1 ++ []; simp, by simp⟩, fun _ _ _ => rfl, fun a j _ h5 h6 => w3 a j h5 h6⟩
      have hS3 : SMp (wm M2 I' M2.2.2.2) := hS2
      obtain ⟨M', x1, x2, x3⟩ := ih (m + 1) n (wm M2 I' M2.2.2.2) hS3 (hs2.fd o3 hS2) w2 (by omega) (by omega) (by omega)
      rw [show 20 * m + 20 = 20 * (m + 1) by omega]
      exact ⟨M', x1, x2, ((o2.trans o3).trans x3).le (by omega)⟩
    · obtain ⟨M', u1, u2, u3⟩ := ih m n M hS hs hT (by omega) h2 (by omega)
      exact ⟨M', u1, u2, u3.le (by omega)⟩
end
