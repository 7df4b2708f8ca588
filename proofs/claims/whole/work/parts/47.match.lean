/-! seal and open: the class and the reference -/
theorem IvR.no {i0 i1 i2 : Int32} {gi : Nat → Nat} (h : IvR i0 i1 i2 gi) (nu : Int64) (gn : Nat → Nat) : IvR i0 (i1 ^^^ (uL nu 32).toInt32) (i2 ^^^ nu.toInt32) (prN gi nu gn) := by
  obtain ⟨h0, h1, h2⟩ := h
  obtain ⟨q0, q1, q2⟩ := prN_bw gi nu gn
  exact ⟨by rw [q0]; exact h0, by rw [q1, h1], by rw [q2, h2]⟩
theorem ccN_B {k no : Nat → Nat} {n : Int32} {w t : Nat → Int32} {u : Nat → Nat} (h : By u) : By (ccN k no n w t u) := by
  unfold ccN
  exact cStr_B _ _ 64 _ h
/-- the key's table, as the class keeps it -/
abbrev TBk (rk : Nat → Int32) (rn : Nat) (th tl : Nat → Int64) : Prop := TB th tl (gpr (joinL (aesI rk rn 0 0 0 0).1 (aesI rk rn 0 0 0 0).2.1, joinL (aesI rk rn 0 0 0 0).2.2.1 (aesI rk rn 0 0 0 0).2.2.2))
theorem sealG_R {rk : Nat → Int32} {gr : Nat → Nat} {rn : Nat} {n0 n1 n2 tu : Int32} {no gt gs gm gx gz : Nat → Nat} (gg : Nat → Nat) {th tl : Nat → Int64} {f1 f2 nf : Nat → Int32} {lt lz : Nat} {b : Q4}
    (hN : IvR n0 n1 n2 no) (hr : By gr) (hk : rkB rk gr (4 * (rn + 1))) (h1 : 1 ≤ rn) (hn : By no) (ht : By gt) (hs : By gs) (hm : By gm) (hx : By gx) (hz : By gz) (hg : By gg) (hT : TBk rk rn th tl) (hf1 : RB f1 lt gt) (hf2 : RB f2 lz gz) (l1 : lt ≤ 20000) (l2 : lz ≤ 20000)
    {X : Int32 × Int32 × Q4 × (Nat → Int32)} (hX : X = iter (gtt rk rn n0 n1 n2 f1 lt (lt + 16)) lt (1, tu, b, nf)) {T : Q4} (hTg : T = gtag rk rn n0 n1 n2 (gfin th tl f2 lz X.2.2.2 (lt + 16) lt))
    {C : N3} (hC : C = cvAI sxT gr rn no gt lt ((lt + 15) / 16) (gs, gm, gx)) {K : N2} (hK : K = agK sxT gr rn C.1 C.2.1) {R : Int64 × Int64} (hR : R = agR (m8 K.1 0 16) (m8 K.1 8 16) gz lz C.2.2 lt) {G : Nat → Nat} (hG : G = iter (tgA (agT sxT gr rn no K).1 R.1 R.2) 16 gg) :
    RB (wtag X.2.2.2 (lt + 16) lt T.1 T.2.1 T.2.2.1 T.2.2.2) (lt + 16) (iter (slS G lt) 16 C.2.2) ∧ X.2.1 = tu + nI ((lt + 15) / 16) ∧ By (agT sxT gr rn no K).1 ∧ By (agT sxT gr rn no K).2 ∧ By G ∧ By (iter (slS G lt) 16 C.2.2) := by
  obtain ⟨rfl, rfl, rfl⟩ := hN
  obtain ⟨q1, q2⟩ := textA (len2 := lt + 16) (nf := nf) (tu := tu) sx_B sxT_B hr hk h1 hn ht hs hm hx b hf1 (Nat.le_refl lt) (by omega) (by omega) (by omega)
  have bC : B3 C := by rw [hC]; exact cvAI_B sxT_B hr hn ht rn lt _ ⟨hs, hm, hx⟩
  have bK : By K.1 ∧ By K.2 := by rw [hK]; exact agK_B sxT_B hr bC.1 bC.2.1 rn
  have bT := agT_B sxT_B hr hn bK rn
  have bG : By G := by rw [hG]; exact tgA_B bT.1 _ _ 16 _ hg
  rw [← hX, ← hC] at q1
  rw [← hX] at q2
  have e : T = st16 G := by
    rw [hTg, hG, hR, hK]
    exact tagA sx_B sxT_B hr hk h1 hn bC.1 bC.2.1 hz bC.2.2 hT hf2 q1 (by omega) (by omega) (by omega)
  refine ⟨?_, q2, bT.1, bT.2, bG, slS_B bG lt 16 _ bC.2.2⟩
  rw [e]
  exact wtag_RB bG (by omega) q1
theorem openG_tag {rk : Nat → Int32} {gr : Nat → Nat} {rn : Nat} {n0 n1 n2 : Int32} {no gt gs gm gz : Nat → Nat} (gg : Nat → Nat) {th tl : Nat → Int64} {f1 f2 : Nat → Int32} {z lz : Nat}
    (hN : IvR n0 n1 n2 no) (hr : By gr) (hk : rkB rk gr (4 * (rn + 1))) (h1 : 1 ≤ rn) (hn : By no) (ht : By gt) (hs : By gs) (hm : By gm) (hz : By gz) (hg : By gg) (hT : TBk rk rn th tl) (hf1 : RB f1 (z + 16) gt) (hf2 : RB f2 lz gz) (l1 : z + 16 ≤ 20000) (l2 : lz ≤ 20000)
    {T : Q4} (hTg : T = gtag rk rn n0 n1 n2 (gfin th tl f2 lz f1 (z + 16) z))
    {K : N2} (hK : K = agK sxT gr rn gs gm) {R : Int64 × Int64} (hR : R = agR (m8 K.1 0 16) (m8 K.1 8 16) gz lz gt z) {G : Nat → Nat} (hG : G = iter (tgA (agT sxT gr rn no K).1 R.1 R.2) 16 gg) :
    (dtag f1 (z + 16) z T.1 T.2.1 T.2.2.1 T.2.2.2 = 0 ↔ iter (opS G gt z) 16 0 = 0) ∧ By (agT sxT gr rn no K).1 ∧ By (agT sxT gr rn no K).2 ∧ By G := by
  obtain ⟨rfl, rfl, rfl⟩ := hN
  have bK : By K.1 ∧ By K.2 := by rw [hK]; exact agK_B sxT_B hr hs hm rn
  have bT := agT_B sxT_B hr hn bK rn
  have bG : By G := by rw [hG]; exact tgA_B bT.1 _ _ 16 _ hg
  have e : T = st16 G := by
    rw [hTg, hG, hR, hK]
    exact tagA sx_B sxT_B hr hk h1 hn hs hm hz ht hT hf2 (hf1.mono (by omega)) (by omega) (by omega) (by omega)
  refine ⟨?_, bT.1, bT.2, bG⟩
  rw [e]
  exact dtag_eq bG ht (by omega) hf1
theorem openG_R {rk : Nat → Int32} {gr : Nat → Nat} {rn : Nat} {n0 n1 n2 tu : Int32} {no gt gs gm gx : Nat → Nat} {f1 nf : Nat → Int32} {z : Nat} {b : Q4}
    (hN : IvR n0 n1 n2 no) (hr : By gr) (hk : rkB rk gr (4 * (rn + 1))) (h1 : 1 ≤ rn) (hn : By no) (ht : By gt) (hs : By gs) (hm : By gm) (hx : By gx) (hf1 : RB f1 (z + 16) gt) (l1 : z + 16 ≤ 20000)
    {X : Int32 × Int32 × Q4 × (Nat → Int32)} (hX : X = iter (gtt rk rn n0 n1 n2 f1 (z + 16) z) z (1, tu, b, nf)) {C : N3} (hC : C = cvAI sxT gr rn no gt z ((z + 15) / 16) (gs, gm, gx)) :
    RB X.2.2.2 z C.2.2 ∧ X.2.1 = tu + nI ((z + 15) / 16) ∧ By C.1 ∧ By C.2.1 ∧ By C.2.2 := by
  obtain ⟨rfl, rfl, rfl⟩ := hN
  obtain ⟨q1, q2⟩ := textA (len2 := z) (nf := nf) (tu := tu) sx_B sxT_B hr hk h1 hn ht hs hm hx b (hf1.mono (Nat.le_add_right z 16)) (Nat.le_add_right z 16) (Nat.le_refl z) (by omega) (by omega)
  have bC : B3 C := by rw [hC]; exact cvAI_B sxT_B hr hn ht rn z _ ⟨hs, hm, hx⟩
  rw [hX, hC]
  rw [hC] at bC
  exact ⟨q1, q2, bC.1, bC.2.1, bC.2.2⟩
theorem sealH_R {sr sa bl : Nat → Int32} {gk : Nat → Nat} {n0 n1 n2 tu : Int32} {no gt gx gz gu ga gb gd gc gw : Nat → Nat} (gg : Nat → Nat) {wd td : Nat → Int32} {P : T5} {f1 f2 nf : Nat → Int32} {lt lz : Nat}
    (hN : IvR n0 n1 n2 no) (hs : SR sr gk) (hn : By no) (ht : By gt) (hx : By gx) (hz : By gz) (hu : By gu) (ha : By ga) (hb : By gb) (hd : By gd) (hc : By gc) (hw : By gw) (hg : By gg) (hf1 : RB f1 lt gt) (hf2 : RB f2 lz gz) (l1 : lt ≤ 20000) (l2 : lz ≤ 20000)
    {X : Int32 × Int32 × S3 × (Nat → Int32)} (hX : X = iter (ctt (i3 n0 n1 n2) f1 lt (lt + 16)) lt (0, tu, (sr, sa, bl), nf)) {W9 : S3} (hW : W9 = cblk (i3 n0 n1 n2) 0 (X.2.2.1.1, X.2.2.1.2.1, X.2.2.1.2.2)) {T : Q4} (hTg : T = htag W9.2.2 P f2 lz X.2.2.2 (lt + 16) lt)
    {C : CH} (hC : C = cvCI gk no gt lt ((lt + 63) / 64) (wd, td, gu, gx)) {U : Nat → Nat} (hU : U = ccN gk no 0 C.1 C.2.1 C.2.2.1) {G : Nat → Nat} (hG : G = tcG (tcT U gb gz lz ga gd gc C.2.2.2 lt) U gw gg) :
    RB (wtag X.2.2.2 (lt + 16) lt T.1 T.2.1 T.2.2.1 T.2.2.2) (lt + 16) (iter (slS G lt) 16 C.2.2.2) ∧ X.2.1 = tu + nI ((lt + 63) / 64) ∧ SR W9.1 gk ∧ By U ∧ By (tcT U gb gz lz ga gd gc C.2.2.2 lt) ∧ By (tcF U gb) ∧ By (tcD U gb gz lz ga gd gc C.2.2.2 lt) ∧ By (tcC U gb gz lz ga gd gc C.2.2.2 lt) ∧ By G ∧ By (iter (mkS U) 17 gw) ∧ By (iter (slS G lt) 16 C.2.2.2) := by
  have hN9 : (i3 n0 n1 n2) 0 = bw no 0 ∧ (i3 n0 n1 n2) 1 = bw no 4 ∧ (i3 n0 n1 n2) 2 = bw no 8 := hN
  obtain ⟨q1, q2, q3⟩ := textC (len2 := lt + 16) (nf := nf) (tu := tu) (sa := sa) (bl := bl) hn ht wd td gu gx hN9 hs hf1 (Nat.le_refl lt) (by omega) (by omega) (by omega)
  have bC : By C.2.2.1 ∧ By C.2.2.2 := by rw [hC]; exact cvCI_B ht lt _ hu hx
  have bU : By U := by rw [hU]; exact ccN_B bC.1
  have bT := tcT_B bU hb hz ha hd hc bC.2 lz lt
  have bG : By G := by rw [hG]; exact tcG_B bT bU hw hg
  rw [← hX, ← hC] at q1
  rw [← hX] at q2 q3
  have e : T = st16 G := by
    rw [hTg, hG]
    refine tagC bU (fun k hk => ?_) hb hz ha hd hc bC.2 hw hg P hf2 q1 (by omega) (by omega) (by omega)
    rw [hW, hU]
    exact otk q3 hn hN9 _ _ _ hk
  refine ⟨?_, q2, ?_, bU, bT, tcF_B bU hb, tcD_B bU hb hz ha hd hc bC.2 lz lt, tcC_B bU hb hz ha hd hc bC.2 lz lt, bG, mkS_B bU 17 _ hw, slS_B bG lt 16 _ bC.2⟩
  · rw [e]
    exact wtag_RB bG (by omega) q1
  · rw [hW]
    exact cinit_SR q3 0 _
theorem openH_tag {sr sa bl : Nat → Int32} {gk : Nat → Nat} {n0 n1 n2 : Int32} {no gt gz gu ga gb gd gc gw : Nat → Nat} (gg : Nat → Nat) {wd td : Nat → Int32} {P : T5} {f1 f2 : Nat → Int32} {z lz : Nat}
    (hN : IvR n0 n1 n2 no) (hs : SR sr gk) (hn : By no) (ht : By gt) (hz : By gz) (hu : By gu) (ha : By ga) (hb : By gb) (hd : By gd) (hc : By gc) (hw : By gw) (hg : By gg) (hf1 : RB f1 (z + 16) gt) (hf2 : RB f2 lz gz) (l1 : z + 16 ≤ 20000) (l2 : lz ≤ 20000)
    {W9 : S3} (hW : W9 = cblk (i3 n0 n1 n2) 0 (sr, sa, bl)) {T : Q4} (hTg : T = htag W9.2.2 P f2 lz f1 (z + 16) z)
    {U : Nat → Nat} (hU : U = ccN gk no 0 wd td gu) {G : Nat → Nat} (hG : G = tcG (tcT U gb gz lz ga gd gc gt z) U gw gg) :
    (dtag f1 (z + 16) z T.1 T.2.1 T.2.2.1 T.2.2.2 = 0 ↔ iter (opS G gt z) 16 0 = 0) ∧ SR W9.1 gk ∧ By U ∧ By (tcT U gb gz lz ga gd gc gt z) ∧ By (tcF U gb) ∧ By (tcD U gb gz lz ga gd gc gt z) ∧ By (tcC U gb gz lz ga gd gc gt z) ∧ By G ∧ By (iter (mkS U) 17 gw) := by
  have hN9 : (i3 n0 n1 n2) 0 = bw no 0 ∧ (i3 n0 n1 n2) 1 = bw no 4 ∧ (i3 n0 n1 n2) 2 = bw no 8 := hN
  have bU : By U := by rw [hU]; exact ccN_B hu
  have bT := tcT_B bU hb hz ha hd hc ht lz z
  have bG : By G := by rw [hG]; exact tcG_B bT bU hw hg
  have e : T = st16 G := by
    rw [hTg, hG]
    refine tagC bU (fun k hk => ?_) hb hz ha hd hc ht hw hg P hf2 (hf1.mono (by omega)) (by omega) (by omega) (by omega)
    rw [hW, hU]
    exact otk hs hn hN9 _ _ _ hk
  refine ⟨?_, ?_, bU, bT, tcF_B bU hb, tcD_B bU hb hz ha hd hc ht lz z, tcC_B bU hb hz ha hd hc ht lz z, bG, mkS_B bU 17 _ hw⟩
  · rw [e]
    exact dtag_eq bG ht (by omega) hf1
  · rw [hW]
    exact cinit_SR hs 0 _
theorem openH_R {sr sa bl : Nat → Int32} {gk : Nat → Nat} {n0 n1 n2 tu : Int32} {no gt gx gu : Nat → Nat} {wd td : Nat → Int32} {f1 nf : Nat → Int32} {z : Nat}
    (hN : IvR n0 n1 n2 no) (hs : SR sr gk) (hn : By no) (ht : By gt) (hx : By gx) (hu : By gu) (hf1 : RB f1 (z + 16) gt) (l1 : z + 16 ≤ 20000)
    {X : Int32 × Int32 × S3 × (Nat → Int32)} (hX : X = iter (ctt (i3 n0 n1 n2) f1 (z + 16) z) z (0, tu, (sr, sa, bl), nf)) {C : CH} (hC : C = cvCI gk no gt z ((z + 63) / 64) (wd, td, gu, gx)) :
    RB X.2.2.2 z C.2.2.2 ∧ X.2.1 = tu + nI ((z + 63) / 64) ∧ SR X.2.2.1.1 gk ∧ By C.2.2.1 ∧ By C.2.2.2 := by
  have hN9 : (i3 n0 n1 n2) 0 = bw no 0 ∧ (i3 n0 n1 n2) 1 = bw no 4 ∧ (i3 n0 n1 n2) 2 = bw no 8 := hN
  obtain ⟨q1, q2, q3⟩ := textC (len2 := z) (nf := nf) (tu := tu) (sa := sa) (bl := bl) hn ht wd td gu gx hN9 hs (hf1.mono (Nat.le_add_right z 16)) (Nat.le_add_right z 16) (Nat.le_refl z) (by omega) (by omega)
  have bC := cvCI_B (k := gk) (no := no) ht z ((z + 63) / 64) (q := (wd, td, gu, gx)) hu hx
  rw [hX, hC]
  exact ⟨q1, q2, q3, bC.1, bC.2⟩
/-- the blocks -/
theorem bk_sG {bk g h x : Int32} {n : Nat} (e : bk = g + h) (hx : x = g + nI n) : bk + nI n + 1 = (x + 1) + h := by
  rw [e, hx, Int32.add_assoc g h, Int32.add_comm h, ← Int32.add_assoc g, Int32.add_assoc (g + nI n) h, Int32.add_comm h 1, ← Int32.add_assoc]
theorem bk_sH {bk g h x : Int32} {n : Nat} (e : bk = g + h) (hx : x = h + nI n) : bk + nI n + 1 = g + (x + 1) := by
  rw [e, hx]
  simp only [Int32.add_assoc]
theorem bk_oG {bk g h x : Int32} {n : Nat} (e : bk = g + h) (hx : x = g + 1 + nI n) : bk + 1 + nI n = x + h := by
  rw [e, hx, Int32.add_assoc g h, Int32.add_comm h 1, ← Int32.add_assoc g, Int32.add_assoc (g + 1) h, Int32.add_comm h, ← Int32.add_assoc]
theorem bk_oH {bk g h x : Int32} {n : Nat} (e : bk = g + h) (hx : x = h + 1 + nI n) : bk + 1 + nI n = g + x := by
  rw [e, hx]
  simp only [Int32.add_assoc]
theorem ci_G {ci : Int32} (h : ci = 0 ∨ ci = 1) : 0 ≤ ci ∧ ¬ ci = 2 := by
  rcases h with rfl | rfl <;> decide
