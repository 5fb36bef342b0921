set_option maxHeartbeats 8000000 in
set_option maxRecDepth 100000 in
/-- THE LAW, from its entry -/
theorem whole_start {p : Program} {e : Env} {s : State} {m : MethodId} {below : List Frame} {meth : Method} {c : Code} (l : Launch) (hflags : l.flags = flags0) {b L : Nat} {xs : Nat → Int32} (hL : L ≤ 3072) (C0 : lw_At p s m meth c b L xs) : W p l e room_1 s m #[Value.ref b] below meth c s.heap [] 0 0 (lw_Z below #[Value.ref b] s) (entryFrame m ([Value.ref b] : List Value).toArray 4) := by
  obtain ⟨hx, hb, hr, hml, hown, hts0, hX, hbl, hlocks, hgv⟩ := id C0
  have hts := fun w h => hts0 w (wsL_law_in w h)
  have hA : ∀ q : Nat, s.heap.size ≤ q → (fun q : Nat => s.heap.size ≤ q) q := fun _ h => h
  obtain ⟨c0, iS0, hKn0⟩ := u_known (C := RX0) (T := TX0) (N := 5) (n := 5) hts0 inX0 (hts0 (.instantiable RX0 5) (List.mem_of_getElem? (i := 87) rfl))
  obtain ⟨c1, iS1, hKn1⟩ := u_known (C := RX1) (T := TX1) (N := 11) (n := 11) hts0 inX1 (hts0 (.instantiable RX1 11) (List.mem_of_getElem? (i := 81) rfl))
  obtain ⟨c2, iS2, hKn2⟩ := u_known (C := RX2) (T := TX2) (N := 4) (n := 4) hts0 inX2 (hts0 (.instantiable RX2 4) (List.mem_of_getElem? (i := 124) rfl))
  obtain ⟨c3, iS3, hKn3⟩ := u_known (C := RX3) (T := TX3) (N := 6) (n := 6) hts0 inX3 (hts0 (.instantiable RX3 6) (List.mem_of_getElem? (i := 73) rfl))
  obtain ⟨c4, iS4, hKn4⟩ := u_known (C := RX4) (T := TX4) (N := 8) (n := 8) hts0 inX4 (hts0 (.instantiable RX4 8) (List.mem_of_getElem? (i := 496) rfl))
  obtain ⟨dC, dI, hKc⟩ : ∃ (dC : Nat → ClassId) (dI : Nat → Nat → Nat), ∀ (k : Nat) (q : vw_C), vwCl[k]? = some q → u_Kn s q.1 q.2.1 q.2.2 (dC k) (dI k) := by
    refine ⟨fun k => if k = 0 then c0 else if k = 1 then c1 else if k = 2 then c2 else if k = 3 then c3 else c4, fun k => if k = 0 then iS0 else if k = 1 then iS1 else if k = 2 then iS2 else if k = 3 then iS3 else iS4, ?_⟩
    intro k q hq
    match k, hq with
    | 0, hq => cases hq; exact hKn0
    | 1, hq => cases hq; exact hKn1
    | 2, hq => cases hq; exact hKn2
    | 3, hq => cases hq; exact hKn3
    | 4, hq => cases hq; exact hKn4
    | k + 5, hq => simp [vwCl] at hq
  obtain ⟨cA, hcA1, hcA2⟩ := arr_start (ty := .int) (hts0 (.arrayClass .int) (List.mem_of_getElem? (i := 122) rfl)) (fun C h => by cases h)
  obtain ⟨cZ, hcZ1, hcZ2⟩ := arr_start (ty := .boolean) (hts0 (.arrayClass .boolean) (List.mem_of_getElem? (i := 526) rfl)) (fun C h => by cases h)
  have hK : va_K (dC, dI) vwCl (tyA cA cZ) s := ⟨hKc, fun k q h => by
    match k, h with
    | 0, h => cases h; exact ⟨hcA1, hcA2⟩
    | 1, h => cases h; exact ⟨hcZ1, hcZ2⟩
    | k + 2, h => simp at h⟩
  have hN := nst_of hts0
  have hQ := stQ_start hts0 hgv (va_nm_int hcA2)
  have hCa : va_Nw clW s := va_Nw.of rfl (hts0 (.castable "[I" "java/lang/Cloneable") (List.mem_of_getElem? (i := 99) rfl))
  obtain ⟨D, hDe⟩ : ∃ D : va_G, D = (dC, dI) := ⟨_, rfl⟩
  rw [← hDe] at hK
  have hS : va_S (fun q : Nat => s.heap.size ≤ q) s.heap s.heap [] := va_S.rf
  have hP : va_P D vwCl [] s.heap := fun k q h => by simp at h
  have hD : va_D (fun q : Nat => s.heap.size ≤ q) [] := ⟨fun i j p q h => by simp at h, fun k q h => by simp at h⟩
  have hl := lv_entry ([.ref b]) (n := 4) (Nat.le_of_ble_eq_true rfl)
  rw [lg_entry_eq]
  generalize (lg_sl ([.ref b]) ++ List.replicate (4 - (lg_sl ([.ref b])).length) Slot.unset).toArray = ls at hl ⊢
  have hl : lv_has ls 4 [(0, .ref b)] := hl
  refine va_new (ci := 3) (fs := [.null, .null, .null, .null, .null, .int 0]) (C := RX3) (T := TX3) (N := 6) hx hb hts inlX3 tyX3 tyX3_ok hown (hts0 (.classLink RL 7 RX3) (List.mem_of_getElem? (i := 72) rfl)) (hts0 (.instantiable RX3 6) (List.mem_of_getElem? (i := 73) rfl)) (hts0 (.initialized RX3) (List.mem_of_getElem? (i := 65) rfl)) hK hP hD hS hA rfl (fun j hj => by rcases (show j = 0 ∨ j = 1 ∨ j = 2 ∨ j = 3 ∨ j = 4 ∨ j = 5 by omega) with rfl | rfl | rfl | rfl | rfl | rfl <;> rfl) (Nat.le_of_ble_eq_true rfl) (Nat.le_of_ble_eq_true rfl) dL_law_0 (fun aX H hP hD hS => ?_)
  have hP : va_P D vwCl ([(aX, .inr (3, [.null, .null, .null, .null, .null, .int 0]))]) H := hP
  have hD : va_D (fun q : Nat => s.heap.size ≤ q) ([(aX, .inr (3, [.null, .null, .null, .null, .null, .int 0]))]) := hD
  refine W.widen (k := 1) (n := 6) (Nat.le_of_ble_eq_true rfl) (Nat.le_of_ble_eq_true rfl) ?_
  refine lv_dup hx hb dL_law_3 rfl ?_
  refine kN (wr := ([] : va_W)) (rIS (As := []) (rest := [.ref aX]) (W0 := [(aX, .inr (3, [.null, .null, .null, .null, .null, .int 0]))]) ⟨hx, hb, hml, hown, hts⟩ (c_X3_init l D cA cZ aX H.size) (cwI 0 hts gL_law_X3_init rfl rfl rfl (hts0 (.initialized RX3) (List.mem_of_getElem? (i := 65) rfl)) (hts0 (.methodLink RL 9 yX3_init) (List.mem_of_getElem? (i := 74) rfl)) (hts0 (.instanceMethod yX3_init) (List.mem_of_getElem? (i := 75) rfl)) rfl (by decide +kernel) ⟨Nat.le_of_ble_eq_true rfl, Nat.le_of_ble_eq_true rfl⟩) hP hD hK hN hS hA hQ hCa ([0] : List Nat) rfl rfl rfl hl.1 rfl (Nat.le_of_ble_eq_true rfl) dL_law_4 ⟨Nat.le_of_ble_eq_true rfl, Nat.le_of_ble_eq_true rfl⟩) hP hD hS hA [0] [] rfl rfl rfl (by decide) (fun u H locs hP hD hS => ?_)
  obtain ⟨aP, aB, aR, aL, aF, aT, aU, aG, aE, aB1, aR1, aL1, aF1, aB2, aR2, aL2, aF2⟩ := u
  have hP : va_P D vwCl (LBw aX aB aB1 aB2 aT aP 0 ++ PLw aP aB aT 0 0 0 0 3 (-6) (-6) 0 (-6) ++ BKw cA aB aR aL aF 0 0 rA (fun _ => 0) (fun _ => 0) ++ TRw cA aT aU aG aE 0 (fun _ => 0) (fun _ => 0) (fun _ => 0) ++ BKw cA aB1 aR1 aL1 aF1 0 0 rA (fun _ => 0) (fun _ => 0) ++ BKw cA aB2 aR2 aL2 aF2 0 0 rA (fun _ => 0) (fun _ => 0)) H := hP
  have hD : va_D (fun q : Nat => s.heap.size ≤ q) (LBw aX aB aB1 aB2 aT aP 0 ++ PLw aP aB aT 0 0 0 0 3 (-6) (-6) 0 (-6) ++ BKw cA aB aR aL aF 0 0 rA (fun _ => 0) (fun _ => 0) ++ TRw cA aT aU aG aE 0 (fun _ => 0) (fun _ => 0) (fun _ => 0) ++ BKw cA aB1 aR1 aL1 aF1 0 0 rA (fun _ => 0) (fun _ => 0) ++ BKw cA aB2 aR2 aL2 aF2 0 0 rA (fun _ => 0) (fun _ => 0)) := hD
  refine W.widen (k := 18) (n := 1791) (Nat.le_of_ble_eq_true rfl) (Nat.le_of_ble_eq_true rfl) ?_
  refine lv_astore_n (lv' := [(1, .ref aX), (0, .ref b)]) hx hb dL_law_7 rfl hl (by decide) rfl (fun ls hl => ?_)
  refine va_new (ci := 4) (fs := [.null, .null, .null, .int 0, .int 0, .int 0, .int 0, .int 0]) (C := RX4) (T := TX4) (N := 8) hx hb hts inlX4 tyX4 tyX4_ok hown (hts0 (.classLink RL 10 RX4) (List.mem_of_getElem? (i := 495) rfl)) (hts0 (.instantiable RX4 8) (List.mem_of_getElem? (i := 496) rfl)) (hts0 (.initialized RX4) (List.mem_of_getElem? (i := 69) rfl)) hK hP hD hS hA rfl (fun j hj => by rcases (show j = 0 ∨ j = 1 ∨ j = 2 ∨ j = 3 ∨ j = 4 ∨ j = 5 ∨ j = 6 ∨ j = 7 by omega) with rfl | rfl | rfl | rfl | rfl | rfl | rfl | rfl <;> rfl) (Nat.le_of_ble_eq_true rfl) (Nat.le_of_ble_eq_true rfl) dL_law_8 (fun aM H hP hD hS => ?_)
  have hP : va_P D vwCl ((LBw aX aB aB1 aB2 aT aP 0 ++ PLw aP aB aT 0 0 0 0 3 (-6) (-6) 0 (-6) ++ BKw cA aB aR aL aF 0 0 rA (fun _ => 0) (fun _ => 0) ++ TRw cA aT aU aG aE 0 (fun _ => 0) (fun _ => 0) (fun _ => 0) ++ BKw cA aB1 aR1 aL1 aF1 0 0 rA (fun _ => 0) (fun _ => 0) ++ BKw cA aB2 aR2 aL2 aF2 0 0 rA (fun _ => 0) (fun _ => 0)) ++ [(aM, .inr (4, [.null, .null, .null, .int 0, .int 0, .int 0, .int 0, .int 0]))]) H := hP
  have hD : va_D (fun q : Nat => s.heap.size ≤ q) ((LBw aX aB aB1 aB2 aT aP 0 ++ PLw aP aB aT 0 0 0 0 3 (-6) (-6) 0 (-6) ++ BKw cA aB aR aL aF 0 0 rA (fun _ => 0) (fun _ => 0) ++ TRw cA aT aU aG aE 0 (fun _ => 0) (fun _ => 0) (fun _ => 0) ++ BKw cA aB1 aR1 aL1 aF1 0 0 rA (fun _ => 0) (fun _ => 0) ++ BKw cA aB2 aR2 aL2 aF2 0 0 rA (fun _ => 0) (fun _ => 0)) ++ [(aM, .inr (4, [.null, .null, .null, .int 0, .int 0, .int 0, .int 0, .int 0]))]) := hD
  refine W.widen (k := 19) (n := 1799) (Nat.le_of_ble_eq_true rfl) (Nat.le_of_ble_eq_true rfl) ?_
  refine lv_dup hx hb dL_law_11 rfl ?_
  refine kN (wr := LBw aX aB aB1 aB2 aT aP 0 ++ PLw aP aB aT 0 0 0 0 3 (-6) (-6) 0 (-6) ++ BKw cA aB aR aL aF 0 0 rA (fun _ => 0) (fun _ => 0) ++ TRw cA aT aU aG aE 0 (fun _ => 0) (fun _ => 0) (fun _ => 0) ++ BKw cA aB1 aR1 aL1 aF1 0 0 rA (fun _ => 0) (fun _ => 0) ++ BKw cA aB2 aR2 aL2 aF2 0 0 rA (fun _ => 0) (fun _ => 0)) (rI (As := []) (rest := [.ref aM]) (W0 := [(aM, .inr (4, [.null, .null, .null, .int 0, .int 0, .int 0, .int 0, .int 0]))]) ⟨hx, hb, hml, hown, hts⟩ (c_X4_init l D cA cZ aM H.size) (cwI 0 hts gL_law_X4_init rfl rfl rfl (hts0 (.initialized RX4) (List.mem_of_getElem? (i := 69) rfl)) (hts0 (.methodLink RL 12 yX4_init) (List.mem_of_getElem? (i := 497) rfl)) (hts0 (.instanceMethod yX4_init) (List.mem_of_getElem? (i := 498) rfl)) rfl (by decide +kernel) ⟨Nat.le_of_ble_eq_true rfl, Nat.le_of_ble_eq_true rfl⟩) hP hD hK hN ([18] : List Nat) rfl rfl rfl hl.1 rfl (Nat.le_of_ble_eq_true rfl) dL_law_12 ⟨Nat.le_of_ble_eq_true rfl, Nat.le_of_ble_eq_true rfl⟩) hP hD hS hA [18] [0, 1, 2, 3, 4, 5, 6, 7, 8, 9, 10, 11, 12, 13, 14, 15, 16, 17] rfl rfl rfl (by decide) (fun u H locs hP hD hS => ?_)
  obtain ⟨aS, aI, aK⟩ := u
  have hP : va_P D vwCl (LBw aX aB aB1 aB2 aT aP 0 ++ PLw aP aB aT 0 0 0 0 3 (-6) (-6) 0 (-6) ++ BKw cA aB aR aL aF 0 0 rA (fun _ => 0) (fun _ => 0) ++ TRw cA aT aU aG aE 0 (fun _ => 0) (fun _ => 0) (fun _ => 0) ++ BKw cA aB1 aR1 aL1 aF1 0 0 rA (fun _ => 0) (fun _ => 0) ++ BKw cA aB2 aR2 aL2 aF2 0 0 rA (fun _ => 0) (fun _ => 0) ++ MDw cA cZ aM aS aI aK SF0 (fun _ => 0) (fun _ => 0) 0 0 0 0 0) H := hP
  have hD : va_D (fun q : Nat => s.heap.size ≤ q) (LBw aX aB aB1 aB2 aT aP 0 ++ PLw aP aB aT 0 0 0 0 3 (-6) (-6) 0 (-6) ++ BKw cA aB aR aL aF 0 0 rA (fun _ => 0) (fun _ => 0) ++ TRw cA aT aU aG aE 0 (fun _ => 0) (fun _ => 0) (fun _ => 0) ++ BKw cA aB1 aR1 aL1 aF1 0 0 rA (fun _ => 0) (fun _ => 0) ++ BKw cA aB2 aR2 aL2 aF2 0 0 rA (fun _ => 0) (fun _ => 0) ++ MDw cA cZ aM aS aI aK SF0 (fun _ => 0) (fun _ => 0) 0 0 0 0 0) := hD
  refine W.widen (k := 22) (n := 3418) (Nat.le_of_ble_eq_true rfl) (Nat.le_of_ble_eq_true rfl) ?_
  refine lv_astore_n (lv' := [(2, .ref aM), (1, .ref aX), (0, .ref b)]) hx hb dL_law_15 rfl hl (by decide) rfl (fun ls hl => ?_)
  refine lv_iconst (v := 0) hx hb dL_law_16 (by decide) ?_
  refine lv_istore_n (lv' := [(3, .int 0), (2, .ref aM), (1, .ref aX), (0, .ref b)]) hx hb dL_law_17 rfl hl (by decide) rfl (fun ls hl => ?_)
  exact law_loop hL C0 hK hN hQ hCa aX aB aB1 aB2 aT aP aR aL aF aU aG aE aR1 aL1 aF1 aR2 aL2 aF2 aM aS aI aK 513 0 0 0 0 0 0 3 (-6) (-6) 0 (-6) 0 0 rA (fun _ => 0) (fun _ => 0) 0 (fun _ => 0) (fun _ => 0) (fun _ => 0) 0 0 rA (fun _ => 0) (fun _ => 0) 0 0 rA (fun _ => 0) (fun _ => 0) SF0 (fun _ => 0) (fun _ => 0) 0 0 0 0 0 H locs ls (Nat.zero_le _) (Nat.le_refl _) (Sim_0 _ _ _ _ _ _ _ _ _ _ _) hP hD hS (lv_sub hl [3, 2, 1, 0] rfl)
-- ===== YOUR PART ENDS =====
set_option maxHeartbeats 4000000 in
theorem lw_walk (l : Launch) (hflags : l.flags = flags0) (b : Addr) (xs : List Int32) : MetFree l x (headSpec (Jvm.Cond.code x code maxLocals ret :: tables_1) room_1) (lw_P b xs) (fun _ _ _ _ _ => True) lw_Q := by
  refine MetFree.of_bodyS (code := code) (maxLocals := maxLocals) (ret := ret) (by decide) ?_ ?_
  · intro args s m h hn
    obtain ⟨meth, c, h1, h2, h3, h4, h5, h6, -, -⟩ := Cond.code_spec hn (atoms_spec (ws := Jvm.Cond.code x code maxLocals ret :: tables_1) h _ List.mem_cons_self)
    exact ⟨meth, c, h1, h2, h3, h4, h5, h6⟩
  · intro p e s m args below meth c s₁ B hml0 hP _
    obtain ⟨rfl, hx, hbd, hgv⟩ := hP
    obtain ⟨scr, harrAt, hlist, hof, hsmall⟩ := hx
    obtain ⟨hcb, hkn, -, -⟩ := State.arrayAt?_spec harrAt
    have hown : s.vm.findClass R_law = some m.cls := findClass_of_methodNamed B.named
    have hts0 : ∀ c ∈ (Jvm.Cond.code x code maxLocals ret :: tables_1), c.before #[Value.ref b] s = true := atoms_spec (ws := Jvm.Cond.code x code maxLocals ret :: tables_1) B.pre
    have hts : ∀ w ∈ lw_tbl, w.before #[Value.ref b] s = true := k2_hts_sels lw_privs (fun w hw => hts0 w (List.mem_cons_of_mem _ hw)) lw_privs_ok
    have hml : c.maxLocals = 4 := B.maxLocals_eq (hts0 _ List.mem_cons_self)
    have X₀ : Stand p l e room_1 s m #[Value.ref b] below meth c s₁ [] 0 0 := Stand.of_body B
    have hh0 : s₁.heap = s.heap := by rw [B.state]; rfl
    have hsz : scr.slots.size = xs.length := by rw [← Array.length_toList, hlist, List.length_map]
    have hval : ∀ j : Nat, j < xs.length → scr.slots[j]? = some (.int (xs.getD j 0)) := fun j hj => by
      rw [← Array.getElem?_toList, hlist]
      simp [hj]
    have hbl : b < s.heap.size := (Array.getElem?_eq_some_iff.mp hcb).1
    have hX : va_X b xs.length (fun j => xs.getD j 0) s s.heap := ⟨scr, hcb, hof, hkn, hsz, hval⟩
    have K : W p l e room_1 s m #[Value.ref b] below meth c s₁.heap [] 0 0 (lw_Z below #[Value.ref b] s) (entryFrame m ([Value.ref b] : List Value).toArray 4) := by
      rw [hh0]
      exact whole_start l hflags hbd ⟨B.exec, B.bytes, B.returns, hml, hown, hts, hX, hbl, B.notSynchronized, hgv⟩
    obtain ⟨t, a1, o, b1, b2, b3⟩ := K s₁ rfl X₀
    exact ⟨t, o, a1, b1, b2, b3⟩
theorem lw_pre_spec {args : Array Value} {s : State} (h : (Jvm.Cond.and given_1 narrow_1).before args s = true) (hr : rest_1_c.before args s = true) : ∃ (b : Addr) (xs : List Int32), lw_P b xs args s := by
  have hs := flat_of_before _ h
  have hq := flat_of_before _ hr
  have hc : (Cond.count 1).before args s = true := hs _ (by decide +kernel)
  have harr : (Cond.arrayOf (.arg 0) .int).before args s = true := hs _ (by decide +kernel)
  have hle : (Cond.le (.length (.arg 0)) (.int 3072)).before args s = true := hs _ (by decide +kernel)
  have hlen : (Cond.isInt (.length (.arg 0))).before args s = true := hq _ (by decide +kernel)
  have hall : (Cond.all (.arg 0) (.isInt (.elem (.arg 0) (.index 0)))).before args s = true := hq _ (by decide +kernel)
  obtain ⟨b, xs, hb, hx⟩ := State.ints_of_pre rfl harr hlen hall
  have hsm : xs.length < 2 ^ 31 := hx.choose_spec.2.2.2
  have hev : (Term.length (.arg 0)).eval args s none [] s = some (.int xs.length.toInt32) := hx.length_eval hb
  have hv := Cond.le_ints hev (show (Term.int 3072).eval args s none [] s = some (.int 3072) from rfl)
  have hd : xs.length.toInt32 ≤ 3072 := by
    simpa [Cond.before, Cond.holds, hv] using hle
  have hN : xs.length ≤ 3072 := (Int32.ofNat_le_ofNat hsm (by decide)).mp (show Int32.ofNat xs.length ≤ Int32.ofNat 3072 from hd)
  exact ⟨b, xs, Cond.one_arg hc (show args[0]? = some (.ref b) from hb), hx, hN, h⟩
theorem lw_comes (l : Launch) (hflags : l.flags = flags0) : Comes l x (Jvm.Cond.code x code maxLocals ret :: tables_1) room_1 (fun tb e args s => Calls_1 tb e args s ∧ rest_1 tb e args s ∧ Pre_1 tb e args s)
    (fun _ _ args s o t => lw_Q args s o t) := by
  intro p e ha hc hk s m args below hf hfit hheap happ hpre
  obtain ⟨b, xs, hP⟩ := lw_pre_spec hpre.2.2 hpre.2.1
  obtain ⟨k, o, h1, h2, h3, hQ⟩ := lw_walk l hflags b xs p e ha hc hk s m args below hf ((Spec.applies_iff_loose hf).mp happ).1 hP trivial
  exact ⟨k, o, h1, h2, h3, hQ⟩
theorem lw_frame {s t : State} {o : Outcome} {args : Array Value} (h : Framed s o t [] 600000 7302250) :
    Framed s o t (fieldLocs frame_1_writes args s ++ arrayLocs frame_1_arrays args s ++ staticLocs frame_1_statics s) 600000 7302250 := h
theorem lw_limb (L : Cond) (hL : ∀ (args : Array Value) (s t : State), L.after args s (.returned (some (.int 1))) t = true) :
    ArmFor flags0 classFile x code maxLocals ret World_1 tables_1 room_1 Calls_1 rest_1 Pre_1
      (fun tb e a s o t => postC L tb e a s o t ∧ Framed s o t (fieldLocs frame_1_writes a s ++ arrayLocs frame_1_arrays a s ++ staticLocs frame_1_statics s) 600000 7302250) := by
  intro l hflags _ _ p e ha hc hk s m args below hf hfit hheap happ hpre
  obtain ⟨k, o, h1, h2, h3, rfl, hF⟩ := lw_comes l hflags p e ha hc hk s m args below hf hfit hheap happ hpre
  exact ⟨k, _, h1, h2, h3, hL args s _, lw_frame hF⟩
theorem i_vc : Claimed_1_1 ∧ Claimed_1_2 := ⟨lw_limb limb_1_1 (fun args s t => by simp [limb_1_1, Cond.after, Cond.holds, Cond.value]), lw_limb limb_1_2 (fun args s t => Cond.after_iff.mpr (by
  first | (rw [show limb_1_2 = Cond.eq .result (.int 1) from rfl, Cond.eq_ints (x := 1) (y := 1) rfl rfl]; simp; done) | (simp [limb_1_2, Cond.value, Term.eval]; done)))⟩
