/-! the law -/
def R_law : String := "AheadOfPersonLaw"
def lw_P (b : Addr) (xs : List Int32) (args : Array Value) (s : State) : Prop := args = #[.ref b] ∧ s.IntsAt b xs ∧ xs.length ≤ 2048 ∧ (Jvm.Cond.and given_1 narrow_1).before args s = true
def lw_Q (_ : Array Value) (s : State) (o : Outcome) (t : State) : Prop := o = .returned (some (.int 1)) ∧ Framed s o t [] 600000 7302250
def lw_Z (below : List Frame) (a : Array Value) (s : State) : State → Prop := fun t => ∃ o, t.status = .running ∧ Ended t below o ∧ lw_Q a s o t
/-- the law's own end, with 1 on the stack, nothing written that was there before, its room as the claim has it -/
theorem lw_ret {p : Program} {l : Launch} {e : Env} {s : State} {m : MethodId} {below : List Frame} {meth : Method} {c : Code} {b : Nat} (hx : p.tables.exec = Jvm.exec) (hb : c.code = code) (hr : meth.sig.returnType = ret) (hlocks : meth.locks = false) {pc : Nat} {H : Heap} {ls : Array Slot} (hdg : decode code pc = .ok (.ireturn, 1)) : W p l e room_1 s m #[Value.ref b] below meth c H [] 600000 7302250 (lw_Z below #[Value.ref b] s) (F0 m pc ls [.int 1]) := by
  intro T hT X
  obtain ⟨fs, hret, hrun, hended, hW, hframe⟩ := X.leave (v := some (.int 1)) (hlocks := hlocks) (fun h => by rw [hr] at h; cases h)
  have hmeth' : T.vm.method? m = some meth := X.method'
  refine ⟨T.setFrames fs, ?_, .returned (some (.int 1)), hrun, hended, rfl, ⟨_, rfl⟩, hW, hframe⟩
  jvm_step X.here [X.here.top, hx, hb, hdg, hmeth', hr, ret, narrow_b1]
  (try refine ⟨rfl, ?_⟩); (try refine ⟨rfl, ?_⟩)
  first | (intro acts; rw [hret _ acts rfl rfl rfl]) | rw [hret _ _ rfl rfl rfl]
  exact Steps.refl _
/-- what the walk of the law knows of its own frame -/
def ap_Lx (x : ap_X) (g : ap_G) (b L : Nat) (xs : Nat → Int32) : Prop := xR x = room_1 ∧ xZ x = lw_Z (xB x) #[Value.ref b] (xS x) ∧ xA x = #[Value.ref b] ∧ ap_gA g = (fun q => (xS x).heap.size ≤ q) ∧ xc x ≤ 600000 ∧ (x.2.2.2.2.2.2.2.2.2.2.2.1) ≤ 7302250 ∧ (xT x).sig.returnType = ret ∧ va_X b L xs (xS x) (xS x).heap ∧ b < (xS x).heap.size
theorem ap_RmM {x : ap_X} {g : ap_G} {b L k : Nat} {xs : Nat → Int32} (h : ap_Lx x g b L xs) (hk : k ≤ 1000) : ap_Rm x k := by
  unfold ap_Rm
  rw [h.1]
  exact ⟨Nat.le_trans hk (Nat.le_of_ble_eq_true rfl), Nat.le_trans (Nat.mul_le_mul_left 64 hk) (Nat.le_of_ble_eq_true rfl)⟩
theorem ap_sld {x : ap_X} {g : ap_G} {nL pc q : Nat} {cc : ByteArray} {own : String} {lo : List (Nat × Value)} {st : List Value} {M : ap_Mem} {b L : Nat} {xs : Nat → Int32} {i : Int32} (hL : ap_Lx x g b L xs) (hi : vp_in i L) (hc : ap_Cx x g cc own nL) (hd : decode cc pc = .ok (.iaload, 1)) (he : pc + 1 = q) (h : ap_V x g nL q lo (.int (xs i.toNatClampNeg) :: st) M) : ap_V x g nL pc lo (.int i :: .ref b :: st) M := by
  subst he
  obtain ⟨h1, h2, h3, h4, h5, h6, h7, h8, h9⟩ := hL
  exact fun ls H locs hl hP hS => va_sld hc.1 hc.2.1 h8 h9 (by rw [h4]; exact Nat.not_le.mpr h9) hS hi hd (h ls H locs hl hP hS)
theorem ap_slen {x : ap_X} {g : ap_G} {nL pc q : Nat} {cc : ByteArray} {own : String} {lo : List (Nat × Value)} {st : List Value} {M : ap_Mem} {b L : Nat} {xs : Nat → Int32} (hL : ap_Lx x g b L xs) (hc : ap_Cx x g cc own nL) (hd : decode cc pc = .ok (.arraylength, 1)) (he : pc + 1 = q) (h : ap_V x g nL q lo (.int (nI L) :: st) M) : ap_V x g nL pc lo (.ref b :: st) M := by
  subst he
  obtain ⟨h1, h2, h3, h4, h5, h6, h7, h8, h9⟩ := hL
  exact fun ls H locs hl hP hS => va_slen hc.1 hc.2.1 h8 h9 (by rw [h4]; exact Nat.not_le.mpr h9) hS hd (h ls H locs hl hP hS)
theorem ap_lawret {x : ap_X} {g : ap_G} {nL pc : Nat} {own : String} {lo : List (Nat × Value)} {M : ap_Mem} {b L : Nat} {xs : Nat → Int32} {v : Int32} (hc : ap_Cx x g code own nL) (hL : ap_Lx x g b L xs) (hd : decode code pc = .ok (.ireturn, 1)) (h : v = 1) : ap_V x g nL pc lo [.int v] M := by
  subst h
  obtain ⟨h1, h2, h3, h4, h5, h6, h7, h8, h9⟩ := hL
  intro ls H locs hl hP hS
  unfold ap_Wx
  rw [h2, h1, h3]
  rw [h4] at hS
  refine va_forget (fun q hq => hS.2.2 q hq) ?_
  refine W.widen (k := 600000) (n := 7302250) h5 h6 ?_
  exact lw_ret hc.1 hc.2.1 h7 hc.2.2.2.2.2.1 hd
theorem ml_R_law_13 : Cond.methodLink R_law 13 yX8_feed ∈ ap_TW := ap_tw (k := 371) (by decide +kernel) (by decide +kernel)
theorem ml_R_law_17 : Cond.methodLink R_law 17 yX9_feed ∈ ap_TW := ap_tw (k := 945) (by decide +kernel) (by decide +kernel)
theorem ml_R_law_18 : Cond.methodLink R_law 18 yX8_town ∈ ap_TW := ap_tw (k := 379) (by decide +kernel) (by decide +kernel)
theorem ml_R_law_22 : Cond.methodLink R_law 22 yX9_town ∈ ap_TW := ap_tw (k := 952) (by decide +kernel) (by decide +kernel)
theorem ml_R_law_23 : Cond.methodLink R_law 23 yX8_person ∈ ap_TW := ap_tw (k := 582) (by decide +kernel) (by decide +kernel)
theorem ml_R_law_27 : Cond.methodLink R_law 27 yX9_person ∈ ap_TW := ap_tw (k := 1011) (by decide +kernel) (by decide +kernel)
theorem ml_R_law_28 : Cond.methodLink R_law 28 yX8_of ∈ ap_TW := ap_tw (k := 603) (by decide +kernel) (by decide +kernel)
theorem ml_R_law_32 : Cond.methodLink R_law 32 yX9_of ∈ ap_TW := ap_tw (k := 1018) (by decide +kernel) (by decide +kernel)
theorem ml_R_law_33 : Cond.methodLink R_law 33 yX8_line ∈ ap_TW := ap_tw (k := 674) (by decide +kernel) (by decide +kernel)
theorem ml_R_law_36 : Cond.methodLink R_law 36 yX9_line ∈ ap_TW := ap_tw (k := 1045) (by decide +kernel) (by decide +kernel)
theorem ml_R_law_37 : Cond.methodLink R_law 37 yX8_move ∈ ap_TW := ap_tw (k := 678) (by decide +kernel) (by decide +kernel)
theorem ml_R_law_40 : Cond.methodLink R_law 40 yX9_move ∈ ap_TW := ap_tw (k := 1049) (by decide +kernel) (by decide +kernel)
theorem ml_R_law_41 : Cond.methodLink R_law 41 yX8_away ∈ ap_TW := ap_tw (k := 682) (by decide +kernel) (by decide +kernel)
theorem ml_R_law_45 : Cond.methodLink R_law 45 yX9_away ∈ ap_TW := ap_tw (k := 1057) (by decide +kernel) (by decide +kernel)
theorem ml_R_law_46 : Cond.methodLink R_law 46 yX8_lay ∈ ap_TW := ap_tw (k := 687) (by decide +kernel) (by decide +kernel)
theorem ml_R_law_49 : Cond.methodLink R_law 49 yX9_lay ∈ ap_TW := ap_tw (k := 1061) (by decide +kernel) (by decide +kernel)
theorem ml_R_law_50 : Cond.methodLink R_law 50 yX8_told ∈ ap_TW := ap_tw (k := 691) (by decide +kernel) (by decide +kernel)
theorem ml_R_law_53 : Cond.methodLink R_law 53 yX9_told ∈ ap_TW := ap_tw (k := 1065) (by decide +kernel) (by decide +kernel)
theorem ml_R_law_54 : Cond.methodLink R_law 54 yX8_pass ∈ ap_TW := ap_tw (k := 704) (by decide +kernel) (by decide +kernel)
theorem ml_R_law_57 : Cond.methodLink R_law 57 yX9_pass ∈ ap_TW := ap_tw (k := 1077) (by decide +kernel) (by decide +kernel)
theorem ml_R_law_58 : Cond.methodLink R_law 58 yX8_on ∈ ap_TW := ap_tw (k := 722) (by decide +kernel) (by decide +kernel)
theorem ml_R_law_61 : Cond.methodLink R_law 61 yX9_on ∈ ap_TW := ap_tw (k := 1085) (by decide +kernel) (by decide +kernel)
theorem ml_R_law_62 : Cond.methodLink R_law 62 yX8_finds ∈ ap_TW := ap_tw (k := 732) (by decide +kernel) (by decide +kernel)
theorem ml_R_law_65 : Cond.methodLink R_law 65 yX9_finds ∈ ap_TW := ap_tw (k := 1101) (by decide +kernel) (by decide +kernel)
theorem ml_R_law_66 : Cond.methodLink R_law 66 yX8_soonest ∈ ap_TW := ap_tw (k := 740) (by decide +kernel) (by decide +kernel)
theorem ml_R_law_69 : Cond.methodLink R_law 69 yX9_soonest ∈ ap_TW := ap_tw (k := 1110) (by decide +kernel) (by decide +kernel)
theorem ml_R_law_70 : Cond.methodLink R_law 70 yX8_call ∈ ap_TW := ap_tw (k := 748) (by decide +kernel) (by decide +kernel)
theorem ml_R_law_73 : Cond.methodLink R_law 73 yX9_call ∈ ap_TW := ap_tw (k := 1114) (by decide +kernel) (by decide +kernel)
theorem ml_R_law_74 : Cond.methodLink R_law 74 yX8_kept ∈ ap_TW := ap_tw (k := 756) (by decide +kernel) (by decide +kernel)
theorem ml_R_law_77 : Cond.methodLink R_law 77 yX9_kept ∈ ap_TW := ap_tw (k := 1118) (by decide +kernel) (by decide +kernel)
theorem ml_R_law_78 : Cond.methodLink R_law 78 yX8_walk ∈ ap_TW := ap_tw (k := 766) (by decide +kernel) (by decide +kernel)
theorem ml_R_law_81 : Cond.methodLink R_law 81 yX9_walk ∈ ap_TW := ap_tw (k := 1129) (by decide +kernel) (by decide +kernel)
theorem ml_R_law_82 : Cond.methodLink R_law 82 yX8_met ∈ ap_TW := ap_tw (k := 770) (by decide +kernel) (by decide +kernel)
theorem ml_R_law_85 : Cond.methodLink R_law 85 yX9_met ∈ ap_TW := ap_tw (k := 1133) (by decide +kernel) (by decide +kernel)
theorem ml_R_law_86 : Cond.methodLink R_law 86 yX8_see ∈ ap_TW := ap_tw (k := 774) (by decide +kernel) (by decide +kernel)
theorem ml_R_law_89 : Cond.methodLink R_law 89 yX9_see ∈ ap_TW := ap_tw (k := 1137) (by decide +kernel) (by decide +kernel)
theorem ml_R_law_90 : Cond.methodLink R_law 90 yX8_doors ∈ ap_TW := ap_tw (k := 778) (by decide +kernel) (by decide +kernel)
theorem ml_R_law_93 : Cond.methodLink R_law 93 yX9_doors ∈ ap_TW := ap_tw (k := 1141) (by decide +kernel) (by decide +kernel)
theorem ml_R_law_94 : Cond.methodLink R_law 94 yX8_firm ∈ ap_TW := ap_tw (k := 787) (by decide +kernel) (by decide +kernel)
theorem ml_R_law_97 : Cond.methodLink R_law 97 yX9_firm ∈ ap_TW := ap_tw (k := 1153) (by decide +kernel) (by decide +kernel)
theorem ml_R_law_98 : Cond.methodLink R_law 98 yX8_sought ∈ ap_TW := ap_tw (k := 795) (by decide +kernel) (by decide +kernel)
theorem ml_R_law_101 : Cond.methodLink R_law 101 yX9_sought ∈ ap_TW := ap_tw (k := 1157) (by decide +kernel) (by decide +kernel)
theorem ml_R_law_102 : Cond.methodLink R_law 102 yX8_odds ∈ ap_TW := ap_tw (k := 799) (by decide +kernel) (by decide +kernel)
theorem ml_R_law_106 : Cond.methodLink R_law 106 yX9_odds ∈ ap_TW := ap_tw (k := 1161) (by decide +kernel) (by decide +kernel)
theorem ml_R_law_107 : Cond.methodLink R_law 107 yX8_mean ∈ ap_TW := ap_tw (k := 807) (by decide +kernel) (by decide +kernel)
theorem ml_R_law_111 : Cond.methodLink R_law 111 yX9_mean ∈ ap_TW := ap_tw (k := 1169) (by decide +kernel) (by decide +kernel)
theorem ml_R_law_112 : Cond.methodLink R_law 112 yX8_plan ∈ ap_TW := ap_tw (k := 812) (by decide +kernel) (by decide +kernel)
theorem ml_R_law_115 : Cond.methodLink R_law 115 yX9_plan ∈ ap_TW := ap_tw (k := 1173) (by decide +kernel) (by decide +kernel)
theorem ml_R_law_116 : Cond.methodLink R_law 116 yX8_done ∈ ap_TW := ap_tw (k := 816) (by decide +kernel) (by decide +kernel)
theorem ml_R_law_119 : Cond.methodLink R_law 119 yX9_done ∈ ap_TW := ap_tw (k := 1177) (by decide +kernel) (by decide +kernel)
theorem ml_R_law_120 : Cond.methodLink R_law 120 yX8_book ∈ ap_TW := ap_tw (k := 825) (by decide +kernel) (by decide +kernel)
theorem ml_R_law_123 : Cond.methodLink R_law 123 yX9_book ∈ ap_TW := ap_tw (k := 1185) (by decide +kernel) (by decide +kernel)
theorem ml_R_law_124 : Cond.methodLink R_law 124 yX8_looked ∈ ap_TW := ap_tw (k := 829) (by decide +kernel) (by decide +kernel)
theorem ml_R_law_127 : Cond.methodLink R_law 127 yX9_looked ∈ ap_TW := ap_tw (k := 1189) (by decide +kernel) (by decide +kernel)
theorem ml_R_law_128 : Cond.methodLink R_law 128 yX8_act ∈ ap_TW := ap_tw (k := 833) (by decide +kernel) (by decide +kernel)
theorem ml_R_law_131 : Cond.methodLink R_law 131 yX9_act ∈ ap_TW := ap_tw (k := 1193) (by decide +kernel) (by decide +kernel)
theorem ml_R_law_132 : Cond.methodLink R_law 132 yX8_trace ∈ ap_TW := ap_tw (k := 853) (by decide +kernel) (by decide +kernel)
theorem ml_R_law_135 : Cond.methodLink R_law 135 yX9_trace ∈ ap_TW := ap_tw (k := 1228) (by decide +kernel) (by decide +kernel)
theorem ml_R_law_136 : Cond.methodLink R_law 136 yX8_as ∈ ap_TW := ap_tw (k := 862) (by decide +kernel) (by decide +kernel)
theorem ml_R_law_139 : Cond.methodLink R_law 139 yX9_as ∈ ap_TW := ap_tw (k := 1232) (by decide +kernel) (by decide +kernel)
theorem ml_R_law_140 : Cond.methodLink R_law 140 yX8_image ∈ ap_TW := ap_tw (k := 867) (by decide +kernel) (by decide +kernel)
theorem ml_R_law_143 : Cond.methodLink R_law 143 yX9_image ∈ ap_TW := ap_tw (k := 1236) (by decide +kernel) (by decide +kernel)
theorem ml_R_law_144 : Cond.methodLink R_law 144 yX8_undo ∈ ap_TW := ap_tw (k := 879) (by decide +kernel) (by decide +kernel)
theorem ml_R_law_147 : Cond.methodLink R_law 147 yX9_undo ∈ ap_TW := ap_tw (k := 1240) (by decide +kernel) (by decide +kernel)
theorem ml_R_law_148 : Cond.methodLink R_law 148 yX8_count ∈ ap_TW := ap_tw (k := 883) (by decide +kernel) (by decide +kernel)
theorem ml_R_law_151 : Cond.methodLink R_law 151 yX9_count ∈ ap_TW := ap_tw (k := 1244) (by decide +kernel) (by decide +kernel)
theorem lk_X8_act : ap_LK yX8_act cX8_act 4 (some .int) 3 := ⟨⟨ap_tw (k := 836) (by decide +kernel) (by decide +kernel), ap_tw (k := 53) (by decide +kernel) (by decide +kernel), by decide⟩, by decide +kernel, by decide +kernel, by decide +kernel⟩
theorem lv_X8_act : ap_LV yX8_act := ⟨ap_tw (k := 834) (by decide +kernel) (by decide +kernel), ap_tw (k := 835) (by decide +kernel) (by decide +kernel)⟩
theorem lk_X8_as : ap_LK yX8_as cX8_as 5 (some .int) 2 := ⟨⟨ap_tw (k := 865) (by decide +kernel) (by decide +kernel), ap_tw (k := 53) (by decide +kernel) (by decide +kernel), by decide⟩, by decide +kernel, by decide +kernel, by decide +kernel⟩
theorem lv_X8_as : ap_LV yX8_as := ⟨ap_tw (k := 863) (by decide +kernel) (by decide +kernel), ap_tw (k := 864) (by decide +kernel) (by decide +kernel)⟩
theorem lk_X8_away : ap_LK yX8_away cX8_away 4 (some .int) 2 := ⟨⟨ap_tw (k := 685) (by decide +kernel) (by decide +kernel), ap_tw (k := 53) (by decide +kernel) (by decide +kernel), by decide⟩, by decide +kernel, by decide +kernel, by decide +kernel⟩
theorem lv_X8_away : ap_LV yX8_away := ⟨ap_tw (k := 683) (by decide +kernel) (by decide +kernel), ap_tw (k := 684) (by decide +kernel) (by decide +kernel)⟩
theorem lk_X8_book : ap_LK yX8_book cX8_book 3 (some .int) 2 := ⟨⟨ap_tw (k := 828) (by decide +kernel) (by decide +kernel), ap_tw (k := 53) (by decide +kernel) (by decide +kernel), by decide⟩, by decide +kernel, by decide +kernel, by decide +kernel⟩
theorem lv_X8_book : ap_LV yX8_book := ⟨ap_tw (k := 826) (by decide +kernel) (by decide +kernel), ap_tw (k := 827) (by decide +kernel) (by decide +kernel)⟩
theorem lk_X8_call : ap_LK yX8_call cX8_call 8 (some .int) 1 := ⟨⟨ap_tw (k := 751) (by decide +kernel) (by decide +kernel), ap_tw (k := 53) (by decide +kernel) (by decide +kernel), by decide⟩, by decide +kernel, by decide +kernel, by decide +kernel⟩
theorem lv_X8_call : ap_LV yX8_call := ⟨ap_tw (k := 749) (by decide +kernel) (by decide +kernel), ap_tw (k := 750) (by decide +kernel) (by decide +kernel)⟩
theorem lk_X8_count : ap_LK yX8_count cX8_count 2 (some .int) 1 := ⟨⟨ap_tw (k := 886) (by decide +kernel) (by decide +kernel), ap_tw (k := 53) (by decide +kernel) (by decide +kernel), by decide⟩, by decide +kernel, by decide +kernel, by decide +kernel⟩
theorem lv_X8_count : ap_LV yX8_count := ⟨ap_tw (k := 884) (by decide +kernel) (by decide +kernel), ap_tw (k := 885) (by decide +kernel) (by decide +kernel)⟩
theorem lk_X8_done : ap_LK yX8_done cX8_done 3 (some .int) 1 := ⟨⟨ap_tw (k := 819) (by decide +kernel) (by decide +kernel), ap_tw (k := 53) (by decide +kernel) (by decide +kernel), by decide⟩, by decide +kernel, by decide +kernel, by decide +kernel⟩
theorem lv_X8_done : ap_LV yX8_done := ⟨ap_tw (k := 817) (by decide +kernel) (by decide +kernel), ap_tw (k := 818) (by decide +kernel) (by decide +kernel)⟩
theorem lk_X8_doors : ap_LK yX8_doors cX8_doors 4 (some .int) 1 := ⟨⟨ap_tw (k := 781) (by decide +kernel) (by decide +kernel), ap_tw (k := 53) (by decide +kernel) (by decide +kernel), by decide⟩, by decide +kernel, by decide +kernel, by decide +kernel⟩
theorem lv_X8_doors : ap_LV yX8_doors := ⟨ap_tw (k := 779) (by decide +kernel) (by decide +kernel), ap_tw (k := 780) (by decide +kernel) (by decide +kernel)⟩
theorem lk_X8_feed : ap_LK yX8_feed cX8_feed 2 (some .int) 1 := ⟨⟨ap_tw (k := 374) (by decide +kernel) (by decide +kernel), ap_tw (k := 53) (by decide +kernel) (by decide +kernel), by decide⟩, by decide +kernel, by decide +kernel, by decide +kernel⟩
theorem lv_X8_feed : ap_LV yX8_feed := ⟨ap_tw (k := 372) (by decide +kernel) (by decide +kernel), ap_tw (k := 373) (by decide +kernel) (by decide +kernel)⟩
theorem lk_X8_finds : ap_LK yX8_finds cX8_finds 2 (some .int) 1 := ⟨⟨ap_tw (k := 735) (by decide +kernel) (by decide +kernel), ap_tw (k := 53) (by decide +kernel) (by decide +kernel), by decide⟩, by decide +kernel, by decide +kernel, by decide +kernel⟩
theorem lv_X8_finds : ap_LV yX8_finds := ⟨ap_tw (k := 733) (by decide +kernel) (by decide +kernel), ap_tw (k := 734) (by decide +kernel) (by decide +kernel)⟩
theorem lk_X8_firm : ap_LK yX8_firm cX8_firm 6 (some .int) 2 := ⟨⟨ap_tw (k := 790) (by decide +kernel) (by decide +kernel), ap_tw (k := 53) (by decide +kernel) (by decide +kernel), by decide⟩, by decide +kernel, by decide +kernel, by decide +kernel⟩
theorem lv_X8_firm : ap_LV yX8_firm := ⟨ap_tw (k := 788) (by decide +kernel) (by decide +kernel), ap_tw (k := 789) (by decide +kernel) (by decide +kernel)⟩
theorem lk_X8_image : ap_LK yX8_image cX8_image 1 (some .int) 0 := ⟨⟨ap_tw (k := 870) (by decide +kernel) (by decide +kernel), ap_tw (k := 53) (by decide +kernel) (by decide +kernel), by decide⟩, by decide +kernel, by decide +kernel, by decide +kernel⟩
theorem lv_X8_image : ap_LV yX8_image := ⟨ap_tw (k := 868) (by decide +kernel) (by decide +kernel), ap_tw (k := 869) (by decide +kernel) (by decide +kernel)⟩
theorem lk_X8_kept : ap_LK yX8_kept cX8_kept 5 (some .int) 1 := ⟨⟨ap_tw (k := 759) (by decide +kernel) (by decide +kernel), ap_tw (k := 53) (by decide +kernel) (by decide +kernel), by decide⟩, by decide +kernel, by decide +kernel, by decide +kernel⟩
theorem lv_X8_kept : ap_LV yX8_kept := ⟨ap_tw (k := 757) (by decide +kernel) (by decide +kernel), ap_tw (k := 758) (by decide +kernel) (by decide +kernel)⟩
theorem lk_X8_lay : ap_LK yX8_lay cX8_lay 3 (some .int) 1 := ⟨⟨ap_tw (k := 690) (by decide +kernel) (by decide +kernel), ap_tw (k := 53) (by decide +kernel) (by decide +kernel), by decide⟩, by decide +kernel, by decide +kernel, by decide +kernel⟩
theorem lv_X8_lay : ap_LV yX8_lay := ⟨ap_tw (k := 688) (by decide +kernel) (by decide +kernel), ap_tw (k := 689) (by decide +kernel) (by decide +kernel)⟩
theorem lk_X8_line : ap_LK yX8_line cX8_line 5 (some .int) 3 := ⟨⟨ap_tw (k := 677) (by decide +kernel) (by decide +kernel), ap_tw (k := 53) (by decide +kernel) (by decide +kernel), by decide⟩, by decide +kernel, by decide +kernel, by decide +kernel⟩
theorem lv_X8_line : ap_LV yX8_line := ⟨ap_tw (k := 675) (by decide +kernel) (by decide +kernel), ap_tw (k := 676) (by decide +kernel) (by decide +kernel)⟩
theorem lk_X8_looked : ap_LK yX8_looked cX8_looked 2 (some .int) 0 := ⟨⟨ap_tw (k := 832) (by decide +kernel) (by decide +kernel), ap_tw (k := 53) (by decide +kernel) (by decide +kernel), by decide⟩, by decide +kernel, by decide +kernel, by decide +kernel⟩
theorem lv_X8_looked : ap_LV yX8_looked := ⟨ap_tw (k := 830) (by decide +kernel) (by decide +kernel), ap_tw (k := 831) (by decide +kernel) (by decide +kernel)⟩
theorem lk_X8_mean : ap_LK yX8_mean cX8_mean 6 (some .long) 2 := ⟨⟨ap_tw (k := 810) (by decide +kernel) (by decide +kernel), ap_tw (k := 53) (by decide +kernel) (by decide +kernel), by decide⟩, by decide +kernel, by decide +kernel, by decide +kernel⟩
theorem lv_X8_mean : ap_LV yX8_mean := ⟨ap_tw (k := 808) (by decide +kernel) (by decide +kernel), ap_tw (k := 809) (by decide +kernel) (by decide +kernel)⟩
theorem lk_X8_met : ap_LK yX8_met cX8_met 3 (some .int) 1 := ⟨⟨ap_tw (k := 773) (by decide +kernel) (by decide +kernel), ap_tw (k := 53) (by decide +kernel) (by decide +kernel), by decide⟩, by decide +kernel, by decide +kernel, by decide +kernel⟩
theorem lv_X8_met : ap_LV yX8_met := ⟨ap_tw (k := 771) (by decide +kernel) (by decide +kernel), ap_tw (k := 772) (by decide +kernel) (by decide +kernel)⟩
theorem lk_X8_move : ap_LK yX8_move cX8_move 4 (some .int) 2 := ⟨⟨ap_tw (k := 681) (by decide +kernel) (by decide +kernel), ap_tw (k := 53) (by decide +kernel) (by decide +kernel), by decide⟩, by decide +kernel, by decide +kernel, by decide +kernel⟩
theorem lv_X8_move : ap_LV yX8_move := ⟨ap_tw (k := 679) (by decide +kernel) (by decide +kernel), ap_tw (k := 680) (by decide +kernel) (by decide +kernel)⟩
theorem lk_X8_odds : ap_LK yX8_odds cX8_odds 6 (some .long) 3 := ⟨⟨ap_tw (k := 802) (by decide +kernel) (by decide +kernel), ap_tw (k := 53) (by decide +kernel) (by decide +kernel), by decide⟩, by decide +kernel, by decide +kernel, by decide +kernel⟩
theorem lv_X8_odds : ap_LV yX8_odds := ⟨ap_tw (k := 800) (by decide +kernel) (by decide +kernel), ap_tw (k := 801) (by decide +kernel) (by decide +kernel)⟩
theorem lk_X8_of : ap_LK yX8_of cX8_of 3 (some .int) 2 := ⟨⟨ap_tw (k := 606) (by decide +kernel) (by decide +kernel), ap_tw (k := 53) (by decide +kernel) (by decide +kernel), by decide⟩, by decide +kernel, by decide +kernel, by decide +kernel⟩
theorem lv_X8_of : ap_LV yX8_of := ⟨ap_tw (k := 604) (by decide +kernel) (by decide +kernel), ap_tw (k := 605) (by decide +kernel) (by decide +kernel)⟩
theorem lk_X8_on : ap_LK yX8_on cX8_on 4 (some .int) 2 := ⟨⟨ap_tw (k := 725) (by decide +kernel) (by decide +kernel), ap_tw (k := 53) (by decide +kernel) (by decide +kernel), by decide⟩, by decide +kernel, by decide +kernel, by decide +kernel⟩
theorem lv_X8_on : ap_LV yX8_on := ⟨ap_tw (k := 723) (by decide +kernel) (by decide +kernel), ap_tw (k := 724) (by decide +kernel) (by decide +kernel)⟩
theorem lk_X8_pass : ap_LK yX8_pass cX8_pass 3 (some .int) 1 := ⟨⟨ap_tw (k := 707) (by decide +kernel) (by decide +kernel), ap_tw (k := 53) (by decide +kernel) (by decide +kernel), by decide⟩, by decide +kernel, by decide +kernel, by decide +kernel⟩
theorem lv_X8_pass : ap_LV yX8_pass := ⟨ap_tw (k := 705) (by decide +kernel) (by decide +kernel), ap_tw (k := 706) (by decide +kernel) (by decide +kernel)⟩
theorem lk_X8_person : ap_LK yX8_person cX8_person 4 (some .int) 3 := ⟨⟨ap_tw (k := 585) (by decide +kernel) (by decide +kernel), ap_tw (k := 53) (by decide +kernel) (by decide +kernel), by decide⟩, by decide +kernel, by decide +kernel, by decide +kernel⟩
theorem lv_X8_person : ap_LV yX8_person := ⟨ap_tw (k := 583) (by decide +kernel) (by decide +kernel), ap_tw (k := 584) (by decide +kernel) (by decide +kernel)⟩
theorem lk_X8_plan : ap_LK yX8_plan cX8_plan 3 (some .int) 2 := ⟨⟨ap_tw (k := 815) (by decide +kernel) (by decide +kernel), ap_tw (k := 53) (by decide +kernel) (by decide +kernel), by decide⟩, by decide +kernel, by decide +kernel, by decide +kernel⟩
theorem lv_X8_plan : ap_LV yX8_plan := ⟨ap_tw (k := 813) (by decide +kernel) (by decide +kernel), ap_tw (k := 814) (by decide +kernel) (by decide +kernel)⟩
theorem lk_X8_see : ap_LK yX8_see cX8_see 3 (some .int) 2 := ⟨⟨ap_tw (k := 777) (by decide +kernel) (by decide +kernel), ap_tw (k := 53) (by decide +kernel) (by decide +kernel), by decide⟩, by decide +kernel, by decide +kernel, by decide +kernel⟩
theorem lv_X8_see : ap_LV yX8_see := ⟨ap_tw (k := 775) (by decide +kernel) (by decide +kernel), ap_tw (k := 776) (by decide +kernel) (by decide +kernel)⟩
theorem lk_X8_soonest : ap_LK yX8_soonest cX8_soonest 7 (some .int) 2 := ⟨⟨ap_tw (k := 743) (by decide +kernel) (by decide +kernel), ap_tw (k := 53) (by decide +kernel) (by decide +kernel), by decide⟩, by decide +kernel, by decide +kernel, by decide +kernel⟩
theorem lv_X8_soonest : ap_LV yX8_soonest := ⟨ap_tw (k := 741) (by decide +kernel) (by decide +kernel), ap_tw (k := 742) (by decide +kernel) (by decide +kernel)⟩
theorem lk_X8_sought : ap_LK yX8_sought cX8_sought 4 (some .int) 0 := ⟨⟨ap_tw (k := 798) (by decide +kernel) (by decide +kernel), ap_tw (k := 53) (by decide +kernel) (by decide +kernel), by decide⟩, by decide +kernel, by decide +kernel, by decide +kernel⟩
theorem lv_X8_sought : ap_LV yX8_sought := ⟨ap_tw (k := 796) (by decide +kernel) (by decide +kernel), ap_tw (k := 797) (by decide +kernel) (by decide +kernel)⟩
theorem lk_X8_told : ap_LK yX8_told cX8_told 2 (some .int) 1 := ⟨⟨ap_tw (k := 694) (by decide +kernel) (by decide +kernel), ap_tw (k := 53) (by decide +kernel) (by decide +kernel), by decide⟩, by decide +kernel, by decide +kernel, by decide +kernel⟩
theorem lv_X8_told : ap_LV yX8_told := ⟨ap_tw (k := 692) (by decide +kernel) (by decide +kernel), ap_tw (k := 693) (by decide +kernel) (by decide +kernel)⟩
theorem lk_X8_town : ap_LK yX8_town cX8_town 2 (some .int) 0 := ⟨⟨ap_tw (k := 382) (by decide +kernel) (by decide +kernel), ap_tw (k := 53) (by decide +kernel) (by decide +kernel), by decide⟩, by decide +kernel, by decide +kernel, by decide +kernel⟩
theorem lv_X8_town : ap_LV yX8_town := ⟨ap_tw (k := 380) (by decide +kernel) (by decide +kernel), ap_tw (k := 381) (by decide +kernel) (by decide +kernel)⟩
theorem lk_X8_trace : ap_LK yX8_trace cX8_trace 2 (some .int) 1 := ⟨⟨ap_tw (k := 856) (by decide +kernel) (by decide +kernel), ap_tw (k := 53) (by decide +kernel) (by decide +kernel), by decide⟩, by decide +kernel, by decide +kernel, by decide +kernel⟩
theorem lv_X8_trace : ap_LV yX8_trace := ⟨ap_tw (k := 854) (by decide +kernel) (by decide +kernel), ap_tw (k := 855) (by decide +kernel) (by decide +kernel)⟩
theorem lk_X8_undo : ap_LK yX8_undo cX8_undo 1 (some .int) 0 := ⟨⟨ap_tw (k := 882) (by decide +kernel) (by decide +kernel), ap_tw (k := 53) (by decide +kernel) (by decide +kernel), by decide⟩, by decide +kernel, by decide +kernel, by decide +kernel⟩
theorem lv_X8_undo : ap_LV yX8_undo := ⟨ap_tw (k := 880) (by decide +kernel) (by decide +kernel), ap_tw (k := 881) (by decide +kernel) (by decide +kernel)⟩
theorem lk_X8_walk : ap_LK yX8_walk cX8_walk 2 (some .int) 1 := ⟨⟨ap_tw (k := 769) (by decide +kernel) (by decide +kernel), ap_tw (k := 53) (by decide +kernel) (by decide +kernel), by decide⟩, by decide +kernel, by decide +kernel, by decide +kernel⟩
theorem lv_X8_walk : ap_LV yX8_walk := ⟨ap_tw (k := 767) (by decide +kernel) (by decide +kernel), ap_tw (k := 768) (by decide +kernel) (by decide +kernel)⟩
theorem lk_X9_act : ap_LK yX9_act cX9_act 4 (some .int) 3 := ⟨⟨ap_tw (k := 1196) (by decide +kernel) (by decide +kernel), ap_tw (k := 63) (by decide +kernel) (by decide +kernel), by decide⟩, by decide +kernel, by decide +kernel, by decide +kernel⟩
theorem lv_X9_act : ap_LV yX9_act := ⟨ap_tw (k := 1194) (by decide +kernel) (by decide +kernel), ap_tw (k := 1195) (by decide +kernel) (by decide +kernel)⟩
theorem lk_X9_as : ap_LK yX9_as cX9_as 3 (some .int) 2 := ⟨⟨ap_tw (k := 1235) (by decide +kernel) (by decide +kernel), ap_tw (k := 63) (by decide +kernel) (by decide +kernel), by decide⟩, by decide +kernel, by decide +kernel, by decide +kernel⟩
theorem lv_X9_as : ap_LV yX9_as := ⟨ap_tw (k := 1233) (by decide +kernel) (by decide +kernel), ap_tw (k := 1234) (by decide +kernel) (by decide +kernel)⟩
theorem lk_X9_away : ap_LK yX9_away cX9_away 3 (some .int) 2 := ⟨⟨ap_tw (k := 1060) (by decide +kernel) (by decide +kernel), ap_tw (k := 63) (by decide +kernel) (by decide +kernel), by decide⟩, by decide +kernel, by decide +kernel, by decide +kernel⟩
theorem lv_X9_away : ap_LV yX9_away := ⟨ap_tw (k := 1058) (by decide +kernel) (by decide +kernel), ap_tw (k := 1059) (by decide +kernel) (by decide +kernel)⟩
theorem lk_X9_book : ap_LK yX9_book cX9_book 3 (some .int) 2 := ⟨⟨ap_tw (k := 1188) (by decide +kernel) (by decide +kernel), ap_tw (k := 63) (by decide +kernel) (by decide +kernel), by decide⟩, by decide +kernel, by decide +kernel, by decide +kernel⟩
theorem lv_X9_book : ap_LV yX9_book := ⟨ap_tw (k := 1186) (by decide +kernel) (by decide +kernel), ap_tw (k := 1187) (by decide +kernel) (by decide +kernel)⟩
theorem lk_X9_call : ap_LK yX9_call cX9_call 7 (some .int) 1 := ⟨⟨ap_tw (k := 1117) (by decide +kernel) (by decide +kernel), ap_tw (k := 63) (by decide +kernel) (by decide +kernel), by decide⟩, by decide +kernel, by decide +kernel, by decide +kernel⟩
theorem lv_X9_call : ap_LV yX9_call := ⟨ap_tw (k := 1115) (by decide +kernel) (by decide +kernel), ap_tw (k := 1116) (by decide +kernel) (by decide +kernel)⟩
theorem lk_X9_count : ap_LK yX9_count cX9_count 2 (some .int) 1 := ⟨⟨ap_tw (k := 1247) (by decide +kernel) (by decide +kernel), ap_tw (k := 63) (by decide +kernel) (by decide +kernel), by decide⟩, by decide +kernel, by decide +kernel, by decide +kernel⟩
theorem lv_X9_count : ap_LV yX9_count := ⟨ap_tw (k := 1245) (by decide +kernel) (by decide +kernel), ap_tw (k := 1246) (by decide +kernel) (by decide +kernel)⟩
theorem lk_X9_done : ap_LK yX9_done cX9_done 3 (some .int) 1 := ⟨⟨ap_tw (k := 1180) (by decide +kernel) (by decide +kernel), ap_tw (k := 63) (by decide +kernel) (by decide +kernel), by decide⟩, by decide +kernel, by decide +kernel, by decide +kernel⟩
theorem lv_X9_done : ap_LV yX9_done := ⟨ap_tw (k := 1178) (by decide +kernel) (by decide +kernel), ap_tw (k := 1179) (by decide +kernel) (by decide +kernel)⟩
theorem lk_X9_doors : ap_LK yX9_doors cX9_doors 4 (some .int) 1 := ⟨⟨ap_tw (k := 1144) (by decide +kernel) (by decide +kernel), ap_tw (k := 63) (by decide +kernel) (by decide +kernel), by decide⟩, by decide +kernel, by decide +kernel, by decide +kernel⟩
theorem lv_X9_doors : ap_LV yX9_doors := ⟨ap_tw (k := 1142) (by decide +kernel) (by decide +kernel), ap_tw (k := 1143) (by decide +kernel) (by decide +kernel)⟩
theorem lk_X9_feed : ap_LK yX9_feed cX9_feed 2 (some .int) 1 := ⟨⟨ap_tw (k := 948) (by decide +kernel) (by decide +kernel), ap_tw (k := 63) (by decide +kernel) (by decide +kernel), by decide⟩, by decide +kernel, by decide +kernel, by decide +kernel⟩
theorem lv_X9_feed : ap_LV yX9_feed := ⟨ap_tw (k := 946) (by decide +kernel) (by decide +kernel), ap_tw (k := 947) (by decide +kernel) (by decide +kernel)⟩
theorem lk_X9_finds : ap_LK yX9_finds cX9_finds 3 (some .int) 1 := ⟨⟨ap_tw (k := 1104) (by decide +kernel) (by decide +kernel), ap_tw (k := 63) (by decide +kernel) (by decide +kernel), by decide⟩, by decide +kernel, by decide +kernel, by decide +kernel⟩
theorem lv_X9_finds : ap_LV yX9_finds := ⟨ap_tw (k := 1102) (by decide +kernel) (by decide +kernel), ap_tw (k := 1103) (by decide +kernel) (by decide +kernel)⟩
theorem lk_X9_firm : ap_LK yX9_firm cX9_firm 8 (some .int) 2 := ⟨⟨ap_tw (k := 1156) (by decide +kernel) (by decide +kernel), ap_tw (k := 63) (by decide +kernel) (by decide +kernel), by decide⟩, by decide +kernel, by decide +kernel, by decide +kernel⟩
theorem lv_X9_firm : ap_LV yX9_firm := ⟨ap_tw (k := 1154) (by decide +kernel) (by decide +kernel), ap_tw (k := 1155) (by decide +kernel) (by decide +kernel)⟩
theorem lk_X9_image : ap_LK yX9_image cX9_image 2 (some .int) 0 := ⟨⟨ap_tw (k := 1239) (by decide +kernel) (by decide +kernel), ap_tw (k := 63) (by decide +kernel) (by decide +kernel), by decide⟩, by decide +kernel, by decide +kernel, by decide +kernel⟩
theorem lv_X9_image : ap_LV yX9_image := ⟨ap_tw (k := 1237) (by decide +kernel) (by decide +kernel), ap_tw (k := 1238) (by decide +kernel) (by decide +kernel)⟩
theorem lk_X9_kept : ap_LK yX9_kept cX9_kept 5 (some .int) 1 := ⟨⟨ap_tw (k := 1121) (by decide +kernel) (by decide +kernel), ap_tw (k := 63) (by decide +kernel) (by decide +kernel), by decide⟩, by decide +kernel, by decide +kernel, by decide +kernel⟩
theorem lv_X9_kept : ap_LV yX9_kept := ⟨ap_tw (k := 1119) (by decide +kernel) (by decide +kernel), ap_tw (k := 1120) (by decide +kernel) (by decide +kernel)⟩
theorem lk_X9_lay : ap_LK yX9_lay cX9_lay 2 (some .int) 1 := ⟨⟨ap_tw (k := 1064) (by decide +kernel) (by decide +kernel), ap_tw (k := 63) (by decide +kernel) (by decide +kernel), by decide⟩, by decide +kernel, by decide +kernel, by decide +kernel⟩
theorem lv_X9_lay : ap_LV yX9_lay := ⟨ap_tw (k := 1062) (by decide +kernel) (by decide +kernel), ap_tw (k := 1063) (by decide +kernel) (by decide +kernel)⟩
theorem lk_X9_line : ap_LK yX9_line cX9_line 5 (some .int) 3 := ⟨⟨ap_tw (k := 1048) (by decide +kernel) (by decide +kernel), ap_tw (k := 63) (by decide +kernel) (by decide +kernel), by decide⟩, by decide +kernel, by decide +kernel, by decide +kernel⟩
theorem lv_X9_line : ap_LV yX9_line := ⟨ap_tw (k := 1046) (by decide +kernel) (by decide +kernel), ap_tw (k := 1047) (by decide +kernel) (by decide +kernel)⟩
theorem lk_X9_looked : ap_LK yX9_looked cX9_looked 2 (some .int) 0 := ⟨⟨ap_tw (k := 1192) (by decide +kernel) (by decide +kernel), ap_tw (k := 63) (by decide +kernel) (by decide +kernel), by decide⟩, by decide +kernel, by decide +kernel, by decide +kernel⟩
theorem lv_X9_looked : ap_LV yX9_looked := ⟨ap_tw (k := 1190) (by decide +kernel) (by decide +kernel), ap_tw (k := 1191) (by decide +kernel) (by decide +kernel)⟩
theorem lk_X9_mean : ap_LK yX9_mean cX9_mean 7 (some .long) 2 := ⟨⟨ap_tw (k := 1172) (by decide +kernel) (by decide +kernel), ap_tw (k := 63) (by decide +kernel) (by decide +kernel), by decide⟩, by decide +kernel, by decide +kernel, by decide +kernel⟩
theorem lv_X9_mean : ap_LV yX9_mean := ⟨ap_tw (k := 1170) (by decide +kernel) (by decide +kernel), ap_tw (k := 1171) (by decide +kernel) (by decide +kernel)⟩
theorem lk_X9_met : ap_LK yX9_met cX9_met 4 (some .int) 1 := ⟨⟨ap_tw (k := 1136) (by decide +kernel) (by decide +kernel), ap_tw (k := 63) (by decide +kernel) (by decide +kernel), by decide⟩, by decide +kernel, by decide +kernel, by decide +kernel⟩
theorem lv_X9_met : ap_LV yX9_met := ⟨ap_tw (k := 1134) (by decide +kernel) (by decide +kernel), ap_tw (k := 1135) (by decide +kernel) (by decide +kernel)⟩
theorem lk_X9_move : ap_LK yX9_move cX9_move 3 (some .int) 2 := ⟨⟨ap_tw (k := 1052) (by decide +kernel) (by decide +kernel), ap_tw (k := 63) (by decide +kernel) (by decide +kernel), by decide⟩, by decide +kernel, by decide +kernel, by decide +kernel⟩
theorem lv_X9_move : ap_LV yX9_move := ⟨ap_tw (k := 1050) (by decide +kernel) (by decide +kernel), ap_tw (k := 1051) (by decide +kernel) (by decide +kernel)⟩
theorem lk_X9_odds : ap_LK yX9_odds cX9_odds 7 (some .long) 3 := ⟨⟨ap_tw (k := 1164) (by decide +kernel) (by decide +kernel), ap_tw (k := 63) (by decide +kernel) (by decide +kernel), by decide⟩, by decide +kernel, by decide +kernel, by decide +kernel⟩
theorem lv_X9_odds : ap_LV yX9_odds := ⟨ap_tw (k := 1162) (by decide +kernel) (by decide +kernel), ap_tw (k := 1163) (by decide +kernel) (by decide +kernel)⟩
theorem lk_X9_of : ap_LK yX9_of cX9_of 3 (some .int) 2 := ⟨⟨ap_tw (k := 1021) (by decide +kernel) (by decide +kernel), ap_tw (k := 63) (by decide +kernel) (by decide +kernel), by decide⟩, by decide +kernel, by decide +kernel, by decide +kernel⟩
theorem lv_X9_of : ap_LV yX9_of := ⟨ap_tw (k := 1019) (by decide +kernel) (by decide +kernel), ap_tw (k := 1020) (by decide +kernel) (by decide +kernel)⟩
theorem lk_X9_on : ap_LK yX9_on cX9_on 4 (some .int) 2 := ⟨⟨ap_tw (k := 1088) (by decide +kernel) (by decide +kernel), ap_tw (k := 63) (by decide +kernel) (by decide +kernel), by decide⟩, by decide +kernel, by decide +kernel, by decide +kernel⟩
theorem lv_X9_on : ap_LV yX9_on := ⟨ap_tw (k := 1086) (by decide +kernel) (by decide +kernel), ap_tw (k := 1087) (by decide +kernel) (by decide +kernel)⟩
theorem lk_X9_pass : ap_LK yX9_pass cX9_pass 4 (some .int) 1 := ⟨⟨ap_tw (k := 1080) (by decide +kernel) (by decide +kernel), ap_tw (k := 63) (by decide +kernel) (by decide +kernel), by decide⟩, by decide +kernel, by decide +kernel, by decide +kernel⟩
theorem lv_X9_pass : ap_LV yX9_pass := ⟨ap_tw (k := 1078) (by decide +kernel) (by decide +kernel), ap_tw (k := 1079) (by decide +kernel) (by decide +kernel)⟩
theorem lk_X9_person : ap_LK yX9_person cX9_person 6 (some .int) 3 := ⟨⟨ap_tw (k := 1014) (by decide +kernel) (by decide +kernel), ap_tw (k := 63) (by decide +kernel) (by decide +kernel), by decide⟩, by decide +kernel, by decide +kernel, by decide +kernel⟩
theorem lv_X9_person : ap_LV yX9_person := ⟨ap_tw (k := 1012) (by decide +kernel) (by decide +kernel), ap_tw (k := 1013) (by decide +kernel) (by decide +kernel)⟩
theorem lk_X9_plan : ap_LK yX9_plan cX9_plan 3 (some .int) 2 := ⟨⟨ap_tw (k := 1176) (by decide +kernel) (by decide +kernel), ap_tw (k := 63) (by decide +kernel) (by decide +kernel), by decide⟩, by decide +kernel, by decide +kernel, by decide +kernel⟩
theorem lv_X9_plan : ap_LV yX9_plan := ⟨ap_tw (k := 1174) (by decide +kernel) (by decide +kernel), ap_tw (k := 1175) (by decide +kernel) (by decide +kernel)⟩
theorem lk_X9_see : ap_LK yX9_see cX9_see 3 (some .int) 2 := ⟨⟨ap_tw (k := 1140) (by decide +kernel) (by decide +kernel), ap_tw (k := 63) (by decide +kernel) (by decide +kernel), by decide⟩, by decide +kernel, by decide +kernel, by decide +kernel⟩
theorem lv_X9_see : ap_LV yX9_see := ⟨ap_tw (k := 1138) (by decide +kernel) (by decide +kernel), ap_tw (k := 1139) (by decide +kernel) (by decide +kernel)⟩
theorem lk_X9_soonest : ap_LK yX9_soonest cX9_soonest 7 (some .int) 2 := ⟨⟨ap_tw (k := 1113) (by decide +kernel) (by decide +kernel), ap_tw (k := 63) (by decide +kernel) (by decide +kernel), by decide⟩, by decide +kernel, by decide +kernel, by decide +kernel⟩
theorem lv_X9_soonest : ap_LV yX9_soonest := ⟨ap_tw (k := 1111) (by decide +kernel) (by decide +kernel), ap_tw (k := 1112) (by decide +kernel) (by decide +kernel)⟩
theorem lk_X9_sought : ap_LK yX9_sought cX9_sought 4 (some .int) 0 := ⟨⟨ap_tw (k := 1160) (by decide +kernel) (by decide +kernel), ap_tw (k := 63) (by decide +kernel) (by decide +kernel), by decide⟩, by decide +kernel, by decide +kernel, by decide +kernel⟩
theorem lv_X9_sought : ap_LV yX9_sought := ⟨ap_tw (k := 1158) (by decide +kernel) (by decide +kernel), ap_tw (k := 1159) (by decide +kernel) (by decide +kernel)⟩
theorem lk_X9_told : ap_LK yX9_told cX9_told 2 (some .int) 1 := ⟨⟨ap_tw (k := 1068) (by decide +kernel) (by decide +kernel), ap_tw (k := 63) (by decide +kernel) (by decide +kernel), by decide⟩, by decide +kernel, by decide +kernel, by decide +kernel⟩
theorem lv_X9_told : ap_LV yX9_told := ⟨ap_tw (k := 1066) (by decide +kernel) (by decide +kernel), ap_tw (k := 1067) (by decide +kernel) (by decide +kernel)⟩
theorem lk_X9_town : ap_LK yX9_town cX9_town 2 (some .int) 0 := ⟨⟨ap_tw (k := 955) (by decide +kernel) (by decide +kernel), ap_tw (k := 63) (by decide +kernel) (by decide +kernel), by decide⟩, by decide +kernel, by decide +kernel, by decide +kernel⟩
theorem lv_X9_town : ap_LV yX9_town := ⟨ap_tw (k := 953) (by decide +kernel) (by decide +kernel), ap_tw (k := 954) (by decide +kernel) (by decide +kernel)⟩
theorem lk_X9_trace : ap_LK yX9_trace cX9_trace 2 (some .int) 1 := ⟨⟨ap_tw (k := 1231) (by decide +kernel) (by decide +kernel), ap_tw (k := 63) (by decide +kernel) (by decide +kernel), by decide⟩, by decide +kernel, by decide +kernel, by decide +kernel⟩
theorem lv_X9_trace : ap_LV yX9_trace := ⟨ap_tw (k := 1229) (by decide +kernel) (by decide +kernel), ap_tw (k := 1230) (by decide +kernel) (by decide +kernel)⟩
theorem lk_X9_undo : ap_LK yX9_undo cX9_undo 2 (some .int) 0 := ⟨⟨ap_tw (k := 1243) (by decide +kernel) (by decide +kernel), ap_tw (k := 63) (by decide +kernel) (by decide +kernel), by decide⟩, by decide +kernel, by decide +kernel, by decide +kernel⟩
theorem lv_X9_undo : ap_LV yX9_undo := ⟨ap_tw (k := 1241) (by decide +kernel) (by decide +kernel), ap_tw (k := 1242) (by decide +kernel) (by decide +kernel)⟩
theorem lk_X9_walk : ap_LK yX9_walk cX9_walk 2 (some .int) 1 := ⟨⟨ap_tw (k := 1132) (by decide +kernel) (by decide +kernel), ap_tw (k := 63) (by decide +kernel) (by decide +kernel), by decide⟩, by decide +kernel, by decide +kernel, by decide +kernel⟩
theorem lv_X9_walk : ap_LV yX9_walk := ⟨ap_tw (k := 1130) (by decide +kernel) (by decide +kernel), ap_tw (k := 1131) (by decide +kernel) (by decide +kernel)⟩
theorem dL_law_0 : decode code 0 = .ok (.new 7, 3) := by decide +kernel
theorem dL_law_3 : decode code 3 = .ok (.dup, 1) := by decide +kernel
theorem dL_law_4 : decode code 4 = .ok (.invokespecial 9, 3) := by decide +kernel
theorem dL_law_7 : decode code 7 = .ok (.astore_n 1, 1) := by decide +kernel
theorem dL_law_8 : decode code 8 = .ok (.new 10, 3) := by decide +kernel
theorem dL_law_11 : decode code 11 = .ok (.dup, 1) := by decide +kernel
theorem dL_law_12 : decode code 12 = .ok (.invokespecial 12, 3) := by decide +kernel
theorem dL_law_15 : decode code 15 = .ok (.astore_n 2, 1) := by decide +kernel
theorem dL_law_16 : decode code 16 = .ok (.iconst 0, 1) := by decide +kernel
theorem dL_law_17 : decode code 17 = .ok (.istore_n 3, 1) := by decide +kernel
theorem dL_law_18 : decode code 18 = .ok (.iload_n 3, 1) := by decide +kernel
theorem dL_law_19 : decode code 19 = .ok (.aload_n 0, 1) := by decide +kernel
theorem dL_law_20 : decode code 20 = .ok (.arraylength, 1) := by decide +kernel
theorem dL_law_21 : decode code 21 = .ok (.iconst 4, 1) := by decide +kernel
theorem dL_law_22 : decode code 22 = .ok (.isub, 1) := by decide +kernel
theorem dL_law_23 : decode code 23 = .ok (.if_icmp .gt 1080, 3) := by decide +kernel
theorem dL_law_26 : decode code 26 = .ok (.aload_n 0, 1) := by decide +kernel
theorem dL_law_27 : decode code 27 = .ok (.iload_n 3, 1) := by decide +kernel
theorem dL_law_28 : decode code 28 = .ok (.iaload, 1) := by decide +kernel
theorem dL_law_29 : decode code 29 = .ok (.bipush 63, 2) := by decide +kernel
theorem dL_law_31 : decode code 31 = .ok (.iand, 1) := by decide +kernel
theorem dL_law_32 : decode code 32 = .ok (.tableswitch 1065 0 32 #[148, 171, 184, 227, 260, 303, 336, 385, 408, 431, 454, 487, 510, 543, 566, 589, 612, 635, 668, 691, 724, 737, 781, 815, 848, 871, 904, 917, 960, 983, 1016, 1029, 1042], 148) := by decide +kernel
theorem dL_law_180 : decode code 180 = .ok (.aload_n 1, 1) := by decide +kernel
theorem dL_law_181 : decode code 181 = .ok (.aload_n 0, 1) := by decide +kernel
theorem dL_law_182 : decode code 182 = .ok (.iload_n 3, 1) := by decide +kernel
theorem dL_law_183 : decode code 183 = .ok (.iconst 1, 1) := by decide +kernel
theorem dL_law_184 : decode code 184 = .ok (.iadd, 1) := by decide +kernel
theorem dL_law_185 : decode code 185 = .ok (.iaload, 1) := by decide +kernel
theorem dL_law_186 : decode code 186 = .ok (.invokevirtual 13, 3) := by decide +kernel
theorem dL_law_189 : decode code 189 = .ok (.aload_n 2, 1) := by decide +kernel
theorem dL_law_190 : decode code 190 = .ok (.aload_n 0, 1) := by decide +kernel
theorem dL_law_191 : decode code 191 = .ok (.iload_n 3, 1) := by decide +kernel
theorem dL_law_192 : decode code 192 = .ok (.iconst 1, 1) := by decide +kernel
theorem dL_law_193 : decode code 193 = .ok (.iadd, 1) := by decide +kernel
theorem dL_law_194 : decode code 194 = .ok (.iaload, 1) := by decide +kernel
theorem dL_law_195 : decode code 195 = .ok (.invokevirtual 17, 3) := by decide +kernel
theorem dL_law_198 : decode code 198 = .ok (.if_icmp .eq 899, 3) := by decide +kernel
theorem dL_law_201 : decode code 201 = .ok (.iconst 0, 1) := by decide +kernel
theorem dL_law_202 : decode code 202 = .ok (.ireturn, 1) := by decide +kernel
theorem dL_law_203 : decode code 203 = .ok (.aload_n 1, 1) := by decide +kernel
theorem dL_law_204 : decode code 204 = .ok (.invokevirtual 18, 3) := by decide +kernel
theorem dL_law_207 : decode code 207 = .ok (.aload_n 2, 1) := by decide +kernel
theorem dL_law_208 : decode code 208 = .ok (.invokevirtual 22, 3) := by decide +kernel
theorem dL_law_211 : decode code 211 = .ok (.if_icmp .eq 886, 3) := by decide +kernel
theorem dL_law_214 : decode code 214 = .ok (.iconst 0, 1) := by decide +kernel
theorem dL_law_215 : decode code 215 = .ok (.ireturn, 1) := by decide +kernel
theorem dL_law_216 : decode code 216 = .ok (.aload_n 1, 1) := by decide +kernel
theorem dL_law_217 : decode code 217 = .ok (.aload_n 0, 1) := by decide +kernel
theorem dL_law_218 : decode code 218 = .ok (.iload_n 3, 1) := by decide +kernel
theorem dL_law_219 : decode code 219 = .ok (.iconst 1, 1) := by decide +kernel
theorem dL_law_220 : decode code 220 = .ok (.iadd, 1) := by decide +kernel
theorem dL_law_221 : decode code 221 = .ok (.iaload, 1) := by decide +kernel
theorem dL_law_222 : decode code 222 = .ok (.aload_n 0, 1) := by decide +kernel
theorem dL_law_223 : decode code 223 = .ok (.iload_n 3, 1) := by decide +kernel
theorem dL_law_224 : decode code 224 = .ok (.iconst 2, 1) := by decide +kernel
theorem dL_law_225 : decode code 225 = .ok (.iadd, 1) := by decide +kernel
theorem dL_law_226 : decode code 226 = .ok (.iaload, 1) := by decide +kernel
theorem dL_law_227 : decode code 227 = .ok (.aload_n 0, 1) := by decide +kernel
theorem dL_law_228 : decode code 228 = .ok (.iload_n 3, 1) := by decide +kernel
theorem dL_law_229 : decode code 229 = .ok (.iconst 3, 1) := by decide +kernel
theorem dL_law_230 : decode code 230 = .ok (.iadd, 1) := by decide +kernel
theorem dL_law_231 : decode code 231 = .ok (.iaload, 1) := by decide +kernel
theorem dL_law_232 : decode code 232 = .ok (.invokevirtual 23, 3) := by decide +kernel
theorem dL_law_235 : decode code 235 = .ok (.aload_n 2, 1) := by decide +kernel
theorem dL_law_236 : decode code 236 = .ok (.aload_n 0, 1) := by decide +kernel
theorem dL_law_237 : decode code 237 = .ok (.iload_n 3, 1) := by decide +kernel
theorem dL_law_238 : decode code 238 = .ok (.iconst 1, 1) := by decide +kernel
theorem dL_law_239 : decode code 239 = .ok (.iadd, 1) := by decide +kernel
theorem dL_law_240 : decode code 240 = .ok (.iaload, 1) := by decide +kernel
theorem dL_law_241 : decode code 241 = .ok (.aload_n 0, 1) := by decide +kernel
theorem dL_law_242 : decode code 242 = .ok (.iload_n 3, 1) := by decide +kernel
theorem dL_law_243 : decode code 243 = .ok (.iconst 2, 1) := by decide +kernel
theorem dL_law_244 : decode code 244 = .ok (.iadd, 1) := by decide +kernel
theorem dL_law_245 : decode code 245 = .ok (.iaload, 1) := by decide +kernel
theorem dL_law_246 : decode code 246 = .ok (.aload_n 0, 1) := by decide +kernel
theorem dL_law_247 : decode code 247 = .ok (.iload_n 3, 1) := by decide +kernel
theorem dL_law_248 : decode code 248 = .ok (.iconst 3, 1) := by decide +kernel
theorem dL_law_249 : decode code 249 = .ok (.iadd, 1) := by decide +kernel
theorem dL_law_250 : decode code 250 = .ok (.iaload, 1) := by decide +kernel
theorem dL_law_251 : decode code 251 = .ok (.invokevirtual 27, 3) := by decide +kernel
theorem dL_law_254 : decode code 254 = .ok (.if_icmp .eq 843, 3) := by decide +kernel
theorem dL_law_257 : decode code 257 = .ok (.iconst 0, 1) := by decide +kernel
theorem dL_law_258 : decode code 258 = .ok (.ireturn, 1) := by decide +kernel
theorem dL_law_259 : decode code 259 = .ok (.aload_n 1, 1) := by decide +kernel
theorem dL_law_260 : decode code 260 = .ok (.aload_n 0, 1) := by decide +kernel
theorem dL_law_261 : decode code 261 = .ok (.iload_n 3, 1) := by decide +kernel
theorem dL_law_262 : decode code 262 = .ok (.iconst 1, 1) := by decide +kernel
theorem dL_law_263 : decode code 263 = .ok (.iadd, 1) := by decide +kernel
theorem dL_law_264 : decode code 264 = .ok (.iaload, 1) := by decide +kernel
theorem dL_law_265 : decode code 265 = .ok (.aload_n 0, 1) := by decide +kernel
theorem dL_law_266 : decode code 266 = .ok (.iload_n 3, 1) := by decide +kernel
theorem dL_law_267 : decode code 267 = .ok (.iconst 2, 1) := by decide +kernel
theorem dL_law_268 : decode code 268 = .ok (.iadd, 1) := by decide +kernel
theorem dL_law_269 : decode code 269 = .ok (.iaload, 1) := by decide +kernel
theorem dL_law_270 : decode code 270 = .ok (.invokevirtual 28, 3) := by decide +kernel
theorem dL_law_273 : decode code 273 = .ok (.aload_n 2, 1) := by decide +kernel
theorem dL_law_274 : decode code 274 = .ok (.aload_n 0, 1) := by decide +kernel
theorem dL_law_275 : decode code 275 = .ok (.iload_n 3, 1) := by decide +kernel
theorem dL_law_276 : decode code 276 = .ok (.iconst 1, 1) := by decide +kernel
theorem dL_law_277 : decode code 277 = .ok (.iadd, 1) := by decide +kernel
theorem dL_law_278 : decode code 278 = .ok (.iaload, 1) := by decide +kernel
theorem dL_law_279 : decode code 279 = .ok (.aload_n 0, 1) := by decide +kernel
theorem dL_law_280 : decode code 280 = .ok (.iload_n 3, 1) := by decide +kernel
theorem dL_law_281 : decode code 281 = .ok (.iconst 2, 1) := by decide +kernel
theorem dL_law_282 : decode code 282 = .ok (.iadd, 1) := by decide +kernel
theorem dL_law_283 : decode code 283 = .ok (.iaload, 1) := by decide +kernel
theorem dL_law_284 : decode code 284 = .ok (.invokevirtual 32, 3) := by decide +kernel
theorem dL_law_287 : decode code 287 = .ok (.if_icmp .eq 810, 3) := by decide +kernel
theorem dL_law_290 : decode code 290 = .ok (.iconst 0, 1) := by decide +kernel
theorem dL_law_291 : decode code 291 = .ok (.ireturn, 1) := by decide +kernel
theorem dL_law_292 : decode code 292 = .ok (.aload_n 1, 1) := by decide +kernel
theorem dL_law_293 : decode code 293 = .ok (.aload_n 0, 1) := by decide +kernel
theorem dL_law_294 : decode code 294 = .ok (.iload_n 3, 1) := by decide +kernel
theorem dL_law_295 : decode code 295 = .ok (.iconst 1, 1) := by decide +kernel
theorem dL_law_296 : decode code 296 = .ok (.iadd, 1) := by decide +kernel
theorem dL_law_297 : decode code 297 = .ok (.iaload, 1) := by decide +kernel
theorem dL_law_298 : decode code 298 = .ok (.aload_n 0, 1) := by decide +kernel
theorem dL_law_299 : decode code 299 = .ok (.iload_n 3, 1) := by decide +kernel
theorem dL_law_300 : decode code 300 = .ok (.iconst 2, 1) := by decide +kernel
theorem dL_law_301 : decode code 301 = .ok (.iadd, 1) := by decide +kernel
theorem dL_law_302 : decode code 302 = .ok (.iaload, 1) := by decide +kernel
theorem dL_law_303 : decode code 303 = .ok (.aload_n 0, 1) := by decide +kernel
theorem dL_law_304 : decode code 304 = .ok (.iload_n 3, 1) := by decide +kernel
theorem dL_law_305 : decode code 305 = .ok (.iconst 3, 1) := by decide +kernel
theorem dL_law_306 : decode code 306 = .ok (.iadd, 1) := by decide +kernel
theorem dL_law_307 : decode code 307 = .ok (.iaload, 1) := by decide +kernel
theorem dL_law_308 : decode code 308 = .ok (.invokevirtual 33, 3) := by decide +kernel
theorem dL_law_311 : decode code 311 = .ok (.aload_n 2, 1) := by decide +kernel
theorem dL_law_312 : decode code 312 = .ok (.aload_n 0, 1) := by decide +kernel
theorem dL_law_313 : decode code 313 = .ok (.iload_n 3, 1) := by decide +kernel
theorem dL_law_314 : decode code 314 = .ok (.iconst 1, 1) := by decide +kernel
theorem dL_law_315 : decode code 315 = .ok (.iadd, 1) := by decide +kernel
theorem dL_law_316 : decode code 316 = .ok (.iaload, 1) := by decide +kernel
theorem dL_law_317 : decode code 317 = .ok (.aload_n 0, 1) := by decide +kernel
theorem dL_law_318 : decode code 318 = .ok (.iload_n 3, 1) := by decide +kernel
theorem dL_law_319 : decode code 319 = .ok (.iconst 2, 1) := by decide +kernel
theorem dL_law_320 : decode code 320 = .ok (.iadd, 1) := by decide +kernel
theorem dL_law_321 : decode code 321 = .ok (.iaload, 1) := by decide +kernel
theorem dL_law_322 : decode code 322 = .ok (.aload_n 0, 1) := by decide +kernel
theorem dL_law_323 : decode code 323 = .ok (.iload_n 3, 1) := by decide +kernel
theorem dL_law_324 : decode code 324 = .ok (.iconst 3, 1) := by decide +kernel
theorem dL_law_325 : decode code 325 = .ok (.iadd, 1) := by decide +kernel
theorem dL_law_326 : decode code 326 = .ok (.iaload, 1) := by decide +kernel
theorem dL_law_327 : decode code 327 = .ok (.invokevirtual 36, 3) := by decide +kernel
theorem dL_law_330 : decode code 330 = .ok (.if_icmp .eq 767, 3) := by decide +kernel
theorem dL_law_333 : decode code 333 = .ok (.iconst 0, 1) := by decide +kernel
theorem dL_law_334 : decode code 334 = .ok (.ireturn, 1) := by decide +kernel
theorem dL_law_335 : decode code 335 = .ok (.aload_n 1, 1) := by decide +kernel
theorem dL_law_336 : decode code 336 = .ok (.aload_n 0, 1) := by decide +kernel
theorem dL_law_337 : decode code 337 = .ok (.iload_n 3, 1) := by decide +kernel
theorem dL_law_338 : decode code 338 = .ok (.iconst 1, 1) := by decide +kernel
theorem dL_law_339 : decode code 339 = .ok (.iadd, 1) := by decide +kernel
theorem dL_law_340 : decode code 340 = .ok (.iaload, 1) := by decide +kernel
theorem dL_law_341 : decode code 341 = .ok (.aload_n 0, 1) := by decide +kernel
theorem dL_law_342 : decode code 342 = .ok (.iload_n 3, 1) := by decide +kernel
theorem dL_law_343 : decode code 343 = .ok (.iconst 2, 1) := by decide +kernel
theorem dL_law_344 : decode code 344 = .ok (.iadd, 1) := by decide +kernel
theorem dL_law_345 : decode code 345 = .ok (.iaload, 1) := by decide +kernel
theorem dL_law_346 : decode code 346 = .ok (.invokevirtual 37, 3) := by decide +kernel
theorem dL_law_349 : decode code 349 = .ok (.aload_n 2, 1) := by decide +kernel
theorem dL_law_350 : decode code 350 = .ok (.aload_n 0, 1) := by decide +kernel
theorem dL_law_351 : decode code 351 = .ok (.iload_n 3, 1) := by decide +kernel
theorem dL_law_352 : decode code 352 = .ok (.iconst 1, 1) := by decide +kernel
theorem dL_law_353 : decode code 353 = .ok (.iadd, 1) := by decide +kernel
theorem dL_law_354 : decode code 354 = .ok (.iaload, 1) := by decide +kernel
theorem dL_law_355 : decode code 355 = .ok (.aload_n 0, 1) := by decide +kernel
theorem dL_law_356 : decode code 356 = .ok (.iload_n 3, 1) := by decide +kernel
theorem dL_law_357 : decode code 357 = .ok (.iconst 2, 1) := by decide +kernel
theorem dL_law_358 : decode code 358 = .ok (.iadd, 1) := by decide +kernel
theorem dL_law_359 : decode code 359 = .ok (.iaload, 1) := by decide +kernel
theorem dL_law_360 : decode code 360 = .ok (.invokevirtual 40, 3) := by decide +kernel
theorem dL_law_363 : decode code 363 = .ok (.if_icmp .eq 734, 3) := by decide +kernel
theorem dL_law_366 : decode code 366 = .ok (.iconst 0, 1) := by decide +kernel
theorem dL_law_367 : decode code 367 = .ok (.ireturn, 1) := by decide +kernel
theorem dL_law_368 : decode code 368 = .ok (.aload_n 1, 1) := by decide +kernel
theorem dL_law_369 : decode code 369 = .ok (.aload_n 0, 1) := by decide +kernel
theorem dL_law_370 : decode code 370 = .ok (.iload_n 3, 1) := by decide +kernel
theorem dL_law_371 : decode code 371 = .ok (.iconst 1, 1) := by decide +kernel
theorem dL_law_372 : decode code 372 = .ok (.iadd, 1) := by decide +kernel
theorem dL_law_373 : decode code 373 = .ok (.iaload, 1) := by decide +kernel
theorem dL_law_374 : decode code 374 = .ok (.aload_n 0, 1) := by decide +kernel
theorem dL_law_375 : decode code 375 = .ok (.iload_n 3, 1) := by decide +kernel
theorem dL_law_376 : decode code 376 = .ok (.iconst 2, 1) := by decide +kernel
theorem dL_law_377 : decode code 377 = .ok (.iadd, 1) := by decide +kernel
theorem dL_law_378 : decode code 378 = .ok (.iaload, 1) := by decide +kernel
theorem dL_law_379 : decode code 379 = .ok (.ifCond .eq 7, 3) := by decide +kernel
theorem dL_law_382 : decode code 382 = .ok (.iconst 1, 1) := by decide +kernel
theorem dL_law_383 : decode code 383 = .ok (.goto 4, 3) := by decide +kernel
theorem dL_law_386 : decode code 386 = .ok (.iconst 0, 1) := by decide +kernel
theorem dL_law_387 : decode code 387 = .ok (.invokevirtual 41, 3) := by decide +kernel
theorem dL_law_390 : decode code 390 = .ok (.aload_n 2, 1) := by decide +kernel
theorem dL_law_391 : decode code 391 = .ok (.aload_n 0, 1) := by decide +kernel
theorem dL_law_392 : decode code 392 = .ok (.iload_n 3, 1) := by decide +kernel
theorem dL_law_393 : decode code 393 = .ok (.iconst 1, 1) := by decide +kernel
theorem dL_law_394 : decode code 394 = .ok (.iadd, 1) := by decide +kernel
theorem dL_law_395 : decode code 395 = .ok (.iaload, 1) := by decide +kernel
theorem dL_law_396 : decode code 396 = .ok (.aload_n 0, 1) := by decide +kernel
theorem dL_law_397 : decode code 397 = .ok (.iload_n 3, 1) := by decide +kernel
theorem dL_law_398 : decode code 398 = .ok (.iconst 2, 1) := by decide +kernel
theorem dL_law_399 : decode code 399 = .ok (.iadd, 1) := by decide +kernel
theorem dL_law_400 : decode code 400 = .ok (.iaload, 1) := by decide +kernel
theorem dL_law_401 : decode code 401 = .ok (.ifCond .eq 7, 3) := by decide +kernel
theorem dL_law_404 : decode code 404 = .ok (.iconst 1, 1) := by decide +kernel
theorem dL_law_405 : decode code 405 = .ok (.goto 4, 3) := by decide +kernel
theorem dL_law_408 : decode code 408 = .ok (.iconst 0, 1) := by decide +kernel
theorem dL_law_409 : decode code 409 = .ok (.invokevirtual 45, 3) := by decide +kernel
theorem dL_law_412 : decode code 412 = .ok (.if_icmp .eq 685, 3) := by decide +kernel
theorem dL_law_415 : decode code 415 = .ok (.iconst 0, 1) := by decide +kernel
theorem dL_law_416 : decode code 416 = .ok (.ireturn, 1) := by decide +kernel
theorem dL_law_417 : decode code 417 = .ok (.aload_n 1, 1) := by decide +kernel
theorem dL_law_418 : decode code 418 = .ok (.aload_n 0, 1) := by decide +kernel
theorem dL_law_419 : decode code 419 = .ok (.iload_n 3, 1) := by decide +kernel
theorem dL_law_420 : decode code 420 = .ok (.iconst 1, 1) := by decide +kernel
theorem dL_law_421 : decode code 421 = .ok (.iadd, 1) := by decide +kernel
theorem dL_law_422 : decode code 422 = .ok (.iaload, 1) := by decide +kernel
theorem dL_law_423 : decode code 423 = .ok (.invokevirtual 46, 3) := by decide +kernel
theorem dL_law_426 : decode code 426 = .ok (.aload_n 2, 1) := by decide +kernel
theorem dL_law_427 : decode code 427 = .ok (.aload_n 0, 1) := by decide +kernel
theorem dL_law_428 : decode code 428 = .ok (.iload_n 3, 1) := by decide +kernel
theorem dL_law_429 : decode code 429 = .ok (.iconst 1, 1) := by decide +kernel
theorem dL_law_430 : decode code 430 = .ok (.iadd, 1) := by decide +kernel
theorem dL_law_431 : decode code 431 = .ok (.iaload, 1) := by decide +kernel
theorem dL_law_432 : decode code 432 = .ok (.invokevirtual 49, 3) := by decide +kernel
theorem dL_law_435 : decode code 435 = .ok (.if_icmp .eq 662, 3) := by decide +kernel
theorem dL_law_438 : decode code 438 = .ok (.iconst 0, 1) := by decide +kernel
theorem dL_law_439 : decode code 439 = .ok (.ireturn, 1) := by decide +kernel
theorem dL_law_440 : decode code 440 = .ok (.aload_n 1, 1) := by decide +kernel
theorem dL_law_441 : decode code 441 = .ok (.aload_n 0, 1) := by decide +kernel
theorem dL_law_442 : decode code 442 = .ok (.iload_n 3, 1) := by decide +kernel
theorem dL_law_443 : decode code 443 = .ok (.iconst 1, 1) := by decide +kernel
theorem dL_law_444 : decode code 444 = .ok (.iadd, 1) := by decide +kernel
theorem dL_law_445 : decode code 445 = .ok (.iaload, 1) := by decide +kernel
theorem dL_law_446 : decode code 446 = .ok (.invokevirtual 50, 3) := by decide +kernel
theorem dL_law_449 : decode code 449 = .ok (.aload_n 2, 1) := by decide +kernel
theorem dL_law_450 : decode code 450 = .ok (.aload_n 0, 1) := by decide +kernel
theorem dL_law_451 : decode code 451 = .ok (.iload_n 3, 1) := by decide +kernel
theorem dL_law_452 : decode code 452 = .ok (.iconst 1, 1) := by decide +kernel
theorem dL_law_453 : decode code 453 = .ok (.iadd, 1) := by decide +kernel
theorem dL_law_454 : decode code 454 = .ok (.iaload, 1) := by decide +kernel
theorem dL_law_455 : decode code 455 = .ok (.invokevirtual 53, 3) := by decide +kernel
theorem dL_law_458 : decode code 458 = .ok (.if_icmp .eq 639, 3) := by decide +kernel
theorem dL_law_461 : decode code 461 = .ok (.iconst 0, 1) := by decide +kernel
theorem dL_law_462 : decode code 462 = .ok (.ireturn, 1) := by decide +kernel
theorem dL_law_463 : decode code 463 = .ok (.aload_n 1, 1) := by decide +kernel
theorem dL_law_464 : decode code 464 = .ok (.aload_n 0, 1) := by decide +kernel
theorem dL_law_465 : decode code 465 = .ok (.iload_n 3, 1) := by decide +kernel
theorem dL_law_466 : decode code 466 = .ok (.iconst 1, 1) := by decide +kernel
theorem dL_law_467 : decode code 467 = .ok (.iadd, 1) := by decide +kernel
theorem dL_law_468 : decode code 468 = .ok (.iaload, 1) := by decide +kernel
theorem dL_law_469 : decode code 469 = .ok (.invokevirtual 54, 3) := by decide +kernel
theorem dL_law_472 : decode code 472 = .ok (.aload_n 2, 1) := by decide +kernel
theorem dL_law_473 : decode code 473 = .ok (.aload_n 0, 1) := by decide +kernel
theorem dL_law_474 : decode code 474 = .ok (.iload_n 3, 1) := by decide +kernel
theorem dL_law_475 : decode code 475 = .ok (.iconst 1, 1) := by decide +kernel
theorem dL_law_476 : decode code 476 = .ok (.iadd, 1) := by decide +kernel
theorem dL_law_477 : decode code 477 = .ok (.iaload, 1) := by decide +kernel
theorem dL_law_478 : decode code 478 = .ok (.invokevirtual 57, 3) := by decide +kernel
theorem dL_law_481 : decode code 481 = .ok (.if_icmp .eq 616, 3) := by decide +kernel
theorem dL_law_484 : decode code 484 = .ok (.iconst 0, 1) := by decide +kernel
theorem dL_law_485 : decode code 485 = .ok (.ireturn, 1) := by decide +kernel
theorem dL_law_486 : decode code 486 = .ok (.aload_n 1, 1) := by decide +kernel
theorem dL_law_487 : decode code 487 = .ok (.aload_n 0, 1) := by decide +kernel
theorem dL_law_488 : decode code 488 = .ok (.iload_n 3, 1) := by decide +kernel
theorem dL_law_489 : decode code 489 = .ok (.iconst 1, 1) := by decide +kernel
theorem dL_law_490 : decode code 490 = .ok (.iadd, 1) := by decide +kernel
theorem dL_law_491 : decode code 491 = .ok (.iaload, 1) := by decide +kernel
theorem dL_law_492 : decode code 492 = .ok (.aload_n 0, 1) := by decide +kernel
theorem dL_law_493 : decode code 493 = .ok (.iload_n 3, 1) := by decide +kernel
theorem dL_law_494 : decode code 494 = .ok (.iconst 2, 1) := by decide +kernel
theorem dL_law_495 : decode code 495 = .ok (.iadd, 1) := by decide +kernel
theorem dL_law_496 : decode code 496 = .ok (.iaload, 1) := by decide +kernel
theorem dL_law_497 : decode code 497 = .ok (.invokevirtual 58, 3) := by decide +kernel
theorem dL_law_500 : decode code 500 = .ok (.aload_n 2, 1) := by decide +kernel
theorem dL_law_501 : decode code 501 = .ok (.aload_n 0, 1) := by decide +kernel
theorem dL_law_502 : decode code 502 = .ok (.iload_n 3, 1) := by decide +kernel
theorem dL_law_503 : decode code 503 = .ok (.iconst 1, 1) := by decide +kernel
theorem dL_law_504 : decode code 504 = .ok (.iadd, 1) := by decide +kernel
theorem dL_law_505 : decode code 505 = .ok (.iaload, 1) := by decide +kernel
theorem dL_law_506 : decode code 506 = .ok (.aload_n 0, 1) := by decide +kernel
theorem dL_law_507 : decode code 507 = .ok (.iload_n 3, 1) := by decide +kernel
theorem dL_law_508 : decode code 508 = .ok (.iconst 2, 1) := by decide +kernel
theorem dL_law_509 : decode code 509 = .ok (.iadd, 1) := by decide +kernel
theorem dL_law_510 : decode code 510 = .ok (.iaload, 1) := by decide +kernel
theorem dL_law_511 : decode code 511 = .ok (.invokevirtual 61, 3) := by decide +kernel
theorem dL_law_514 : decode code 514 = .ok (.if_icmp .eq 583, 3) := by decide +kernel
theorem dL_law_517 : decode code 517 = .ok (.iconst 0, 1) := by decide +kernel
theorem dL_law_518 : decode code 518 = .ok (.ireturn, 1) := by decide +kernel
theorem dL_law_519 : decode code 519 = .ok (.aload_n 1, 1) := by decide +kernel
theorem dL_law_520 : decode code 520 = .ok (.aload_n 0, 1) := by decide +kernel
theorem dL_law_521 : decode code 521 = .ok (.iload_n 3, 1) := by decide +kernel
theorem dL_law_522 : decode code 522 = .ok (.iconst 1, 1) := by decide +kernel
theorem dL_law_523 : decode code 523 = .ok (.iadd, 1) := by decide +kernel
theorem dL_law_524 : decode code 524 = .ok (.iaload, 1) := by decide +kernel
theorem dL_law_525 : decode code 525 = .ok (.invokevirtual 62, 3) := by decide +kernel
theorem dL_law_528 : decode code 528 = .ok (.aload_n 2, 1) := by decide +kernel
theorem dL_law_529 : decode code 529 = .ok (.aload_n 0, 1) := by decide +kernel
theorem dL_law_530 : decode code 530 = .ok (.iload_n 3, 1) := by decide +kernel
theorem dL_law_531 : decode code 531 = .ok (.iconst 1, 1) := by decide +kernel
theorem dL_law_532 : decode code 532 = .ok (.iadd, 1) := by decide +kernel
theorem dL_law_533 : decode code 533 = .ok (.iaload, 1) := by decide +kernel
theorem dL_law_534 : decode code 534 = .ok (.invokevirtual 65, 3) := by decide +kernel
theorem dL_law_537 : decode code 537 = .ok (.if_icmp .eq 560, 3) := by decide +kernel
theorem dL_law_540 : decode code 540 = .ok (.iconst 0, 1) := by decide +kernel
theorem dL_law_541 : decode code 541 = .ok (.ireturn, 1) := by decide +kernel
theorem dL_law_542 : decode code 542 = .ok (.aload_n 1, 1) := by decide +kernel
theorem dL_law_543 : decode code 543 = .ok (.aload_n 0, 1) := by decide +kernel
theorem dL_law_544 : decode code 544 = .ok (.iload_n 3, 1) := by decide +kernel
theorem dL_law_545 : decode code 545 = .ok (.iconst 1, 1) := by decide +kernel
theorem dL_law_546 : decode code 546 = .ok (.iadd, 1) := by decide +kernel
theorem dL_law_547 : decode code 547 = .ok (.iaload, 1) := by decide +kernel
theorem dL_law_548 : decode code 548 = .ok (.aload_n 0, 1) := by decide +kernel
theorem dL_law_549 : decode code 549 = .ok (.iload_n 3, 1) := by decide +kernel
theorem dL_law_550 : decode code 550 = .ok (.iconst 2, 1) := by decide +kernel
theorem dL_law_551 : decode code 551 = .ok (.iadd, 1) := by decide +kernel
theorem dL_law_552 : decode code 552 = .ok (.iaload, 1) := by decide +kernel
theorem dL_law_553 : decode code 553 = .ok (.invokevirtual 66, 3) := by decide +kernel
theorem dL_law_556 : decode code 556 = .ok (.aload_n 2, 1) := by decide +kernel
theorem dL_law_557 : decode code 557 = .ok (.aload_n 0, 1) := by decide +kernel
theorem dL_law_558 : decode code 558 = .ok (.iload_n 3, 1) := by decide +kernel
theorem dL_law_559 : decode code 559 = .ok (.iconst 1, 1) := by decide +kernel
theorem dL_law_560 : decode code 560 = .ok (.iadd, 1) := by decide +kernel
theorem dL_law_561 : decode code 561 = .ok (.iaload, 1) := by decide +kernel
theorem dL_law_562 : decode code 562 = .ok (.aload_n 0, 1) := by decide +kernel
theorem dL_law_563 : decode code 563 = .ok (.iload_n 3, 1) := by decide +kernel
theorem dL_law_564 : decode code 564 = .ok (.iconst 2, 1) := by decide +kernel
theorem dL_law_565 : decode code 565 = .ok (.iadd, 1) := by decide +kernel
theorem dL_law_566 : decode code 566 = .ok (.iaload, 1) := by decide +kernel
theorem dL_law_567 : decode code 567 = .ok (.invokevirtual 69, 3) := by decide +kernel
theorem dL_law_570 : decode code 570 = .ok (.if_icmp .eq 527, 3) := by decide +kernel
theorem dL_law_573 : decode code 573 = .ok (.iconst 0, 1) := by decide +kernel
theorem dL_law_574 : decode code 574 = .ok (.ireturn, 1) := by decide +kernel
theorem dL_law_575 : decode code 575 = .ok (.aload_n 1, 1) := by decide +kernel
theorem dL_law_576 : decode code 576 = .ok (.aload_n 0, 1) := by decide +kernel
theorem dL_law_577 : decode code 577 = .ok (.iload_n 3, 1) := by decide +kernel
theorem dL_law_578 : decode code 578 = .ok (.iconst 1, 1) := by decide +kernel
theorem dL_law_579 : decode code 579 = .ok (.iadd, 1) := by decide +kernel
theorem dL_law_580 : decode code 580 = .ok (.iaload, 1) := by decide +kernel
theorem dL_law_581 : decode code 581 = .ok (.invokevirtual 70, 3) := by decide +kernel
theorem dL_law_584 : decode code 584 = .ok (.aload_n 2, 1) := by decide +kernel
theorem dL_law_585 : decode code 585 = .ok (.aload_n 0, 1) := by decide +kernel
theorem dL_law_586 : decode code 586 = .ok (.iload_n 3, 1) := by decide +kernel
theorem dL_law_587 : decode code 587 = .ok (.iconst 1, 1) := by decide +kernel
theorem dL_law_588 : decode code 588 = .ok (.iadd, 1) := by decide +kernel
theorem dL_law_589 : decode code 589 = .ok (.iaload, 1) := by decide +kernel
theorem dL_law_590 : decode code 590 = .ok (.invokevirtual 73, 3) := by decide +kernel
theorem dL_law_593 : decode code 593 = .ok (.if_icmp .eq 504, 3) := by decide +kernel
theorem dL_law_596 : decode code 596 = .ok (.iconst 0, 1) := by decide +kernel
theorem dL_law_597 : decode code 597 = .ok (.ireturn, 1) := by decide +kernel
theorem dL_law_598 : decode code 598 = .ok (.aload_n 1, 1) := by decide +kernel
theorem dL_law_599 : decode code 599 = .ok (.aload_n 0, 1) := by decide +kernel
theorem dL_law_600 : decode code 600 = .ok (.iload_n 3, 1) := by decide +kernel
theorem dL_law_601 : decode code 601 = .ok (.iconst 1, 1) := by decide +kernel
theorem dL_law_602 : decode code 602 = .ok (.iadd, 1) := by decide +kernel
theorem dL_law_603 : decode code 603 = .ok (.iaload, 1) := by decide +kernel
theorem dL_law_604 : decode code 604 = .ok (.invokevirtual 74, 3) := by decide +kernel
theorem dL_law_607 : decode code 607 = .ok (.aload_n 2, 1) := by decide +kernel
theorem dL_law_608 : decode code 608 = .ok (.aload_n 0, 1) := by decide +kernel
theorem dL_law_609 : decode code 609 = .ok (.iload_n 3, 1) := by decide +kernel
theorem dL_law_610 : decode code 610 = .ok (.iconst 1, 1) := by decide +kernel
theorem dL_law_611 : decode code 611 = .ok (.iadd, 1) := by decide +kernel
theorem dL_law_612 : decode code 612 = .ok (.iaload, 1) := by decide +kernel
theorem dL_law_613 : decode code 613 = .ok (.invokevirtual 77, 3) := by decide +kernel
theorem dL_law_616 : decode code 616 = .ok (.if_icmp .eq 481, 3) := by decide +kernel
theorem dL_law_619 : decode code 619 = .ok (.iconst 0, 1) := by decide +kernel
theorem dL_law_620 : decode code 620 = .ok (.ireturn, 1) := by decide +kernel
theorem dL_law_621 : decode code 621 = .ok (.aload_n 1, 1) := by decide +kernel
theorem dL_law_622 : decode code 622 = .ok (.aload_n 0, 1) := by decide +kernel
theorem dL_law_623 : decode code 623 = .ok (.iload_n 3, 1) := by decide +kernel
theorem dL_law_624 : decode code 624 = .ok (.iconst 1, 1) := by decide +kernel
theorem dL_law_625 : decode code 625 = .ok (.iadd, 1) := by decide +kernel
theorem dL_law_626 : decode code 626 = .ok (.iaload, 1) := by decide +kernel
theorem dL_law_627 : decode code 627 = .ok (.invokevirtual 78, 3) := by decide +kernel
theorem dL_law_630 : decode code 630 = .ok (.aload_n 2, 1) := by decide +kernel
theorem dL_law_631 : decode code 631 = .ok (.aload_n 0, 1) := by decide +kernel
theorem dL_law_632 : decode code 632 = .ok (.iload_n 3, 1) := by decide +kernel
theorem dL_law_633 : decode code 633 = .ok (.iconst 1, 1) := by decide +kernel
theorem dL_law_634 : decode code 634 = .ok (.iadd, 1) := by decide +kernel
theorem dL_law_635 : decode code 635 = .ok (.iaload, 1) := by decide +kernel
theorem dL_law_636 : decode code 636 = .ok (.invokevirtual 81, 3) := by decide +kernel
theorem dL_law_639 : decode code 639 = .ok (.if_icmp .eq 458, 3) := by decide +kernel
theorem dL_law_642 : decode code 642 = .ok (.iconst 0, 1) := by decide +kernel
theorem dL_law_643 : decode code 643 = .ok (.ireturn, 1) := by decide +kernel
theorem dL_law_644 : decode code 644 = .ok (.aload_n 1, 1) := by decide +kernel
theorem dL_law_645 : decode code 645 = .ok (.aload_n 0, 1) := by decide +kernel
theorem dL_law_646 : decode code 646 = .ok (.iload_n 3, 1) := by decide +kernel
theorem dL_law_647 : decode code 647 = .ok (.iconst 1, 1) := by decide +kernel
theorem dL_law_648 : decode code 648 = .ok (.iadd, 1) := by decide +kernel
theorem dL_law_649 : decode code 649 = .ok (.iaload, 1) := by decide +kernel
theorem dL_law_650 : decode code 650 = .ok (.invokevirtual 82, 3) := by decide +kernel
theorem dL_law_653 : decode code 653 = .ok (.aload_n 2, 1) := by decide +kernel
theorem dL_law_654 : decode code 654 = .ok (.aload_n 0, 1) := by decide +kernel
theorem dL_law_655 : decode code 655 = .ok (.iload_n 3, 1) := by decide +kernel
theorem dL_law_656 : decode code 656 = .ok (.iconst 1, 1) := by decide +kernel
theorem dL_law_657 : decode code 657 = .ok (.iadd, 1) := by decide +kernel
theorem dL_law_658 : decode code 658 = .ok (.iaload, 1) := by decide +kernel
theorem dL_law_659 : decode code 659 = .ok (.invokevirtual 85, 3) := by decide +kernel
theorem dL_law_662 : decode code 662 = .ok (.if_icmp .eq 435, 3) := by decide +kernel
theorem dL_law_665 : decode code 665 = .ok (.iconst 0, 1) := by decide +kernel
theorem dL_law_666 : decode code 666 = .ok (.ireturn, 1) := by decide +kernel
theorem dL_law_667 : decode code 667 = .ok (.aload_n 1, 1) := by decide +kernel
theorem dL_law_668 : decode code 668 = .ok (.aload_n 0, 1) := by decide +kernel
theorem dL_law_669 : decode code 669 = .ok (.iload_n 3, 1) := by decide +kernel
theorem dL_law_670 : decode code 670 = .ok (.iconst 1, 1) := by decide +kernel
theorem dL_law_671 : decode code 671 = .ok (.iadd, 1) := by decide +kernel
theorem dL_law_672 : decode code 672 = .ok (.iaload, 1) := by decide +kernel
theorem dL_law_673 : decode code 673 = .ok (.aload_n 0, 1) := by decide +kernel
theorem dL_law_674 : decode code 674 = .ok (.iload_n 3, 1) := by decide +kernel
theorem dL_law_675 : decode code 675 = .ok (.iconst 2, 1) := by decide +kernel
theorem dL_law_676 : decode code 676 = .ok (.iadd, 1) := by decide +kernel
theorem dL_law_677 : decode code 677 = .ok (.iaload, 1) := by decide +kernel
theorem dL_law_678 : decode code 678 = .ok (.invokevirtual 86, 3) := by decide +kernel
theorem dL_law_681 : decode code 681 = .ok (.aload_n 2, 1) := by decide +kernel
theorem dL_law_682 : decode code 682 = .ok (.aload_n 0, 1) := by decide +kernel
theorem dL_law_683 : decode code 683 = .ok (.iload_n 3, 1) := by decide +kernel
theorem dL_law_684 : decode code 684 = .ok (.iconst 1, 1) := by decide +kernel
theorem dL_law_685 : decode code 685 = .ok (.iadd, 1) := by decide +kernel
theorem dL_law_686 : decode code 686 = .ok (.iaload, 1) := by decide +kernel
theorem dL_law_687 : decode code 687 = .ok (.aload_n 0, 1) := by decide +kernel
theorem dL_law_688 : decode code 688 = .ok (.iload_n 3, 1) := by decide +kernel
theorem dL_law_689 : decode code 689 = .ok (.iconst 2, 1) := by decide +kernel
theorem dL_law_690 : decode code 690 = .ok (.iadd, 1) := by decide +kernel
theorem dL_law_691 : decode code 691 = .ok (.iaload, 1) := by decide +kernel
theorem dL_law_692 : decode code 692 = .ok (.invokevirtual 89, 3) := by decide +kernel
theorem dL_law_695 : decode code 695 = .ok (.if_icmp .eq 402, 3) := by decide +kernel
theorem dL_law_698 : decode code 698 = .ok (.iconst 0, 1) := by decide +kernel
theorem dL_law_699 : decode code 699 = .ok (.ireturn, 1) := by decide +kernel
theorem dL_law_700 : decode code 700 = .ok (.aload_n 1, 1) := by decide +kernel
theorem dL_law_701 : decode code 701 = .ok (.aload_n 0, 1) := by decide +kernel
theorem dL_law_702 : decode code 702 = .ok (.iload_n 3, 1) := by decide +kernel
theorem dL_law_703 : decode code 703 = .ok (.iconst 1, 1) := by decide +kernel
theorem dL_law_704 : decode code 704 = .ok (.iadd, 1) := by decide +kernel
theorem dL_law_705 : decode code 705 = .ok (.iaload, 1) := by decide +kernel
theorem dL_law_706 : decode code 706 = .ok (.invokevirtual 90, 3) := by decide +kernel
theorem dL_law_709 : decode code 709 = .ok (.aload_n 2, 1) := by decide +kernel
theorem dL_law_710 : decode code 710 = .ok (.aload_n 0, 1) := by decide +kernel
theorem dL_law_711 : decode code 711 = .ok (.iload_n 3, 1) := by decide +kernel
theorem dL_law_712 : decode code 712 = .ok (.iconst 1, 1) := by decide +kernel
theorem dL_law_713 : decode code 713 = .ok (.iadd, 1) := by decide +kernel
theorem dL_law_714 : decode code 714 = .ok (.iaload, 1) := by decide +kernel
theorem dL_law_715 : decode code 715 = .ok (.invokevirtual 93, 3) := by decide +kernel
theorem dL_law_718 : decode code 718 = .ok (.if_icmp .eq 379, 3) := by decide +kernel
theorem dL_law_721 : decode code 721 = .ok (.iconst 0, 1) := by decide +kernel
theorem dL_law_722 : decode code 722 = .ok (.ireturn, 1) := by decide +kernel
theorem dL_law_723 : decode code 723 = .ok (.aload_n 1, 1) := by decide +kernel
theorem dL_law_724 : decode code 724 = .ok (.aload_n 0, 1) := by decide +kernel
theorem dL_law_725 : decode code 725 = .ok (.iload_n 3, 1) := by decide +kernel
theorem dL_law_726 : decode code 726 = .ok (.iconst 1, 1) := by decide +kernel
theorem dL_law_727 : decode code 727 = .ok (.iadd, 1) := by decide +kernel
theorem dL_law_728 : decode code 728 = .ok (.iaload, 1) := by decide +kernel
theorem dL_law_729 : decode code 729 = .ok (.aload_n 0, 1) := by decide +kernel
theorem dL_law_730 : decode code 730 = .ok (.iload_n 3, 1) := by decide +kernel
theorem dL_law_731 : decode code 731 = .ok (.iconst 2, 1) := by decide +kernel
theorem dL_law_732 : decode code 732 = .ok (.iadd, 1) := by decide +kernel
theorem dL_law_733 : decode code 733 = .ok (.iaload, 1) := by decide +kernel
theorem dL_law_734 : decode code 734 = .ok (.invokevirtual 94, 3) := by decide +kernel
theorem dL_law_737 : decode code 737 = .ok (.aload_n 2, 1) := by decide +kernel
theorem dL_law_738 : decode code 738 = .ok (.aload_n 0, 1) := by decide +kernel
theorem dL_law_739 : decode code 739 = .ok (.iload_n 3, 1) := by decide +kernel
theorem dL_law_740 : decode code 740 = .ok (.iconst 1, 1) := by decide +kernel
theorem dL_law_741 : decode code 741 = .ok (.iadd, 1) := by decide +kernel
theorem dL_law_742 : decode code 742 = .ok (.iaload, 1) := by decide +kernel
theorem dL_law_743 : decode code 743 = .ok (.aload_n 0, 1) := by decide +kernel
theorem dL_law_744 : decode code 744 = .ok (.iload_n 3, 1) := by decide +kernel
theorem dL_law_745 : decode code 745 = .ok (.iconst 2, 1) := by decide +kernel
theorem dL_law_746 : decode code 746 = .ok (.iadd, 1) := by decide +kernel
theorem dL_law_747 : decode code 747 = .ok (.iaload, 1) := by decide +kernel
theorem dL_law_748 : decode code 748 = .ok (.invokevirtual 97, 3) := by decide +kernel
theorem dL_law_751 : decode code 751 = .ok (.if_icmp .eq 346, 3) := by decide +kernel
theorem dL_law_754 : decode code 754 = .ok (.iconst 0, 1) := by decide +kernel
theorem dL_law_755 : decode code 755 = .ok (.ireturn, 1) := by decide +kernel
theorem dL_law_756 : decode code 756 = .ok (.aload_n 1, 1) := by decide +kernel
theorem dL_law_757 : decode code 757 = .ok (.invokevirtual 98, 3) := by decide +kernel
theorem dL_law_760 : decode code 760 = .ok (.aload_n 2, 1) := by decide +kernel
theorem dL_law_761 : decode code 761 = .ok (.invokevirtual 101, 3) := by decide +kernel
theorem dL_law_764 : decode code 764 = .ok (.if_icmp .eq 333, 3) := by decide +kernel
theorem dL_law_767 : decode code 767 = .ok (.iconst 0, 1) := by decide +kernel
theorem dL_law_768 : decode code 768 = .ok (.ireturn, 1) := by decide +kernel
theorem dL_law_769 : decode code 769 = .ok (.aload_n 1, 1) := by decide +kernel
theorem dL_law_770 : decode code 770 = .ok (.aload_n 0, 1) := by decide +kernel
theorem dL_law_771 : decode code 771 = .ok (.iload_n 3, 1) := by decide +kernel
theorem dL_law_772 : decode code 772 = .ok (.iconst 1, 1) := by decide +kernel
theorem dL_law_773 : decode code 773 = .ok (.iadd, 1) := by decide +kernel
theorem dL_law_774 : decode code 774 = .ok (.iaload, 1) := by decide +kernel
theorem dL_law_775 : decode code 775 = .ok (.aload_n 0, 1) := by decide +kernel
theorem dL_law_776 : decode code 776 = .ok (.iload_n 3, 1) := by decide +kernel
theorem dL_law_777 : decode code 777 = .ok (.iconst 2, 1) := by decide +kernel
theorem dL_law_778 : decode code 778 = .ok (.iadd, 1) := by decide +kernel
theorem dL_law_779 : decode code 779 = .ok (.iaload, 1) := by decide +kernel
theorem dL_law_780 : decode code 780 = .ok (.aload_n 0, 1) := by decide +kernel
theorem dL_law_781 : decode code 781 = .ok (.iload_n 3, 1) := by decide +kernel
theorem dL_law_782 : decode code 782 = .ok (.iconst 3, 1) := by decide +kernel
theorem dL_law_783 : decode code 783 = .ok (.iadd, 1) := by decide +kernel
theorem dL_law_784 : decode code 784 = .ok (.iaload, 1) := by decide +kernel
theorem dL_law_785 : decode code 785 = .ok (.invokevirtual 102, 3) := by decide +kernel
theorem dL_law_788 : decode code 788 = .ok (.aload_n 2, 1) := by decide +kernel
theorem dL_law_789 : decode code 789 = .ok (.aload_n 0, 1) := by decide +kernel
theorem dL_law_790 : decode code 790 = .ok (.iload_n 3, 1) := by decide +kernel
theorem dL_law_791 : decode code 791 = .ok (.iconst 1, 1) := by decide +kernel
theorem dL_law_792 : decode code 792 = .ok (.iadd, 1) := by decide +kernel
theorem dL_law_793 : decode code 793 = .ok (.iaload, 1) := by decide +kernel
theorem dL_law_794 : decode code 794 = .ok (.aload_n 0, 1) := by decide +kernel
theorem dL_law_795 : decode code 795 = .ok (.iload_n 3, 1) := by decide +kernel
theorem dL_law_796 : decode code 796 = .ok (.iconst 2, 1) := by decide +kernel
theorem dL_law_797 : decode code 797 = .ok (.iadd, 1) := by decide +kernel
theorem dL_law_798 : decode code 798 = .ok (.iaload, 1) := by decide +kernel
theorem dL_law_799 : decode code 799 = .ok (.aload_n 0, 1) := by decide +kernel
theorem dL_law_800 : decode code 800 = .ok (.iload_n 3, 1) := by decide +kernel
theorem dL_law_801 : decode code 801 = .ok (.iconst 3, 1) := by decide +kernel
theorem dL_law_802 : decode code 802 = .ok (.iadd, 1) := by decide +kernel
theorem dL_law_803 : decode code 803 = .ok (.iaload, 1) := by decide +kernel
theorem dL_law_804 : decode code 804 = .ok (.invokevirtual 106, 3) := by decide +kernel
theorem dL_law_807 : decode code 807 = .ok (.lcmp, 1) := by decide +kernel
theorem dL_law_808 : decode code 808 = .ok (.ifCond .eq 289, 3) := by decide +kernel
theorem dL_law_811 : decode code 811 = .ok (.iconst 0, 1) := by decide +kernel
theorem dL_law_812 : decode code 812 = .ok (.ireturn, 1) := by decide +kernel
theorem dL_law_813 : decode code 813 = .ok (.aload_n 1, 1) := by decide +kernel
theorem dL_law_814 : decode code 814 = .ok (.aload_n 0, 1) := by decide +kernel
theorem dL_law_815 : decode code 815 = .ok (.iload_n 3, 1) := by decide +kernel
theorem dL_law_816 : decode code 816 = .ok (.iconst 1, 1) := by decide +kernel
theorem dL_law_817 : decode code 817 = .ok (.iadd, 1) := by decide +kernel
theorem dL_law_818 : decode code 818 = .ok (.iaload, 1) := by decide +kernel
theorem dL_law_819 : decode code 819 = .ok (.aload_n 0, 1) := by decide +kernel
theorem dL_law_820 : decode code 820 = .ok (.iload_n 3, 1) := by decide +kernel
theorem dL_law_821 : decode code 821 = .ok (.iconst 2, 1) := by decide +kernel
theorem dL_law_822 : decode code 822 = .ok (.iadd, 1) := by decide +kernel
theorem dL_law_823 : decode code 823 = .ok (.iaload, 1) := by decide +kernel
theorem dL_law_824 : decode code 824 = .ok (.invokevirtual 107, 3) := by decide +kernel
theorem dL_law_827 : decode code 827 = .ok (.aload_n 2, 1) := by decide +kernel
theorem dL_law_828 : decode code 828 = .ok (.aload_n 0, 1) := by decide +kernel
theorem dL_law_829 : decode code 829 = .ok (.iload_n 3, 1) := by decide +kernel
theorem dL_law_830 : decode code 830 = .ok (.iconst 1, 1) := by decide +kernel
theorem dL_law_831 : decode code 831 = .ok (.iadd, 1) := by decide +kernel
theorem dL_law_832 : decode code 832 = .ok (.iaload, 1) := by decide +kernel
theorem dL_law_833 : decode code 833 = .ok (.aload_n 0, 1) := by decide +kernel
theorem dL_law_834 : decode code 834 = .ok (.iload_n 3, 1) := by decide +kernel
theorem dL_law_835 : decode code 835 = .ok (.iconst 2, 1) := by decide +kernel
theorem dL_law_836 : decode code 836 = .ok (.iadd, 1) := by decide +kernel
theorem dL_law_837 : decode code 837 = .ok (.iaload, 1) := by decide +kernel
theorem dL_law_838 : decode code 838 = .ok (.invokevirtual 111, 3) := by decide +kernel
theorem dL_law_841 : decode code 841 = .ok (.lcmp, 1) := by decide +kernel
theorem dL_law_842 : decode code 842 = .ok (.ifCond .eq 255, 3) := by decide +kernel
theorem dL_law_845 : decode code 845 = .ok (.iconst 0, 1) := by decide +kernel
theorem dL_law_846 : decode code 846 = .ok (.ireturn, 1) := by decide +kernel
theorem dL_law_847 : decode code 847 = .ok (.aload_n 1, 1) := by decide +kernel
theorem dL_law_848 : decode code 848 = .ok (.aload_n 0, 1) := by decide +kernel
theorem dL_law_849 : decode code 849 = .ok (.iload_n 3, 1) := by decide +kernel
theorem dL_law_850 : decode code 850 = .ok (.iconst 1, 1) := by decide +kernel
theorem dL_law_851 : decode code 851 = .ok (.iadd, 1) := by decide +kernel
theorem dL_law_852 : decode code 852 = .ok (.iaload, 1) := by decide +kernel
theorem dL_law_853 : decode code 853 = .ok (.aload_n 0, 1) := by decide +kernel
theorem dL_law_854 : decode code 854 = .ok (.iload_n 3, 1) := by decide +kernel
theorem dL_law_855 : decode code 855 = .ok (.iconst 2, 1) := by decide +kernel
theorem dL_law_856 : decode code 856 = .ok (.iadd, 1) := by decide +kernel
theorem dL_law_857 : decode code 857 = .ok (.iaload, 1) := by decide +kernel
theorem dL_law_858 : decode code 858 = .ok (.invokevirtual 112, 3) := by decide +kernel
theorem dL_law_861 : decode code 861 = .ok (.aload_n 2, 1) := by decide +kernel
theorem dL_law_862 : decode code 862 = .ok (.aload_n 0, 1) := by decide +kernel
theorem dL_law_863 : decode code 863 = .ok (.iload_n 3, 1) := by decide +kernel
theorem dL_law_864 : decode code 864 = .ok (.iconst 1, 1) := by decide +kernel
theorem dL_law_865 : decode code 865 = .ok (.iadd, 1) := by decide +kernel
theorem dL_law_866 : decode code 866 = .ok (.iaload, 1) := by decide +kernel
theorem dL_law_867 : decode code 867 = .ok (.aload_n 0, 1) := by decide +kernel
theorem dL_law_868 : decode code 868 = .ok (.iload_n 3, 1) := by decide +kernel
theorem dL_law_869 : decode code 869 = .ok (.iconst 2, 1) := by decide +kernel
theorem dL_law_870 : decode code 870 = .ok (.iadd, 1) := by decide +kernel
theorem dL_law_871 : decode code 871 = .ok (.iaload, 1) := by decide +kernel
theorem dL_law_872 : decode code 872 = .ok (.invokevirtual 115, 3) := by decide +kernel
theorem dL_law_875 : decode code 875 = .ok (.if_icmp .eq 222, 3) := by decide +kernel
theorem dL_law_878 : decode code 878 = .ok (.iconst 0, 1) := by decide +kernel
theorem dL_law_879 : decode code 879 = .ok (.ireturn, 1) := by decide +kernel
theorem dL_law_880 : decode code 880 = .ok (.aload_n 1, 1) := by decide +kernel
theorem dL_law_881 : decode code 881 = .ok (.aload_n 0, 1) := by decide +kernel
theorem dL_law_882 : decode code 882 = .ok (.iload_n 3, 1) := by decide +kernel
theorem dL_law_883 : decode code 883 = .ok (.iconst 1, 1) := by decide +kernel
theorem dL_law_884 : decode code 884 = .ok (.iadd, 1) := by decide +kernel
theorem dL_law_885 : decode code 885 = .ok (.iaload, 1) := by decide +kernel
theorem dL_law_886 : decode code 886 = .ok (.invokevirtual 116, 3) := by decide +kernel
theorem dL_law_889 : decode code 889 = .ok (.aload_n 2, 1) := by decide +kernel
theorem dL_law_890 : decode code 890 = .ok (.aload_n 0, 1) := by decide +kernel
theorem dL_law_891 : decode code 891 = .ok (.iload_n 3, 1) := by decide +kernel
theorem dL_law_892 : decode code 892 = .ok (.iconst 1, 1) := by decide +kernel
theorem dL_law_893 : decode code 893 = .ok (.iadd, 1) := by decide +kernel
theorem dL_law_894 : decode code 894 = .ok (.iaload, 1) := by decide +kernel
theorem dL_law_895 : decode code 895 = .ok (.invokevirtual 119, 3) := by decide +kernel
theorem dL_law_898 : decode code 898 = .ok (.if_icmp .eq 199, 3) := by decide +kernel
theorem dL_law_901 : decode code 901 = .ok (.iconst 0, 1) := by decide +kernel
theorem dL_law_902 : decode code 902 = .ok (.ireturn, 1) := by decide +kernel
theorem dL_law_903 : decode code 903 = .ok (.aload_n 1, 1) := by decide +kernel
theorem dL_law_904 : decode code 904 = .ok (.aload_n 0, 1) := by decide +kernel
theorem dL_law_905 : decode code 905 = .ok (.iload_n 3, 1) := by decide +kernel
theorem dL_law_906 : decode code 906 = .ok (.iconst 1, 1) := by decide +kernel
theorem dL_law_907 : decode code 907 = .ok (.iadd, 1) := by decide +kernel
theorem dL_law_908 : decode code 908 = .ok (.iaload, 1) := by decide +kernel
theorem dL_law_909 : decode code 909 = .ok (.aload_n 0, 1) := by decide +kernel
theorem dL_law_910 : decode code 910 = .ok (.iload_n 3, 1) := by decide +kernel
theorem dL_law_911 : decode code 911 = .ok (.iconst 2, 1) := by decide +kernel
theorem dL_law_912 : decode code 912 = .ok (.iadd, 1) := by decide +kernel
theorem dL_law_913 : decode code 913 = .ok (.iaload, 1) := by decide +kernel
theorem dL_law_914 : decode code 914 = .ok (.invokevirtual 120, 3) := by decide +kernel
theorem dL_law_917 : decode code 917 = .ok (.aload_n 2, 1) := by decide +kernel
theorem dL_law_918 : decode code 918 = .ok (.aload_n 0, 1) := by decide +kernel
theorem dL_law_919 : decode code 919 = .ok (.iload_n 3, 1) := by decide +kernel
theorem dL_law_920 : decode code 920 = .ok (.iconst 1, 1) := by decide +kernel
theorem dL_law_921 : decode code 921 = .ok (.iadd, 1) := by decide +kernel
theorem dL_law_922 : decode code 922 = .ok (.iaload, 1) := by decide +kernel
theorem dL_law_923 : decode code 923 = .ok (.aload_n 0, 1) := by decide +kernel
theorem dL_law_924 : decode code 924 = .ok (.iload_n 3, 1) := by decide +kernel
theorem dL_law_925 : decode code 925 = .ok (.iconst 2, 1) := by decide +kernel
theorem dL_law_926 : decode code 926 = .ok (.iadd, 1) := by decide +kernel
theorem dL_law_927 : decode code 927 = .ok (.iaload, 1) := by decide +kernel
theorem dL_law_928 : decode code 928 = .ok (.invokevirtual 123, 3) := by decide +kernel
theorem dL_law_931 : decode code 931 = .ok (.if_icmp .eq 166, 3) := by decide +kernel
theorem dL_law_934 : decode code 934 = .ok (.iconst 0, 1) := by decide +kernel
theorem dL_law_935 : decode code 935 = .ok (.ireturn, 1) := by decide +kernel
theorem dL_law_936 : decode code 936 = .ok (.aload_n 1, 1) := by decide +kernel
theorem dL_law_937 : decode code 937 = .ok (.invokevirtual 124, 3) := by decide +kernel
theorem dL_law_940 : decode code 940 = .ok (.aload_n 2, 1) := by decide +kernel
theorem dL_law_941 : decode code 941 = .ok (.invokevirtual 127, 3) := by decide +kernel
theorem dL_law_944 : decode code 944 = .ok (.if_icmp .eq 153, 3) := by decide +kernel
theorem dL_law_947 : decode code 947 = .ok (.iconst 0, 1) := by decide +kernel
theorem dL_law_948 : decode code 948 = .ok (.ireturn, 1) := by decide +kernel
theorem dL_law_949 : decode code 949 = .ok (.aload_n 1, 1) := by decide +kernel
theorem dL_law_950 : decode code 950 = .ok (.aload_n 0, 1) := by decide +kernel
theorem dL_law_951 : decode code 951 = .ok (.iload_n 3, 1) := by decide +kernel
theorem dL_law_952 : decode code 952 = .ok (.iconst 1, 1) := by decide +kernel
theorem dL_law_953 : decode code 953 = .ok (.iadd, 1) := by decide +kernel
theorem dL_law_954 : decode code 954 = .ok (.iaload, 1) := by decide +kernel
theorem dL_law_955 : decode code 955 = .ok (.aload_n 0, 1) := by decide +kernel
theorem dL_law_956 : decode code 956 = .ok (.iload_n 3, 1) := by decide +kernel
theorem dL_law_957 : decode code 957 = .ok (.iconst 2, 1) := by decide +kernel
theorem dL_law_958 : decode code 958 = .ok (.iadd, 1) := by decide +kernel
theorem dL_law_959 : decode code 959 = .ok (.iaload, 1) := by decide +kernel
theorem dL_law_960 : decode code 960 = .ok (.aload_n 0, 1) := by decide +kernel
theorem dL_law_961 : decode code 961 = .ok (.iload_n 3, 1) := by decide +kernel
theorem dL_law_962 : decode code 962 = .ok (.iconst 3, 1) := by decide +kernel
theorem dL_law_963 : decode code 963 = .ok (.iadd, 1) := by decide +kernel
theorem dL_law_964 : decode code 964 = .ok (.iaload, 1) := by decide +kernel
theorem dL_law_965 : decode code 965 = .ok (.invokevirtual 128, 3) := by decide +kernel
theorem dL_law_968 : decode code 968 = .ok (.aload_n 2, 1) := by decide +kernel
theorem dL_law_969 : decode code 969 = .ok (.aload_n 0, 1) := by decide +kernel
theorem dL_law_970 : decode code 970 = .ok (.iload_n 3, 1) := by decide +kernel
theorem dL_law_971 : decode code 971 = .ok (.iconst 1, 1) := by decide +kernel
theorem dL_law_972 : decode code 972 = .ok (.iadd, 1) := by decide +kernel
theorem dL_law_973 : decode code 973 = .ok (.iaload, 1) := by decide +kernel
theorem dL_law_974 : decode code 974 = .ok (.aload_n 0, 1) := by decide +kernel
theorem dL_law_975 : decode code 975 = .ok (.iload_n 3, 1) := by decide +kernel
theorem dL_law_976 : decode code 976 = .ok (.iconst 2, 1) := by decide +kernel
theorem dL_law_977 : decode code 977 = .ok (.iadd, 1) := by decide +kernel
theorem dL_law_978 : decode code 978 = .ok (.iaload, 1) := by decide +kernel
theorem dL_law_979 : decode code 979 = .ok (.aload_n 0, 1) := by decide +kernel
theorem dL_law_980 : decode code 980 = .ok (.iload_n 3, 1) := by decide +kernel
theorem dL_law_981 : decode code 981 = .ok (.iconst 3, 1) := by decide +kernel
theorem dL_law_982 : decode code 982 = .ok (.iadd, 1) := by decide +kernel
theorem dL_law_983 : decode code 983 = .ok (.iaload, 1) := by decide +kernel
theorem dL_law_984 : decode code 984 = .ok (.invokevirtual 131, 3) := by decide +kernel
theorem dL_law_987 : decode code 987 = .ok (.if_icmp .eq 110, 3) := by decide +kernel
theorem dL_law_990 : decode code 990 = .ok (.iconst 0, 1) := by decide +kernel
theorem dL_law_991 : decode code 991 = .ok (.ireturn, 1) := by decide +kernel
theorem dL_law_992 : decode code 992 = .ok (.aload_n 1, 1) := by decide +kernel
theorem dL_law_993 : decode code 993 = .ok (.aload_n 0, 1) := by decide +kernel
theorem dL_law_994 : decode code 994 = .ok (.iload_n 3, 1) := by decide +kernel
theorem dL_law_995 : decode code 995 = .ok (.iconst 1, 1) := by decide +kernel
theorem dL_law_996 : decode code 996 = .ok (.iadd, 1) := by decide +kernel
theorem dL_law_997 : decode code 997 = .ok (.iaload, 1) := by decide +kernel
theorem dL_law_998 : decode code 998 = .ok (.invokevirtual 132, 3) := by decide +kernel
theorem dL_law_1001 : decode code 1001 = .ok (.aload_n 2, 1) := by decide +kernel
theorem dL_law_1002 : decode code 1002 = .ok (.aload_n 0, 1) := by decide +kernel
theorem dL_law_1003 : decode code 1003 = .ok (.iload_n 3, 1) := by decide +kernel
theorem dL_law_1004 : decode code 1004 = .ok (.iconst 1, 1) := by decide +kernel
theorem dL_law_1005 : decode code 1005 = .ok (.iadd, 1) := by decide +kernel
theorem dL_law_1006 : decode code 1006 = .ok (.iaload, 1) := by decide +kernel
theorem dL_law_1007 : decode code 1007 = .ok (.invokevirtual 135, 3) := by decide +kernel
theorem dL_law_1010 : decode code 1010 = .ok (.if_icmp .eq 87, 3) := by decide +kernel
theorem dL_law_1013 : decode code 1013 = .ok (.iconst 0, 1) := by decide +kernel
theorem dL_law_1014 : decode code 1014 = .ok (.ireturn, 1) := by decide +kernel
theorem dL_law_1015 : decode code 1015 = .ok (.aload_n 1, 1) := by decide +kernel
theorem dL_law_1016 : decode code 1016 = .ok (.aload_n 0, 1) := by decide +kernel
theorem dL_law_1017 : decode code 1017 = .ok (.iload_n 3, 1) := by decide +kernel
theorem dL_law_1018 : decode code 1018 = .ok (.iconst 1, 1) := by decide +kernel
theorem dL_law_1019 : decode code 1019 = .ok (.iadd, 1) := by decide +kernel
theorem dL_law_1020 : decode code 1020 = .ok (.iaload, 1) := by decide +kernel
theorem dL_law_1021 : decode code 1021 = .ok (.aload_n 0, 1) := by decide +kernel
theorem dL_law_1022 : decode code 1022 = .ok (.iload_n 3, 1) := by decide +kernel
theorem dL_law_1023 : decode code 1023 = .ok (.iconst 2, 1) := by decide +kernel
theorem dL_law_1024 : decode code 1024 = .ok (.iadd, 1) := by decide +kernel
theorem dL_law_1025 : decode code 1025 = .ok (.iaload, 1) := by decide +kernel
theorem dL_law_1026 : decode code 1026 = .ok (.invokevirtual 136, 3) := by decide +kernel
theorem dL_law_1029 : decode code 1029 = .ok (.aload_n 2, 1) := by decide +kernel
theorem dL_law_1030 : decode code 1030 = .ok (.aload_n 0, 1) := by decide +kernel
theorem dL_law_1031 : decode code 1031 = .ok (.iload_n 3, 1) := by decide +kernel
theorem dL_law_1032 : decode code 1032 = .ok (.iconst 1, 1) := by decide +kernel
theorem dL_law_1033 : decode code 1033 = .ok (.iadd, 1) := by decide +kernel
theorem dL_law_1034 : decode code 1034 = .ok (.iaload, 1) := by decide +kernel
theorem dL_law_1035 : decode code 1035 = .ok (.aload_n 0, 1) := by decide +kernel
theorem dL_law_1036 : decode code 1036 = .ok (.iload_n 3, 1) := by decide +kernel
theorem dL_law_1037 : decode code 1037 = .ok (.iconst 2, 1) := by decide +kernel
theorem dL_law_1038 : decode code 1038 = .ok (.iadd, 1) := by decide +kernel
theorem dL_law_1039 : decode code 1039 = .ok (.iaload, 1) := by decide +kernel
theorem dL_law_1040 : decode code 1040 = .ok (.invokevirtual 139, 3) := by decide +kernel
theorem dL_law_1043 : decode code 1043 = .ok (.if_icmp .eq 54, 3) := by decide +kernel
theorem dL_law_1046 : decode code 1046 = .ok (.iconst 0, 1) := by decide +kernel
theorem dL_law_1047 : decode code 1047 = .ok (.ireturn, 1) := by decide +kernel
theorem dL_law_1048 : decode code 1048 = .ok (.aload_n 1, 1) := by decide +kernel
theorem dL_law_1049 : decode code 1049 = .ok (.invokevirtual 140, 3) := by decide +kernel
theorem dL_law_1052 : decode code 1052 = .ok (.aload_n 2, 1) := by decide +kernel
theorem dL_law_1053 : decode code 1053 = .ok (.invokevirtual 143, 3) := by decide +kernel
theorem dL_law_1056 : decode code 1056 = .ok (.if_icmp .eq 41, 3) := by decide +kernel
theorem dL_law_1059 : decode code 1059 = .ok (.iconst 0, 1) := by decide +kernel
theorem dL_law_1060 : decode code 1060 = .ok (.ireturn, 1) := by decide +kernel
theorem dL_law_1061 : decode code 1061 = .ok (.aload_n 1, 1) := by decide +kernel
theorem dL_law_1062 : decode code 1062 = .ok (.invokevirtual 144, 3) := by decide +kernel
theorem dL_law_1065 : decode code 1065 = .ok (.aload_n 2, 1) := by decide +kernel
theorem dL_law_1066 : decode code 1066 = .ok (.invokevirtual 147, 3) := by decide +kernel
theorem dL_law_1069 : decode code 1069 = .ok (.if_icmp .eq 28, 3) := by decide +kernel
theorem dL_law_1072 : decode code 1072 = .ok (.iconst 0, 1) := by decide +kernel
theorem dL_law_1073 : decode code 1073 = .ok (.ireturn, 1) := by decide +kernel
theorem dL_law_1074 : decode code 1074 = .ok (.aload_n 1, 1) := by decide +kernel
theorem dL_law_1075 : decode code 1075 = .ok (.aload_n 0, 1) := by decide +kernel
theorem dL_law_1076 : decode code 1076 = .ok (.iload_n 3, 1) := by decide +kernel
theorem dL_law_1077 : decode code 1077 = .ok (.iconst 1, 1) := by decide +kernel
theorem dL_law_1078 : decode code 1078 = .ok (.iadd, 1) := by decide +kernel
theorem dL_law_1079 : decode code 1079 = .ok (.iaload, 1) := by decide +kernel
theorem dL_law_1080 : decode code 1080 = .ok (.invokevirtual 148, 3) := by decide +kernel
theorem dL_law_1083 : decode code 1083 = .ok (.aload_n 2, 1) := by decide +kernel
theorem dL_law_1084 : decode code 1084 = .ok (.aload_n 0, 1) := by decide +kernel
theorem dL_law_1085 : decode code 1085 = .ok (.iload_n 3, 1) := by decide +kernel
theorem dL_law_1086 : decode code 1086 = .ok (.iconst 1, 1) := by decide +kernel
theorem dL_law_1087 : decode code 1087 = .ok (.iadd, 1) := by decide +kernel
theorem dL_law_1088 : decode code 1088 = .ok (.iaload, 1) := by decide +kernel
theorem dL_law_1089 : decode code 1089 = .ok (.invokevirtual 151, 3) := by decide +kernel
theorem dL_law_1092 : decode code 1092 = .ok (.if_icmp .eq 5, 3) := by decide +kernel
theorem dL_law_1095 : decode code 1095 = .ok (.iconst 0, 1) := by decide +kernel
theorem dL_law_1096 : decode code 1096 = .ok (.ireturn, 1) := by decide +kernel
theorem dL_law_1097 : decode code 1097 = .ok (.iinc 3 4, 3) := by decide +kernel
theorem dL_law_1100 : decode code 1100 = .ok (.goto (-1082), 3) := by decide +kernel
theorem dL_law_1103 : decode code 1103 = .ok (.iconst 1, 1) := by decide +kernel
theorem dL_law_1104 : decode code 1104 = .ok (.ireturn, 1) := by decide +kernel
def w_law_1097 (kL18 : Int32 → ap_Mem → Prop) (x3 : Int32) (M : ap_Mem) : Prop :=
∀ x3_1 : Int32, x3_1 = x3 + 4 → kL18 x3_1 M
def w_law_18_s (L : Nat) (xs : Nat → Int32) (kL18 : Int32 → ap_Mem → Prop) (x3 : Int32) (M : ap_Mem) : Prop :=
(if ((nI L) - 4) < x3 then ((1 : Int32) = 1) else (vp_in x3 L ∧ (if ((xs x3.toNatClampNeg) &&& 63) = 0 then (vp_in (x3 + 1) L ∧ w_X8_feed 0 (xs (x3 + 1).toNatClampNeg) M (fun r_5 M_6 => vp_in (x3 + 1) L ∧ w_X9_feed 98 (xs (x3 + 1).toNatClampNeg) M_6 (fun r_8 M_9 => (if r_5 = r_8 then (w_law_1097 kL18 x3 M_9) else ((0 : Int32) = 1))))) else (if ((xs x3.toNatClampNeg) &&& 63) = 1 then (w_X8_town 0 M (fun r_12 M_13 => w_X9_town 98 M_13 (fun r_14 M_15 => (if r_12 = r_14 then (w_law_1097 kL18 x3 M_15) else ((0 : Int32) = 1))))) else (if ((xs x3.toNatClampNeg) &&& 63) = 2 then (vp_in (x3 + 1) L ∧ vp_in (x3 + 2) L ∧ vp_in (x3 + 3) L ∧ w_X8_person 0 (xs (x3 + 1).toNatClampNeg) (xs (x3 + 2).toNatClampNeg) (xs (x3 + 3).toNatClampNeg) M (fun r_21 M_22 => vp_in (x3 + 1) L ∧ vp_in (x3 + 2) L ∧ vp_in (x3 + 3) L ∧ w_X9_person 98 (xs (x3 + 1).toNatClampNeg) (xs (x3 + 2).toNatClampNeg) (xs (x3 + 3).toNatClampNeg) M_22 (fun r_26 M_27 => (if r_21 = r_26 then (w_law_1097 kL18 x3 M_27) else ((0 : Int32) = 1))))) else (if ((xs x3.toNatClampNeg) &&& 63) = 3 then (vp_in (x3 + 1) L ∧ vp_in (x3 + 2) L ∧ w_X8_of 0 (xs (x3 + 1).toNatClampNeg) (xs (x3 + 2).toNatClampNeg) M (fun r_32 M_33 => vp_in (x3 + 1) L ∧ vp_in (x3 + 2) L ∧ w_X9_of 98 (xs (x3 + 1).toNatClampNeg) (xs (x3 + 2).toNatClampNeg) M_33 (fun r_36 M_37 => (if r_32 = r_36 then (w_law_1097 kL18 x3 M_37) else ((0 : Int32) = 1))))) else (if ((xs x3.toNatClampNeg) &&& 63) = 4 then (vp_in (x3 + 1) L ∧ vp_in (x3 + 2) L ∧ vp_in (x3 + 3) L ∧ w_X8_line 0 (xs (x3 + 1).toNatClampNeg) (xs (x3 + 2).toNatClampNeg) (xs (x3 + 3).toNatClampNeg) M (fun r_43 M_44 => vp_in (x3 + 1) L ∧ vp_in (x3 + 2) L ∧ vp_in (x3 + 3) L ∧ w_X9_line 98 (xs (x3 + 1).toNatClampNeg) (xs (x3 + 2).toNatClampNeg) (xs (x3 + 3).toNatClampNeg) M_44 (fun r_48 M_49 => (if r_43 = r_48 then (w_law_1097 kL18 x3 M_49) else ((0 : Int32) = 1))))) else (if ((xs x3.toNatClampNeg) &&& 63) = 5 then (vp_in (x3 + 1) L ∧ vp_in (x3 + 2) L ∧ w_X8_move 0 (xs (x3 + 1).toNatClampNeg) (xs (x3 + 2).toNatClampNeg) M (fun r_54 M_55 => vp_in (x3 + 1) L ∧ vp_in (x3 + 2) L ∧ w_X9_move 98 (xs (x3 + 1).toNatClampNeg) (xs (x3 + 2).toNatClampNeg) M_55 (fun r_58 M_59 => (if r_54 = r_58 then (w_law_1097 kL18 x3 M_59) else ((0 : Int32) = 1))))) else (if ((xs x3.toNatClampNeg) &&& 63) = 6 then (vp_in (x3 + 1) L ∧ vp_in (x3 + 2) L ∧ (if (xs (x3 + 2).toNatClampNeg) = 0 then (w_X8_away 0 (xs (x3 + 1).toNatClampNeg) 0 M (fun r_65 M_66 => vp_in (x3 + 1) L ∧ vp_in (x3 + 2) L ∧ (if (xs (x3 + 2).toNatClampNeg) = 0 then (w_X9_away 98 (xs (x3 + 1).toNatClampNeg) 0 M_66 (fun r_70 M_71 => (if r_65 = r_70 then (w_law_1097 kL18 x3 M_71) else ((0 : Int32) = 1)))) else (w_X9_away 98 (xs (x3 + 1).toNatClampNeg) 1 M_66 (fun r_73 M_74 => (if r_65 = r_73 then (w_law_1097 kL18 x3 M_74) else ((0 : Int32) = 1))))))) else (w_X8_away 0 (xs (x3 + 1).toNatClampNeg) 1 M (fun r_76 M_77 => vp_in (x3 + 1) L ∧ vp_in (x3 + 2) L ∧ (if (xs (x3 + 2).toNatClampNeg) = 0 then (w_X9_away 98 (xs (x3 + 1).toNatClampNeg) 0 M_77 (fun r_81 M_82 => (if r_76 = r_81 then (w_law_1097 kL18 x3 M_82) else ((0 : Int32) = 1)))) else (w_X9_away 98 (xs (x3 + 1).toNatClampNeg) 1 M_77 (fun r_84 M_85 => (if r_76 = r_84 then (w_law_1097 kL18 x3 M_85) else ((0 : Int32) = 1))))))))) else (if ((xs x3.toNatClampNeg) &&& 63) = 7 then (vp_in (x3 + 1) L ∧ w_X8_lay 0 (xs (x3 + 1).toNatClampNeg) M (fun r_89 M_90 => vp_in (x3 + 1) L ∧ w_X9_lay 98 (xs (x3 + 1).toNatClampNeg) M_90 (fun r_92 M_93 => (if r_89 = r_92 then (w_law_1097 kL18 x3 M_93) else ((0 : Int32) = 1))))) else (if ((xs x3.toNatClampNeg) &&& 63) = 8 then (vp_in (x3 + 1) L ∧ w_X8_told 0 (xs (x3 + 1).toNatClampNeg) M (fun r_97 M_98 => vp_in (x3 + 1) L ∧ w_X9_told 98 (xs (x3 + 1).toNatClampNeg) M_98 (fun r_100 M_101 => (if r_97 = r_100 then (w_law_1097 kL18 x3 M_101) else ((0 : Int32) = 1))))) else (if ((xs x3.toNatClampNeg) &&& 63) = 9 then (vp_in (x3 + 1) L ∧ w_X8_pass 0 (xs (x3 + 1).toNatClampNeg) M (fun r_105 M_106 => vp_in (x3 + 1) L ∧ w_X9_pass 98 (xs (x3 + 1).toNatClampNeg) M_106 (fun r_108 M_109 => (if r_105 = r_108 then (w_law_1097 kL18 x3 M_109) else ((0 : Int32) = 1))))) else (if ((xs x3.toNatClampNeg) &&& 63) = 10 then (vp_in (x3 + 1) L ∧ vp_in (x3 + 2) L ∧ w_X8_on 0 (xs (x3 + 1).toNatClampNeg) (xs (x3 + 2).toNatClampNeg) M (fun r_114 M_115 => vp_in (x3 + 1) L ∧ vp_in (x3 + 2) L ∧ w_X9_on 98 (xs (x3 + 1).toNatClampNeg) (xs (x3 + 2).toNatClampNeg) M_115 (fun r_118 M_119 => (if r_114 = r_118 then (w_law_1097 kL18 x3 M_119) else ((0 : Int32) = 1))))) else (if ((xs x3.toNatClampNeg) &&& 63) = 11 then (vp_in (x3 + 1) L ∧ w_X8_finds 0 (xs (x3 + 1).toNatClampNeg) M (fun r_123 M_124 => vp_in (x3 + 1) L ∧ w_X9_finds 98 (xs (x3 + 1).toNatClampNeg) M_124 (fun r_126 M_127 => (if r_123 = r_126 then (w_law_1097 kL18 x3 M_127) else ((0 : Int32) = 1))))) else (if ((xs x3.toNatClampNeg) &&& 63) = 12 then (vp_in (x3 + 1) L ∧ vp_in (x3 + 2) L ∧ w_X8_soonest 0 (xs (x3 + 1).toNatClampNeg) (xs (x3 + 2).toNatClampNeg) M (fun r_132 M_133 => vp_in (x3 + 1) L ∧ vp_in (x3 + 2) L ∧ w_X9_soonest 98 (xs (x3 + 1).toNatClampNeg) (xs (x3 + 2).toNatClampNeg) M_133 (fun r_136 M_137 => (if r_132 = r_136 then (w_law_1097 kL18 x3 M_137) else ((0 : Int32) = 1))))) else (if ((xs x3.toNatClampNeg) &&& 63) = 13 then (vp_in (x3 + 1) L ∧ w_X8_call 0 (xs (x3 + 1).toNatClampNeg) M (fun r_141 M_142 => vp_in (x3 + 1) L ∧ w_X9_call 98 (xs (x3 + 1).toNatClampNeg) M_142 (fun r_144 M_145 => (if r_141 = r_144 then (w_law_1097 kL18 x3 M_145) else ((0 : Int32) = 1))))) else (if ((xs x3.toNatClampNeg) &&& 63) = 14 then (vp_in (x3 + 1) L ∧ w_X8_kept 0 (xs (x3 + 1).toNatClampNeg) M (fun r_149 M_150 => vp_in (x3 + 1) L ∧ w_X9_kept 98 (xs (x3 + 1).toNatClampNeg) M_150 (fun r_152 M_153 => (if r_149 = r_152 then (w_law_1097 kL18 x3 M_153) else ((0 : Int32) = 1))))) else (if ((xs x3.toNatClampNeg) &&& 63) = 15 then (vp_in (x3 + 1) L ∧ w_X8_walk 0 (xs (x3 + 1).toNatClampNeg) M (fun r_157 M_158 => vp_in (x3 + 1) L ∧ w_X9_walk 98 (xs (x3 + 1).toNatClampNeg) M_158 (fun r_160 M_161 => (if r_157 = r_160 then (w_law_1097 kL18 x3 M_161) else ((0 : Int32) = 1))))) else (if ((xs x3.toNatClampNeg) &&& 63) = 16 then (vp_in (x3 + 1) L ∧ w_X8_met 0 (xs (x3 + 1).toNatClampNeg) M (fun r_165 M_166 => vp_in (x3 + 1) L ∧ w_X9_met 98 (xs (x3 + 1).toNatClampNeg) M_166 (fun r_168 M_169 => (if r_165 = r_168 then (w_law_1097 kL18 x3 M_169) else ((0 : Int32) = 1))))) else (if ((xs x3.toNatClampNeg) &&& 63) = 17 then (vp_in (x3 + 1) L ∧ vp_in (x3 + 2) L ∧ w_X8_see 0 (xs (x3 + 1).toNatClampNeg) (xs (x3 + 2).toNatClampNeg) M (fun r_174 M_175 => vp_in (x3 + 1) L ∧ vp_in (x3 + 2) L ∧ w_X9_see 98 (xs (x3 + 1).toNatClampNeg) (xs (x3 + 2).toNatClampNeg) M_175 (fun r_178 M_179 => (if r_174 = r_178 then (w_law_1097 kL18 x3 M_179) else ((0 : Int32) = 1))))) else (if ((xs x3.toNatClampNeg) &&& 63) = 18 then (vp_in (x3 + 1) L ∧ w_X8_doors 0 (xs (x3 + 1).toNatClampNeg) M (fun r_183 M_184 => vp_in (x3 + 1) L ∧ w_X9_doors 98 (xs (x3 + 1).toNatClampNeg) M_184 (fun r_186 M_187 => (if r_183 = r_186 then (w_law_1097 kL18 x3 M_187) else ((0 : Int32) = 1))))) else (if ((xs x3.toNatClampNeg) &&& 63) = 19 then (vp_in (x3 + 1) L ∧ vp_in (x3 + 2) L ∧ w_X8_firm 0 (xs (x3 + 1).toNatClampNeg) (xs (x3 + 2).toNatClampNeg) M (fun r_192 M_193 => vp_in (x3 + 1) L ∧ vp_in (x3 + 2) L ∧ w_X9_firm 98 (xs (x3 + 1).toNatClampNeg) (xs (x3 + 2).toNatClampNeg) M_193 (fun r_196 M_197 => (if r_192 = r_196 then (w_law_1097 kL18 x3 M_197) else ((0 : Int32) = 1))))) else (if ((xs x3.toNatClampNeg) &&& 63) = 20 then (w_X8_sought 0 M (fun r_200 M_201 => w_X9_sought 98 M_201 (fun r_202 M_203 => (if r_200 = r_202 then (w_law_1097 kL18 x3 M_203) else ((0 : Int32) = 1))))) else (if ((xs x3.toNatClampNeg) &&& 63) = 21 then (vp_in (x3 + 1) L ∧ vp_in (x3 + 2) L ∧ vp_in (x3 + 3) L ∧ w_X8_odds 0 (xs (x3 + 1).toNatClampNeg) (xs (x3 + 2).toNatClampNeg) (xs (x3 + 3).toNatClampNeg) M (fun r_209 M_210 => vp_in (x3 + 1) L ∧ vp_in (x3 + 2) L ∧ vp_in (x3 + 3) L ∧ w_X9_odds 98 (xs (x3 + 1).toNatClampNeg) (xs (x3 + 2).toNatClampNeg) (xs (x3 + 3).toNatClampNeg) M_210 (fun r_214 M_215 => (if (lg_cmp r_209 r_214) = 0 then (w_law_1097 kL18 x3 M_215) else ((0 : Int32) = 1))))) else (if ((xs x3.toNatClampNeg) &&& 63) = 22 then (vp_in (x3 + 1) L ∧ vp_in (x3 + 2) L ∧ w_X8_mean 0 (xs (x3 + 1).toNatClampNeg) (xs (x3 + 2).toNatClampNeg) M (fun r_220 M_221 => vp_in (x3 + 1) L ∧ vp_in (x3 + 2) L ∧ w_X9_mean 98 (xs (x3 + 1).toNatClampNeg) (xs (x3 + 2).toNatClampNeg) M_221 (fun r_224 M_225 => (if (lg_cmp r_220 r_224) = 0 then (w_law_1097 kL18 x3 M_225) else ((0 : Int32) = 1))))) else (if ((xs x3.toNatClampNeg) &&& 63) = 23 then (vp_in (x3 + 1) L ∧ vp_in (x3 + 2) L ∧ w_X8_plan 0 (xs (x3 + 1).toNatClampNeg) (xs (x3 + 2).toNatClampNeg) M (fun r_230 M_231 => vp_in (x3 + 1) L ∧ vp_in (x3 + 2) L ∧ w_X9_plan 98 (xs (x3 + 1).toNatClampNeg) (xs (x3 + 2).toNatClampNeg) M_231 (fun r_234 M_235 => (if r_230 = r_234 then (w_law_1097 kL18 x3 M_235) else ((0 : Int32) = 1))))) else (if ((xs x3.toNatClampNeg) &&& 63) = 24 then (vp_in (x3 + 1) L ∧ w_X8_done 0 (xs (x3 + 1).toNatClampNeg) M (fun r_239 M_240 => vp_in (x3 + 1) L ∧ w_X9_done 98 (xs (x3 + 1).toNatClampNeg) M_240 (fun r_242 M_243 => (if r_239 = r_242 then (w_law_1097 kL18 x3 M_243) else ((0 : Int32) = 1))))) else (if ((xs x3.toNatClampNeg) &&& 63) = 25 then (vp_in (x3 + 1) L ∧ vp_in (x3 + 2) L ∧ w_X8_book 0 (xs (x3 + 1).toNatClampNeg) (xs (x3 + 2).toNatClampNeg) M (fun r_248 M_249 => vp_in (x3 + 1) L ∧ vp_in (x3 + 2) L ∧ w_X9_book 98 (xs (x3 + 1).toNatClampNeg) (xs (x3 + 2).toNatClampNeg) M_249 (fun r_252 M_253 => (if r_248 = r_252 then (w_law_1097 kL18 x3 M_253) else ((0 : Int32) = 1))))) else (if ((xs x3.toNatClampNeg) &&& 63) = 26 then (w_X8_looked 0 M (fun r_256 M_257 => w_X9_looked 98 M_257 (fun r_258 M_259 => (if r_256 = r_258 then (w_law_1097 kL18 x3 M_259) else ((0 : Int32) = 1))))) else (if ((xs x3.toNatClampNeg) &&& 63) = 27 then (vp_in (x3 + 1) L ∧ vp_in (x3 + 2) L ∧ vp_in (x3 + 3) L ∧ w_X8_act 0 (xs (x3 + 1).toNatClampNeg) (xs (x3 + 2).toNatClampNeg) (xs (x3 + 3).toNatClampNeg) M (fun r_265 M_266 => vp_in (x3 + 1) L ∧ vp_in (x3 + 2) L ∧ vp_in (x3 + 3) L ∧ w_X9_act 98 (xs (x3 + 1).toNatClampNeg) (xs (x3 + 2).toNatClampNeg) (xs (x3 + 3).toNatClampNeg) M_266 (fun r_270 M_271 => (if r_265 = r_270 then (w_law_1097 kL18 x3 M_271) else ((0 : Int32) = 1))))) else (if ((xs x3.toNatClampNeg) &&& 63) = 28 then (vp_in (x3 + 1) L ∧ w_X8_trace 0 (xs (x3 + 1).toNatClampNeg) M (fun r_275 M_276 => vp_in (x3 + 1) L ∧ w_X9_trace 98 (xs (x3 + 1).toNatClampNeg) M_276 (fun r_278 M_279 => (if r_275 = r_278 then (w_law_1097 kL18 x3 M_279) else ((0 : Int32) = 1))))) else (if ((xs x3.toNatClampNeg) &&& 63) = 29 then (vp_in (x3 + 1) L ∧ vp_in (x3 + 2) L ∧ w_X8_as 0 (xs (x3 + 1).toNatClampNeg) (xs (x3 + 2).toNatClampNeg) M (fun r_284 M_285 => vp_in (x3 + 1) L ∧ vp_in (x3 + 2) L ∧ w_X9_as 98 (xs (x3 + 1).toNatClampNeg) (xs (x3 + 2).toNatClampNeg) M_285 (fun r_288 M_289 => (if r_284 = r_288 then (w_law_1097 kL18 x3 M_289) else ((0 : Int32) = 1))))) else (if ((xs x3.toNatClampNeg) &&& 63) = 30 then (w_X8_image 0 M (fun r_292 M_293 => w_X9_image 98 M_293 (fun r_294 M_295 => (if r_292 = r_294 then (w_law_1097 kL18 x3 M_295) else ((0 : Int32) = 1))))) else (if ((xs x3.toNatClampNeg) &&& 63) = 31 then (w_X8_undo 0 M (fun r_298 M_299 => w_X9_undo 98 M_299 (fun r_300 M_301 => (if r_298 = r_300 then (w_law_1097 kL18 x3 M_301) else ((0 : Int32) = 1))))) else (if ((xs x3.toNatClampNeg) &&& 63) = 32 then (vp_in (x3 + 1) L ∧ w_X8_count 0 (xs (x3 + 1).toNatClampNeg) M (fun r_305 M_306 => vp_in (x3 + 1) L ∧ w_X9_count 98 (xs (x3 + 1).toNatClampNeg) M_306 (fun r_308 M_309 => (if r_305 = r_308 then (w_law_1097 kL18 x3 M_309) else ((0 : Int32) = 1))))) else (w_law_1097 kL18 x3 M))))))))))))))))))))))))))))))))))))
def w_law_18 (L : Nat) (xs : Nat → Int32) : Nat → Int32 → ap_Mem → Prop
  | 0, _, _ => False
  | n + 1, x3, M => w_law_18_s L xs (w_law_18 L xs n) x3 M
theorem bl_L_law_1097 {x : ap_X} {g : ap_G} {b L : Nat} {xs : Nat → Int32} (hc : ap_Cx x g code R_law 4) (hL : ap_Lx x g b L xs) {kL18 : Int32 → ap_Mem → Prop} (hk18 : ∀ (x3 : Int32) (M : ap_Mem), kL18 x3 M → ap_V x g 4 18 [(0, .ref b), (1, .ref (ap_ad g 0)), (2, .ref (ap_ad g 98)), (3, .int x3)] [] M) {x3 : Int32} {M : ap_Mem} (h : w_law_1097 kL18 x3 M) : ap_V x g 4 1097 [(0, .ref b), (1, .ref (ap_ad g 0)), (2, .ref (ap_ad g 98)), (3, .int x3)] [] M := by
  unfold w_law_1097 at h
  obtain ⟨x3_1, ex3_1, h⟩ := ap_nm h
  refine ap_iinc (q := 1100) (lo2 := [(3, .int x3_1), (0, .ref b), (1, .ref (ap_ad g 0)), (2, .ref (ap_ad g 98))]) hc dL_law_1097 rfl 3 rfl (by rw [ex3_1]; rfl) (by decide) rfl ?_
  refine ap_goto (q := 18) hc dL_law_1100 (by decide) ?_
  exact ap_sub [1, 2, 3, 0] rfl (hk18 _ _ h)
theorem bl_L_law_18 {x : ap_X} {g : ap_G} {b L : Nat} {xs : Nat → Int32} (hc : ap_Cx x g code R_law 4) (hL : ap_Lx x g b L xs) : ∀ (n : Nat) (x3 : Int32) (M : ap_Mem), w_law_18 L xs n x3 M → ap_V x g 4 18 [(0, .ref b), (1, .ref (ap_ad g 0)), (2, .ref (ap_ad g 98)), (3, .int x3)] [] M := by
  have hg := hc.2.2.2.2.2.2.2.1
  intro n
  induction n with
  | zero => intro _ _ h; exact h.elim
  | succ n ih =>
    intro x3 M h
    replace h : w_law_18_s L xs (w_law_18 L xs n) x3 M := h
    unfold w_law_18_s at h
    refine ap_iload_n (q := 19) hc dL_law_18 rfl rfl 3 rfl ?_
    refine ap_aload_n (q := 20) hc dL_law_19 rfl rfl 0 rfl ?_
    refine ap_slen (q := 21) hL hc dL_law_20 rfl ?_
    refine ap_iconst (q := 22) hc dL_law_21 rfl ic_4 ?_
    refine ap_isub (q := 23) hc dL_law_22 rfl ?_
    refine ap_icmp_gt (q := 26) (tgt := 1103) hc dL_law_23 rfl (by decide) (fun z_1 => ?_) (fun z_1 => ?_)
    · have h := Eq.mp (if_pos z_1) h
      refine ap_iconst (q := 1104) hc dL_law_1103 rfl ic_1 ?_
      exact ap_lawret hc hL dL_law_1104 h
    · have h := Eq.mp (if_neg z_1) h
      refine ap_aload_n (q := 27) hc dL_law_26 rfl rfl 0 rfl ?_
      refine ap_iload_n (q := 28) hc dL_law_27 rfl rfl 3 rfl ?_
      obtain ⟨g_2, h⟩ := h
      refine ap_sld (q := 29) hL g_2 hc dL_law_28 rfl ?_
      refine ap_bipush (q := 31) hc dL_law_29 rfl bc_63 ?_
      refine ap_iand (q := 32) hc dL_law_31 rfl ?_
      by_cases z_3 : ((xs x3.toNatClampNeg) &&& 63) = 0
      · have h := Eq.mp (if_pos z_3) h
        refine ap_tabIn (tgt := 180) (off := 148) (v := 0) hc dL_law_32 z_3 (by decide) (by decide) (by decide +kernel) (by decide) ?_
        refine ap_aload_n (q := 181) hc dL_law_180 rfl rfl 1 rfl ?_
        refine ap_aload_n (q := 182) hc dL_law_181 rfl rfl 0 rfl ?_
        refine ap_iload_n (q := 183) hc dL_law_182 rfl rfl 3 rfl ?_
        refine ap_iconst (q := 184) hc dL_law_183 rfl ic_1 ?_
        refine ap_iadd (q := 185) hc dL_law_184 rfl ?_
        obtain ⟨g_4, h⟩ := h
        refine ap_sld (q := 186) hL g_4 hc dL_law_185 rfl ?_
        refine ap_callV (q := 189) (As := [.int (xs (x3 + 1).toNatClampNeg)]) hc (ok_X8_feed hg (rfl : ap_kd 0 = 8) h) ml_R_law_13 lk_X8_feed lv_X8_feed (rfl : ap_kd 0 = 8) rfl (ap_RmM hL (by decide)) rfl rfl (Nat.le_of_ble_eq_true rfl) dL_law_186 rfl (ap_ki (fun r_5 M_6 h => ?_))
        refine ap_aload_n (q := 190) hc dL_law_189 rfl rfl 2 rfl ?_
        refine ap_aload_n (q := 191) hc dL_law_190 rfl rfl 0 rfl ?_
        refine ap_iload_n (q := 192) hc dL_law_191 rfl rfl 3 rfl ?_
        refine ap_iconst (q := 193) hc dL_law_192 rfl ic_1 ?_
        refine ap_iadd (q := 194) hc dL_law_193 rfl ?_
        obtain ⟨g_7, h⟩ := h
        refine ap_sld (q := 195) hL g_7 hc dL_law_194 rfl ?_
        refine ap_callV (q := 198) (As := [.int (xs (x3 + 1).toNatClampNeg)]) hc (ok_X9_feed hg (rfl : ap_kd 98 = 9) h) ml_R_law_17 lk_X9_feed lv_X9_feed (rfl : ap_kd 98 = 9) rfl (ap_RmM hL (by decide)) rfl rfl (Nat.le_of_ble_eq_true rfl) dL_law_195 rfl (ap_ki (fun r_8 M_9 h => ?_))
        refine ap_icmp_eq (q := 201) (tgt := 1097) hc dL_law_198 rfl (by decide) (fun z_10 => ?_) (fun z_10 => ?_)
        · have h := Eq.mp (if_pos z_10) h
          exact ap_sub [0, 1, 2, 3] rfl (bl_L_law_1097 hc hL ih h)
        · have h := Eq.mp (if_neg z_10) h
          refine ap_iconst (q := 202) hc dL_law_201 rfl ic_0 ?_
          exact ap_lawret hc hL dL_law_202 h
      · have h := Eq.mp (if_neg z_3) h
        by_cases z_11 : ((xs x3.toNatClampNeg) &&& 63) = 1
        · have h := Eq.mp (if_pos z_11) h
          refine ap_tabIn (tgt := 203) (off := 171) (v := 1) hc dL_law_32 z_11 (by decide) (by decide) (by decide +kernel) (by decide) ?_
          refine ap_aload_n (q := 204) hc dL_law_203 rfl rfl 1 rfl ?_
          refine ap_callV (q := 207) (As := []) hc (ok_X8_town hg (rfl : ap_kd 0 = 8) h) ml_R_law_18 lk_X8_town lv_X8_town (rfl : ap_kd 0 = 8) rfl (ap_RmM hL (by decide)) rfl rfl (Nat.le_of_ble_eq_true rfl) dL_law_204 rfl (ap_ki (fun r_12 M_13 h => ?_))
          refine ap_aload_n (q := 208) hc dL_law_207 rfl rfl 2 rfl ?_
          refine ap_callV (q := 211) (As := []) hc (ok_X9_town hg (rfl : ap_kd 98 = 9) h) ml_R_law_22 lk_X9_town lv_X9_town (rfl : ap_kd 98 = 9) rfl (ap_RmM hL (by decide)) rfl rfl (Nat.le_of_ble_eq_true rfl) dL_law_208 rfl (ap_ki (fun r_14 M_15 h => ?_))
          refine ap_icmp_eq (q := 214) (tgt := 1097) hc dL_law_211 rfl (by decide) (fun z_16 => ?_) (fun z_16 => ?_)
          · have h := Eq.mp (if_pos z_16) h
            exact ap_sub [0, 1, 2, 3] rfl (bl_L_law_1097 hc hL ih h)
          · have h := Eq.mp (if_neg z_16) h
            refine ap_iconst (q := 215) hc dL_law_214 rfl ic_0 ?_
            exact ap_lawret hc hL dL_law_215 h
        · have h := Eq.mp (if_neg z_11) h
          by_cases z_17 : ((xs x3.toNatClampNeg) &&& 63) = 2
          · have h := Eq.mp (if_pos z_17) h
            refine ap_tabIn (tgt := 216) (off := 184) (v := 2) hc dL_law_32 z_17 (by decide) (by decide) (by decide +kernel) (by decide) ?_
            refine ap_aload_n (q := 217) hc dL_law_216 rfl rfl 1 rfl ?_
            refine ap_aload_n (q := 218) hc dL_law_217 rfl rfl 0 rfl ?_
            refine ap_iload_n (q := 219) hc dL_law_218 rfl rfl 3 rfl ?_
            refine ap_iconst (q := 220) hc dL_law_219 rfl ic_1 ?_
            refine ap_iadd (q := 221) hc dL_law_220 rfl ?_
            obtain ⟨g_18, h⟩ := h
            refine ap_sld (q := 222) hL g_18 hc dL_law_221 rfl ?_
            refine ap_aload_n (q := 223) hc dL_law_222 rfl rfl 0 rfl ?_
            refine ap_iload_n (q := 224) hc dL_law_223 rfl rfl 3 rfl ?_
            refine ap_iconst (q := 225) hc dL_law_224 rfl ic_2 ?_
            refine ap_iadd (q := 226) hc dL_law_225 rfl ?_
            obtain ⟨g_19, h⟩ := h
            refine ap_sld (q := 227) hL g_19 hc dL_law_226 rfl ?_
            refine ap_aload_n (q := 228) hc dL_law_227 rfl rfl 0 rfl ?_
            refine ap_iload_n (q := 229) hc dL_law_228 rfl rfl 3 rfl ?_
            refine ap_iconst (q := 230) hc dL_law_229 rfl ic_3 ?_
            refine ap_iadd (q := 231) hc dL_law_230 rfl ?_
            obtain ⟨g_20, h⟩ := h
            refine ap_sld (q := 232) hL g_20 hc dL_law_231 rfl ?_
            refine ap_callV (q := 235) (As := [.int (xs (x3 + 1).toNatClampNeg), .int (xs (x3 + 2).toNatClampNeg), .int (xs (x3 + 3).toNatClampNeg)]) hc (ok_X8_person hg (rfl : ap_kd 0 = 8) h) ml_R_law_23 lk_X8_person lv_X8_person (rfl : ap_kd 0 = 8) rfl (ap_RmM hL (by decide)) rfl rfl (Nat.le_of_ble_eq_true rfl) dL_law_232 rfl (ap_ki (fun r_21 M_22 h => ?_))
            refine ap_aload_n (q := 236) hc dL_law_235 rfl rfl 2 rfl ?_
            refine ap_aload_n (q := 237) hc dL_law_236 rfl rfl 0 rfl ?_
            refine ap_iload_n (q := 238) hc dL_law_237 rfl rfl 3 rfl ?_
            refine ap_iconst (q := 239) hc dL_law_238 rfl ic_1 ?_
            refine ap_iadd (q := 240) hc dL_law_239 rfl ?_
            obtain ⟨g_23, h⟩ := h
            refine ap_sld (q := 241) hL g_23 hc dL_law_240 rfl ?_
            refine ap_aload_n (q := 242) hc dL_law_241 rfl rfl 0 rfl ?_
            refine ap_iload_n (q := 243) hc dL_law_242 rfl rfl 3 rfl ?_
            refine ap_iconst (q := 244) hc dL_law_243 rfl ic_2 ?_
            refine ap_iadd (q := 245) hc dL_law_244 rfl ?_
            obtain ⟨g_24, h⟩ := h
            refine ap_sld (q := 246) hL g_24 hc dL_law_245 rfl ?_
            refine ap_aload_n (q := 247) hc dL_law_246 rfl rfl 0 rfl ?_
            refine ap_iload_n (q := 248) hc dL_law_247 rfl rfl 3 rfl ?_
            refine ap_iconst (q := 249) hc dL_law_248 rfl ic_3 ?_
            refine ap_iadd (q := 250) hc dL_law_249 rfl ?_
            obtain ⟨g_25, h⟩ := h
            refine ap_sld (q := 251) hL g_25 hc dL_law_250 rfl ?_
            refine ap_callV (q := 254) (As := [.int (xs (x3 + 1).toNatClampNeg), .int (xs (x3 + 2).toNatClampNeg), .int (xs (x3 + 3).toNatClampNeg)]) hc (ok_X9_person hg (rfl : ap_kd 98 = 9) h) ml_R_law_27 lk_X9_person lv_X9_person (rfl : ap_kd 98 = 9) rfl (ap_RmM hL (by decide)) rfl rfl (Nat.le_of_ble_eq_true rfl) dL_law_251 rfl (ap_ki (fun r_26 M_27 h => ?_))
            refine ap_icmp_eq (q := 257) (tgt := 1097) hc dL_law_254 rfl (by decide) (fun z_28 => ?_) (fun z_28 => ?_)
            · have h := Eq.mp (if_pos z_28) h
              exact ap_sub [0, 1, 2, 3] rfl (bl_L_law_1097 hc hL ih h)
            · have h := Eq.mp (if_neg z_28) h
              refine ap_iconst (q := 258) hc dL_law_257 rfl ic_0 ?_
              exact ap_lawret hc hL dL_law_258 h
          · have h := Eq.mp (if_neg z_17) h
            by_cases z_29 : ((xs x3.toNatClampNeg) &&& 63) = 3
            · have h := Eq.mp (if_pos z_29) h
              refine ap_tabIn (tgt := 259) (off := 227) (v := 3) hc dL_law_32 z_29 (by decide) (by decide) (by decide +kernel) (by decide) ?_
              refine ap_aload_n (q := 260) hc dL_law_259 rfl rfl 1 rfl ?_
              refine ap_aload_n (q := 261) hc dL_law_260 rfl rfl 0 rfl ?_
              refine ap_iload_n (q := 262) hc dL_law_261 rfl rfl 3 rfl ?_
              refine ap_iconst (q := 263) hc dL_law_262 rfl ic_1 ?_
              refine ap_iadd (q := 264) hc dL_law_263 rfl ?_
              obtain ⟨g_30, h⟩ := h
              refine ap_sld (q := 265) hL g_30 hc dL_law_264 rfl ?_
              refine ap_aload_n (q := 266) hc dL_law_265 rfl rfl 0 rfl ?_
              refine ap_iload_n (q := 267) hc dL_law_266 rfl rfl 3 rfl ?_
              refine ap_iconst (q := 268) hc dL_law_267 rfl ic_2 ?_
              refine ap_iadd (q := 269) hc dL_law_268 rfl ?_
              obtain ⟨g_31, h⟩ := h
              refine ap_sld (q := 270) hL g_31 hc dL_law_269 rfl ?_
              refine ap_callV (q := 273) (As := [.int (xs (x3 + 1).toNatClampNeg), .int (xs (x3 + 2).toNatClampNeg)]) hc (ok_X8_of hg (rfl : ap_kd 0 = 8) h) ml_R_law_28 lk_X8_of lv_X8_of (rfl : ap_kd 0 = 8) rfl (ap_RmM hL (by decide)) rfl rfl (Nat.le_of_ble_eq_true rfl) dL_law_270 rfl (ap_ki (fun r_32 M_33 h => ?_))
              refine ap_aload_n (q := 274) hc dL_law_273 rfl rfl 2 rfl ?_
              refine ap_aload_n (q := 275) hc dL_law_274 rfl rfl 0 rfl ?_
              refine ap_iload_n (q := 276) hc dL_law_275 rfl rfl 3 rfl ?_
              refine ap_iconst (q := 277) hc dL_law_276 rfl ic_1 ?_
              refine ap_iadd (q := 278) hc dL_law_277 rfl ?_
              obtain ⟨g_34, h⟩ := h
              refine ap_sld (q := 279) hL g_34 hc dL_law_278 rfl ?_
              refine ap_aload_n (q := 280) hc dL_law_279 rfl rfl 0 rfl ?_
              refine ap_iload_n (q := 281) hc dL_law_280 rfl rfl 3 rfl ?_
              refine ap_iconst (q := 282) hc dL_law_281 rfl ic_2 ?_
              refine ap_iadd (q := 283) hc dL_law_282 rfl ?_
              obtain ⟨g_35, h⟩ := h
              refine ap_sld (q := 284) hL g_35 hc dL_law_283 rfl ?_
              refine ap_callV (q := 287) (As := [.int (xs (x3 + 1).toNatClampNeg), .int (xs (x3 + 2).toNatClampNeg)]) hc (ok_X9_of hg (rfl : ap_kd 98 = 9) h) ml_R_law_32 lk_X9_of lv_X9_of (rfl : ap_kd 98 = 9) rfl (ap_RmM hL (by decide)) rfl rfl (Nat.le_of_ble_eq_true rfl) dL_law_284 rfl (ap_ki (fun r_36 M_37 h => ?_))
              refine ap_icmp_eq (q := 290) (tgt := 1097) hc dL_law_287 rfl (by decide) (fun z_38 => ?_) (fun z_38 => ?_)
              · have h := Eq.mp (if_pos z_38) h
                exact ap_sub [0, 1, 2, 3] rfl (bl_L_law_1097 hc hL ih h)
              · have h := Eq.mp (if_neg z_38) h
                refine ap_iconst (q := 291) hc dL_law_290 rfl ic_0 ?_
                exact ap_lawret hc hL dL_law_291 h
            · have h := Eq.mp (if_neg z_29) h
              by_cases z_39 : ((xs x3.toNatClampNeg) &&& 63) = 4
              · have h := Eq.mp (if_pos z_39) h
                refine ap_tabIn (tgt := 292) (off := 260) (v := 4) hc dL_law_32 z_39 (by decide) (by decide) (by decide +kernel) (by decide) ?_
                refine ap_aload_n (q := 293) hc dL_law_292 rfl rfl 1 rfl ?_
                refine ap_aload_n (q := 294) hc dL_law_293 rfl rfl 0 rfl ?_
                refine ap_iload_n (q := 295) hc dL_law_294 rfl rfl 3 rfl ?_
                refine ap_iconst (q := 296) hc dL_law_295 rfl ic_1 ?_
                refine ap_iadd (q := 297) hc dL_law_296 rfl ?_
                obtain ⟨g_40, h⟩ := h
                refine ap_sld (q := 298) hL g_40 hc dL_law_297 rfl ?_
                refine ap_aload_n (q := 299) hc dL_law_298 rfl rfl 0 rfl ?_
                refine ap_iload_n (q := 300) hc dL_law_299 rfl rfl 3 rfl ?_
                refine ap_iconst (q := 301) hc dL_law_300 rfl ic_2 ?_
                refine ap_iadd (q := 302) hc dL_law_301 rfl ?_
                obtain ⟨g_41, h⟩ := h
                refine ap_sld (q := 303) hL g_41 hc dL_law_302 rfl ?_
                refine ap_aload_n (q := 304) hc dL_law_303 rfl rfl 0 rfl ?_
                refine ap_iload_n (q := 305) hc dL_law_304 rfl rfl 3 rfl ?_
                refine ap_iconst (q := 306) hc dL_law_305 rfl ic_3 ?_
                refine ap_iadd (q := 307) hc dL_law_306 rfl ?_
                obtain ⟨g_42, h⟩ := h
                refine ap_sld (q := 308) hL g_42 hc dL_law_307 rfl ?_
                refine ap_callV (q := 311) (As := [.int (xs (x3 + 1).toNatClampNeg), .int (xs (x3 + 2).toNatClampNeg), .int (xs (x3 + 3).toNatClampNeg)]) hc (ok_X8_line hg (rfl : ap_kd 0 = 8) h) ml_R_law_33 lk_X8_line lv_X8_line (rfl : ap_kd 0 = 8) rfl (ap_RmM hL (by decide)) rfl rfl (Nat.le_of_ble_eq_true rfl) dL_law_308 rfl (ap_ki (fun r_43 M_44 h => ?_))
                refine ap_aload_n (q := 312) hc dL_law_311 rfl rfl 2 rfl ?_
                refine ap_aload_n (q := 313) hc dL_law_312 rfl rfl 0 rfl ?_
                refine ap_iload_n (q := 314) hc dL_law_313 rfl rfl 3 rfl ?_
                refine ap_iconst (q := 315) hc dL_law_314 rfl ic_1 ?_
                refine ap_iadd (q := 316) hc dL_law_315 rfl ?_
                obtain ⟨g_45, h⟩ := h
                refine ap_sld (q := 317) hL g_45 hc dL_law_316 rfl ?_
                refine ap_aload_n (q := 318) hc dL_law_317 rfl rfl 0 rfl ?_
                refine ap_iload_n (q := 319) hc dL_law_318 rfl rfl 3 rfl ?_
                refine ap_iconst (q := 320) hc dL_law_319 rfl ic_2 ?_
                refine ap_iadd (q := 321) hc dL_law_320 rfl ?_
                obtain ⟨g_46, h⟩ := h
                refine ap_sld (q := 322) hL g_46 hc dL_law_321 rfl ?_
                refine ap_aload_n (q := 323) hc dL_law_322 rfl rfl 0 rfl ?_
                refine ap_iload_n (q := 324) hc dL_law_323 rfl rfl 3 rfl ?_
                refine ap_iconst (q := 325) hc dL_law_324 rfl ic_3 ?_
                refine ap_iadd (q := 326) hc dL_law_325 rfl ?_
                obtain ⟨g_47, h⟩ := h
                refine ap_sld (q := 327) hL g_47 hc dL_law_326 rfl ?_
                refine ap_callV (q := 330) (As := [.int (xs (x3 + 1).toNatClampNeg), .int (xs (x3 + 2).toNatClampNeg), .int (xs (x3 + 3).toNatClampNeg)]) hc (ok_X9_line hg (rfl : ap_kd 98 = 9) h) ml_R_law_36 lk_X9_line lv_X9_line (rfl : ap_kd 98 = 9) rfl (ap_RmM hL (by decide)) rfl rfl (Nat.le_of_ble_eq_true rfl) dL_law_327 rfl (ap_ki (fun r_48 M_49 h => ?_))
                refine ap_icmp_eq (q := 333) (tgt := 1097) hc dL_law_330 rfl (by decide) (fun z_50 => ?_) (fun z_50 => ?_)
                · have h := Eq.mp (if_pos z_50) h
                  exact ap_sub [0, 1, 2, 3] rfl (bl_L_law_1097 hc hL ih h)
                · have h := Eq.mp (if_neg z_50) h
                  refine ap_iconst (q := 334) hc dL_law_333 rfl ic_0 ?_
                  exact ap_lawret hc hL dL_law_334 h
              · have h := Eq.mp (if_neg z_39) h
                by_cases z_51 : ((xs x3.toNatClampNeg) &&& 63) = 5
                · have h := Eq.mp (if_pos z_51) h
                  refine ap_tabIn (tgt := 335) (off := 303) (v := 5) hc dL_law_32 z_51 (by decide) (by decide) (by decide +kernel) (by decide) ?_
                  refine ap_aload_n (q := 336) hc dL_law_335 rfl rfl 1 rfl ?_
                  refine ap_aload_n (q := 337) hc dL_law_336 rfl rfl 0 rfl ?_
                  refine ap_iload_n (q := 338) hc dL_law_337 rfl rfl 3 rfl ?_
                  refine ap_iconst (q := 339) hc dL_law_338 rfl ic_1 ?_
                  refine ap_iadd (q := 340) hc dL_law_339 rfl ?_
                  obtain ⟨g_52, h⟩ := h
                  refine ap_sld (q := 341) hL g_52 hc dL_law_340 rfl ?_
                  refine ap_aload_n (q := 342) hc dL_law_341 rfl rfl 0 rfl ?_
                  refine ap_iload_n (q := 343) hc dL_law_342 rfl rfl 3 rfl ?_
                  refine ap_iconst (q := 344) hc dL_law_343 rfl ic_2 ?_
                  refine ap_iadd (q := 345) hc dL_law_344 rfl ?_
                  obtain ⟨g_53, h⟩ := h
                  refine ap_sld (q := 346) hL g_53 hc dL_law_345 rfl ?_
                  refine ap_callV (q := 349) (As := [.int (xs (x3 + 1).toNatClampNeg), .int (xs (x3 + 2).toNatClampNeg)]) hc (ok_X8_move hg (rfl : ap_kd 0 = 8) h) ml_R_law_37 lk_X8_move lv_X8_move (rfl : ap_kd 0 = 8) rfl (ap_RmM hL (by decide)) rfl rfl (Nat.le_of_ble_eq_true rfl) dL_law_346 rfl (ap_ki (fun r_54 M_55 h => ?_))
                  refine ap_aload_n (q := 350) hc dL_law_349 rfl rfl 2 rfl ?_
                  refine ap_aload_n (q := 351) hc dL_law_350 rfl rfl 0 rfl ?_
                  refine ap_iload_n (q := 352) hc dL_law_351 rfl rfl 3 rfl ?_
                  refine ap_iconst (q := 353) hc dL_law_352 rfl ic_1 ?_
                  refine ap_iadd (q := 354) hc dL_law_353 rfl ?_
                  obtain ⟨g_56, h⟩ := h
                  refine ap_sld (q := 355) hL g_56 hc dL_law_354 rfl ?_
                  refine ap_aload_n (q := 356) hc dL_law_355 rfl rfl 0 rfl ?_
                  refine ap_iload_n (q := 357) hc dL_law_356 rfl rfl 3 rfl ?_
                  refine ap_iconst (q := 358) hc dL_law_357 rfl ic_2 ?_
                  refine ap_iadd (q := 359) hc dL_law_358 rfl ?_
                  obtain ⟨g_57, h⟩ := h
                  refine ap_sld (q := 360) hL g_57 hc dL_law_359 rfl ?_
                  refine ap_callV (q := 363) (As := [.int (xs (x3 + 1).toNatClampNeg), .int (xs (x3 + 2).toNatClampNeg)]) hc (ok_X9_move hg (rfl : ap_kd 98 = 9) h) ml_R_law_40 lk_X9_move lv_X9_move (rfl : ap_kd 98 = 9) rfl (ap_RmM hL (by decide)) rfl rfl (Nat.le_of_ble_eq_true rfl) dL_law_360 rfl (ap_ki (fun r_58 M_59 h => ?_))
                  refine ap_icmp_eq (q := 366) (tgt := 1097) hc dL_law_363 rfl (by decide) (fun z_60 => ?_) (fun z_60 => ?_)
                  · have h := Eq.mp (if_pos z_60) h
                    exact ap_sub [0, 1, 2, 3] rfl (bl_L_law_1097 hc hL ih h)
                  · have h := Eq.mp (if_neg z_60) h
                    refine ap_iconst (q := 367) hc dL_law_366 rfl ic_0 ?_
                    exact ap_lawret hc hL dL_law_367 h
                · have h := Eq.mp (if_neg z_51) h
                  by_cases z_61 : ((xs x3.toNatClampNeg) &&& 63) = 6
                  · have h := Eq.mp (if_pos z_61) h
                    refine ap_tabIn (tgt := 368) (off := 336) (v := 6) hc dL_law_32 z_61 (by decide) (by decide) (by decide +kernel) (by decide) ?_
                    refine ap_aload_n (q := 369) hc dL_law_368 rfl rfl 1 rfl ?_
                    refine ap_aload_n (q := 370) hc dL_law_369 rfl rfl 0 rfl ?_
                    refine ap_iload_n (q := 371) hc dL_law_370 rfl rfl 3 rfl ?_
                    refine ap_iconst (q := 372) hc dL_law_371 rfl ic_1 ?_
                    refine ap_iadd (q := 373) hc dL_law_372 rfl ?_
                    obtain ⟨g_62, h⟩ := h
                    refine ap_sld (q := 374) hL g_62 hc dL_law_373 rfl ?_
                    refine ap_aload_n (q := 375) hc dL_law_374 rfl rfl 0 rfl ?_
                    refine ap_iload_n (q := 376) hc dL_law_375 rfl rfl 3 rfl ?_
                    refine ap_iconst (q := 377) hc dL_law_376 rfl ic_2 ?_
                    refine ap_iadd (q := 378) hc dL_law_377 rfl ?_
                    obtain ⟨g_63, h⟩ := h
                    refine ap_sld (q := 379) hL g_63 hc dL_law_378 rfl ?_
                    refine ap_if_eq (q := 382) (tgt := 386) hc dL_law_379 rfl (by decide) (fun z_64 => ?_) (fun z_64 => ?_)
                    · have h := Eq.mp (if_pos z_64) h
                      refine ap_iconst (q := 387) hc dL_law_386 rfl ic_0 ?_
                      refine ap_callV (q := 390) (As := [.int (xs (x3 + 1).toNatClampNeg), .int 0]) hc (ok_X8_away hg (rfl : ap_kd 0 = 8) h) ml_R_law_41 lk_X8_away lv_X8_away (rfl : ap_kd 0 = 8) rfl (ap_RmM hL (by decide)) rfl rfl (Nat.le_of_ble_eq_true rfl) dL_law_387 rfl (ap_ki (fun r_65 M_66 h => ?_))
                      refine ap_aload_n (q := 391) hc dL_law_390 rfl rfl 2 rfl ?_
                      refine ap_aload_n (q := 392) hc dL_law_391 rfl rfl 0 rfl ?_
                      refine ap_iload_n (q := 393) hc dL_law_392 rfl rfl 3 rfl ?_
                      refine ap_iconst (q := 394) hc dL_law_393 rfl ic_1 ?_
                      refine ap_iadd (q := 395) hc dL_law_394 rfl ?_
                      obtain ⟨g_67, h⟩ := h
                      refine ap_sld (q := 396) hL g_67 hc dL_law_395 rfl ?_
                      refine ap_aload_n (q := 397) hc dL_law_396 rfl rfl 0 rfl ?_
                      refine ap_iload_n (q := 398) hc dL_law_397 rfl rfl 3 rfl ?_
                      refine ap_iconst (q := 399) hc dL_law_398 rfl ic_2 ?_
                      refine ap_iadd (q := 400) hc dL_law_399 rfl ?_
                      obtain ⟨g_68, h⟩ := h
                      refine ap_sld (q := 401) hL g_68 hc dL_law_400 rfl ?_
                      refine ap_if_eq (q := 404) (tgt := 408) hc dL_law_401 rfl (by decide) (fun z_69 => ?_) (fun z_69 => ?_)
                      · have h := Eq.mp (if_pos z_69) h
                        refine ap_iconst (q := 409) hc dL_law_408 rfl ic_0 ?_
                        refine ap_callV (q := 412) (As := [.int (xs (x3 + 1).toNatClampNeg), .int 0]) hc (ok_X9_away hg (rfl : ap_kd 98 = 9) h) ml_R_law_45 lk_X9_away lv_X9_away (rfl : ap_kd 98 = 9) rfl (ap_RmM hL (by decide)) rfl rfl (Nat.le_of_ble_eq_true rfl) dL_law_409 rfl (ap_ki (fun r_70 M_71 h => ?_))
                        refine ap_icmp_eq (q := 415) (tgt := 1097) hc dL_law_412 rfl (by decide) (fun z_72 => ?_) (fun z_72 => ?_)
                        · have h := Eq.mp (if_pos z_72) h
                          exact ap_sub [0, 1, 2, 3] rfl (bl_L_law_1097 hc hL ih h)
                        · have h := Eq.mp (if_neg z_72) h
                          refine ap_iconst (q := 416) hc dL_law_415 rfl ic_0 ?_
                          exact ap_lawret hc hL dL_law_416 h
                      · have h := Eq.mp (if_neg z_69) h
                        refine ap_iconst (q := 405) hc dL_law_404 rfl ic_1 ?_
                        refine ap_goto (q := 409) hc dL_law_405 (by decide) ?_
                        refine ap_callV (q := 412) (As := [.int (xs (x3 + 1).toNatClampNeg), .int 1]) hc (ok_X9_away hg (rfl : ap_kd 98 = 9) h) ml_R_law_45 lk_X9_away lv_X9_away (rfl : ap_kd 98 = 9) rfl (ap_RmM hL (by decide)) rfl rfl (Nat.le_of_ble_eq_true rfl) dL_law_409 rfl (ap_ki (fun r_73 M_74 h => ?_))
                        refine ap_icmp_eq (q := 415) (tgt := 1097) hc dL_law_412 rfl (by decide) (fun z_75 => ?_) (fun z_75 => ?_)
                        · have h := Eq.mp (if_pos z_75) h
                          exact ap_sub [0, 1, 2, 3] rfl (bl_L_law_1097 hc hL ih h)
                        · have h := Eq.mp (if_neg z_75) h
                          refine ap_iconst (q := 416) hc dL_law_415 rfl ic_0 ?_
                          exact ap_lawret hc hL dL_law_416 h
                    · have h := Eq.mp (if_neg z_64) h
                      refine ap_iconst (q := 383) hc dL_law_382 rfl ic_1 ?_
                      refine ap_goto (q := 387) hc dL_law_383 (by decide) ?_
                      refine ap_callV (q := 390) (As := [.int (xs (x3 + 1).toNatClampNeg), .int 1]) hc (ok_X8_away hg (rfl : ap_kd 0 = 8) h) ml_R_law_41 lk_X8_away lv_X8_away (rfl : ap_kd 0 = 8) rfl (ap_RmM hL (by decide)) rfl rfl (Nat.le_of_ble_eq_true rfl) dL_law_387 rfl (ap_ki (fun r_76 M_77 h => ?_))
                      refine ap_aload_n (q := 391) hc dL_law_390 rfl rfl 2 rfl ?_
                      refine ap_aload_n (q := 392) hc dL_law_391 rfl rfl 0 rfl ?_
                      refine ap_iload_n (q := 393) hc dL_law_392 rfl rfl 3 rfl ?_
                      refine ap_iconst (q := 394) hc dL_law_393 rfl ic_1 ?_
                      refine ap_iadd (q := 395) hc dL_law_394 rfl ?_
                      obtain ⟨g_78, h⟩ := h
                      refine ap_sld (q := 396) hL g_78 hc dL_law_395 rfl ?_
                      refine ap_aload_n (q := 397) hc dL_law_396 rfl rfl 0 rfl ?_
                      refine ap_iload_n (q := 398) hc dL_law_397 rfl rfl 3 rfl ?_
                      refine ap_iconst (q := 399) hc dL_law_398 rfl ic_2 ?_
                      refine ap_iadd (q := 400) hc dL_law_399 rfl ?_
                      obtain ⟨g_79, h⟩ := h
                      refine ap_sld (q := 401) hL g_79 hc dL_law_400 rfl ?_
                      refine ap_if_eq (q := 404) (tgt := 408) hc dL_law_401 rfl (by decide) (fun z_80 => ?_) (fun z_80 => ?_)
                      · have h := Eq.mp (if_pos z_80) h
                        refine ap_iconst (q := 409) hc dL_law_408 rfl ic_0 ?_
                        refine ap_callV (q := 412) (As := [.int (xs (x3 + 1).toNatClampNeg), .int 0]) hc (ok_X9_away hg (rfl : ap_kd 98 = 9) h) ml_R_law_45 lk_X9_away lv_X9_away (rfl : ap_kd 98 = 9) rfl (ap_RmM hL (by decide)) rfl rfl (Nat.le_of_ble_eq_true rfl) dL_law_409 rfl (ap_ki (fun r_81 M_82 h => ?_))
                        refine ap_icmp_eq (q := 415) (tgt := 1097) hc dL_law_412 rfl (by decide) (fun z_83 => ?_) (fun z_83 => ?_)
                        · have h := Eq.mp (if_pos z_83) h
                          exact ap_sub [0, 1, 2, 3] rfl (bl_L_law_1097 hc hL ih h)
                        · have h := Eq.mp (if_neg z_83) h
                          refine ap_iconst (q := 416) hc dL_law_415 rfl ic_0 ?_
                          exact ap_lawret hc hL dL_law_416 h
                      · have h := Eq.mp (if_neg z_80) h
                        refine ap_iconst (q := 405) hc dL_law_404 rfl ic_1 ?_
                        refine ap_goto (q := 409) hc dL_law_405 (by decide) ?_
                        refine ap_callV (q := 412) (As := [.int (xs (x3 + 1).toNatClampNeg), .int 1]) hc (ok_X9_away hg (rfl : ap_kd 98 = 9) h) ml_R_law_45 lk_X9_away lv_X9_away (rfl : ap_kd 98 = 9) rfl (ap_RmM hL (by decide)) rfl rfl (Nat.le_of_ble_eq_true rfl) dL_law_409 rfl (ap_ki (fun r_84 M_85 h => ?_))
                        refine ap_icmp_eq (q := 415) (tgt := 1097) hc dL_law_412 rfl (by decide) (fun z_86 => ?_) (fun z_86 => ?_)
                        · have h := Eq.mp (if_pos z_86) h
                          exact ap_sub [0, 1, 2, 3] rfl (bl_L_law_1097 hc hL ih h)
                        · have h := Eq.mp (if_neg z_86) h
                          refine ap_iconst (q := 416) hc dL_law_415 rfl ic_0 ?_
                          exact ap_lawret hc hL dL_law_416 h
                  · have h := Eq.mp (if_neg z_61) h
                    by_cases z_87 : ((xs x3.toNatClampNeg) &&& 63) = 7
                    · have h := Eq.mp (if_pos z_87) h
                      refine ap_tabIn (tgt := 417) (off := 385) (v := 7) hc dL_law_32 z_87 (by decide) (by decide) (by decide +kernel) (by decide) ?_
                      refine ap_aload_n (q := 418) hc dL_law_417 rfl rfl 1 rfl ?_
                      refine ap_aload_n (q := 419) hc dL_law_418 rfl rfl 0 rfl ?_
                      refine ap_iload_n (q := 420) hc dL_law_419 rfl rfl 3 rfl ?_
                      refine ap_iconst (q := 421) hc dL_law_420 rfl ic_1 ?_
                      refine ap_iadd (q := 422) hc dL_law_421 rfl ?_
                      obtain ⟨g_88, h⟩ := h
                      refine ap_sld (q := 423) hL g_88 hc dL_law_422 rfl ?_
                      refine ap_callV (q := 426) (As := [.int (xs (x3 + 1).toNatClampNeg)]) hc (ok_X8_lay hg (rfl : ap_kd 0 = 8) h) ml_R_law_46 lk_X8_lay lv_X8_lay (rfl : ap_kd 0 = 8) rfl (ap_RmM hL (by decide)) rfl rfl (Nat.le_of_ble_eq_true rfl) dL_law_423 rfl (ap_ki (fun r_89 M_90 h => ?_))
                      refine ap_aload_n (q := 427) hc dL_law_426 rfl rfl 2 rfl ?_
                      refine ap_aload_n (q := 428) hc dL_law_427 rfl rfl 0 rfl ?_
                      refine ap_iload_n (q := 429) hc dL_law_428 rfl rfl 3 rfl ?_
                      refine ap_iconst (q := 430) hc dL_law_429 rfl ic_1 ?_
                      refine ap_iadd (q := 431) hc dL_law_430 rfl ?_
                      obtain ⟨g_91, h⟩ := h
                      refine ap_sld (q := 432) hL g_91 hc dL_law_431 rfl ?_
                      refine ap_callV (q := 435) (As := [.int (xs (x3 + 1).toNatClampNeg)]) hc (ok_X9_lay hg (rfl : ap_kd 98 = 9) h) ml_R_law_49 lk_X9_lay lv_X9_lay (rfl : ap_kd 98 = 9) rfl (ap_RmM hL (by decide)) rfl rfl (Nat.le_of_ble_eq_true rfl) dL_law_432 rfl (ap_ki (fun r_92 M_93 h => ?_))
                      refine ap_icmp_eq (q := 438) (tgt := 1097) hc dL_law_435 rfl (by decide) (fun z_94 => ?_) (fun z_94 => ?_)
                      · have h := Eq.mp (if_pos z_94) h
                        exact ap_sub [0, 1, 2, 3] rfl (bl_L_law_1097 hc hL ih h)
                      · have h := Eq.mp (if_neg z_94) h
                        refine ap_iconst (q := 439) hc dL_law_438 rfl ic_0 ?_
                        exact ap_lawret hc hL dL_law_439 h
                    · have h := Eq.mp (if_neg z_87) h
                      by_cases z_95 : ((xs x3.toNatClampNeg) &&& 63) = 8
                      · have h := Eq.mp (if_pos z_95) h
                        refine ap_tabIn (tgt := 440) (off := 408) (v := 8) hc dL_law_32 z_95 (by decide) (by decide) (by decide +kernel) (by decide) ?_
                        refine ap_aload_n (q := 441) hc dL_law_440 rfl rfl 1 rfl ?_
                        refine ap_aload_n (q := 442) hc dL_law_441 rfl rfl 0 rfl ?_
                        refine ap_iload_n (q := 443) hc dL_law_442 rfl rfl 3 rfl ?_
                        refine ap_iconst (q := 444) hc dL_law_443 rfl ic_1 ?_
                        refine ap_iadd (q := 445) hc dL_law_444 rfl ?_
                        obtain ⟨g_96, h⟩ := h
                        refine ap_sld (q := 446) hL g_96 hc dL_law_445 rfl ?_
                        refine ap_callV (q := 449) (As := [.int (xs (x3 + 1).toNatClampNeg)]) hc (ok_X8_told hg (rfl : ap_kd 0 = 8) h) ml_R_law_50 lk_X8_told lv_X8_told (rfl : ap_kd 0 = 8) rfl (ap_RmM hL (by decide)) rfl rfl (Nat.le_of_ble_eq_true rfl) dL_law_446 rfl (ap_ki (fun r_97 M_98 h => ?_))
                        refine ap_aload_n (q := 450) hc dL_law_449 rfl rfl 2 rfl ?_
                        refine ap_aload_n (q := 451) hc dL_law_450 rfl rfl 0 rfl ?_
                        refine ap_iload_n (q := 452) hc dL_law_451 rfl rfl 3 rfl ?_
                        refine ap_iconst (q := 453) hc dL_law_452 rfl ic_1 ?_
                        refine ap_iadd (q := 454) hc dL_law_453 rfl ?_
                        obtain ⟨g_99, h⟩ := h
                        refine ap_sld (q := 455) hL g_99 hc dL_law_454 rfl ?_
                        refine ap_callV (q := 458) (As := [.int (xs (x3 + 1).toNatClampNeg)]) hc (ok_X9_told hg (rfl : ap_kd 98 = 9) h) ml_R_law_53 lk_X9_told lv_X9_told (rfl : ap_kd 98 = 9) rfl (ap_RmM hL (by decide)) rfl rfl (Nat.le_of_ble_eq_true rfl) dL_law_455 rfl (ap_ki (fun r_100 M_101 h => ?_))
                        refine ap_icmp_eq (q := 461) (tgt := 1097) hc dL_law_458 rfl (by decide) (fun z_102 => ?_) (fun z_102 => ?_)
                        · have h := Eq.mp (if_pos z_102) h
                          exact ap_sub [0, 1, 2, 3] rfl (bl_L_law_1097 hc hL ih h)
                        · have h := Eq.mp (if_neg z_102) h
                          refine ap_iconst (q := 462) hc dL_law_461 rfl ic_0 ?_
                          exact ap_lawret hc hL dL_law_462 h
                      · have h := Eq.mp (if_neg z_95) h
                        by_cases z_103 : ((xs x3.toNatClampNeg) &&& 63) = 9
                        · have h := Eq.mp (if_pos z_103) h
                          refine ap_tabIn (tgt := 463) (off := 431) (v := 9) hc dL_law_32 z_103 (by decide) (by decide) (by decide +kernel) (by decide) ?_
                          refine ap_aload_n (q := 464) hc dL_law_463 rfl rfl 1 rfl ?_
                          refine ap_aload_n (q := 465) hc dL_law_464 rfl rfl 0 rfl ?_
                          refine ap_iload_n (q := 466) hc dL_law_465 rfl rfl 3 rfl ?_
                          refine ap_iconst (q := 467) hc dL_law_466 rfl ic_1 ?_
                          refine ap_iadd (q := 468) hc dL_law_467 rfl ?_
                          obtain ⟨g_104, h⟩ := h
                          refine ap_sld (q := 469) hL g_104 hc dL_law_468 rfl ?_
                          refine ap_callV (q := 472) (As := [.int (xs (x3 + 1).toNatClampNeg)]) hc (ok_X8_pass hg (rfl : ap_kd 0 = 8) h) ml_R_law_54 lk_X8_pass lv_X8_pass (rfl : ap_kd 0 = 8) rfl (ap_RmM hL (by decide)) rfl rfl (Nat.le_of_ble_eq_true rfl) dL_law_469 rfl (ap_ki (fun r_105 M_106 h => ?_))
                          refine ap_aload_n (q := 473) hc dL_law_472 rfl rfl 2 rfl ?_
                          refine ap_aload_n (q := 474) hc dL_law_473 rfl rfl 0 rfl ?_
                          refine ap_iload_n (q := 475) hc dL_law_474 rfl rfl 3 rfl ?_
                          refine ap_iconst (q := 476) hc dL_law_475 rfl ic_1 ?_
                          refine ap_iadd (q := 477) hc dL_law_476 rfl ?_
                          obtain ⟨g_107, h⟩ := h
                          refine ap_sld (q := 478) hL g_107 hc dL_law_477 rfl ?_
                          refine ap_callV (q := 481) (As := [.int (xs (x3 + 1).toNatClampNeg)]) hc (ok_X9_pass hg (rfl : ap_kd 98 = 9) h) ml_R_law_57 lk_X9_pass lv_X9_pass (rfl : ap_kd 98 = 9) rfl (ap_RmM hL (by decide)) rfl rfl (Nat.le_of_ble_eq_true rfl) dL_law_478 rfl (ap_ki (fun r_108 M_109 h => ?_))
                          refine ap_icmp_eq (q := 484) (tgt := 1097) hc dL_law_481 rfl (by decide) (fun z_110 => ?_) (fun z_110 => ?_)
                          · have h := Eq.mp (if_pos z_110) h
                            exact ap_sub [0, 1, 2, 3] rfl (bl_L_law_1097 hc hL ih h)
                          · have h := Eq.mp (if_neg z_110) h
                            refine ap_iconst (q := 485) hc dL_law_484 rfl ic_0 ?_
                            exact ap_lawret hc hL dL_law_485 h
                        · have h := Eq.mp (if_neg z_103) h
                          by_cases z_111 : ((xs x3.toNatClampNeg) &&& 63) = 10
                          · have h := Eq.mp (if_pos z_111) h
                            refine ap_tabIn (tgt := 486) (off := 454) (v := 10) hc dL_law_32 z_111 (by decide) (by decide) (by decide +kernel) (by decide) ?_
                            refine ap_aload_n (q := 487) hc dL_law_486 rfl rfl 1 rfl ?_
                            refine ap_aload_n (q := 488) hc dL_law_487 rfl rfl 0 rfl ?_
                            refine ap_iload_n (q := 489) hc dL_law_488 rfl rfl 3 rfl ?_
                            refine ap_iconst (q := 490) hc dL_law_489 rfl ic_1 ?_
                            refine ap_iadd (q := 491) hc dL_law_490 rfl ?_
                            obtain ⟨g_112, h⟩ := h
                            refine ap_sld (q := 492) hL g_112 hc dL_law_491 rfl ?_
                            refine ap_aload_n (q := 493) hc dL_law_492 rfl rfl 0 rfl ?_
                            refine ap_iload_n (q := 494) hc dL_law_493 rfl rfl 3 rfl ?_
                            refine ap_iconst (q := 495) hc dL_law_494 rfl ic_2 ?_
                            refine ap_iadd (q := 496) hc dL_law_495 rfl ?_
                            obtain ⟨g_113, h⟩ := h
                            refine ap_sld (q := 497) hL g_113 hc dL_law_496 rfl ?_
                            refine ap_callV (q := 500) (As := [.int (xs (x3 + 1).toNatClampNeg), .int (xs (x3 + 2).toNatClampNeg)]) hc (ok_X8_on hg (rfl : ap_kd 0 = 8) h) ml_R_law_58 lk_X8_on lv_X8_on (rfl : ap_kd 0 = 8) rfl (ap_RmM hL (by decide)) rfl rfl (Nat.le_of_ble_eq_true rfl) dL_law_497 rfl (ap_ki (fun r_114 M_115 h => ?_))
                            refine ap_aload_n (q := 501) hc dL_law_500 rfl rfl 2 rfl ?_
                            refine ap_aload_n (q := 502) hc dL_law_501 rfl rfl 0 rfl ?_
                            refine ap_iload_n (q := 503) hc dL_law_502 rfl rfl 3 rfl ?_
                            refine ap_iconst (q := 504) hc dL_law_503 rfl ic_1 ?_
                            refine ap_iadd (q := 505) hc dL_law_504 rfl ?_
                            obtain ⟨g_116, h⟩ := h
                            refine ap_sld (q := 506) hL g_116 hc dL_law_505 rfl ?_
                            refine ap_aload_n (q := 507) hc dL_law_506 rfl rfl 0 rfl ?_
                            refine ap_iload_n (q := 508) hc dL_law_507 rfl rfl 3 rfl ?_
                            refine ap_iconst (q := 509) hc dL_law_508 rfl ic_2 ?_
                            refine ap_iadd (q := 510) hc dL_law_509 rfl ?_
                            obtain ⟨g_117, h⟩ := h
                            refine ap_sld (q := 511) hL g_117 hc dL_law_510 rfl ?_
                            refine ap_callV (q := 514) (As := [.int (xs (x3 + 1).toNatClampNeg), .int (xs (x3 + 2).toNatClampNeg)]) hc (ok_X9_on hg (rfl : ap_kd 98 = 9) h) ml_R_law_61 lk_X9_on lv_X9_on (rfl : ap_kd 98 = 9) rfl (ap_RmM hL (by decide)) rfl rfl (Nat.le_of_ble_eq_true rfl) dL_law_511 rfl (ap_ki (fun r_118 M_119 h => ?_))
                            refine ap_icmp_eq (q := 517) (tgt := 1097) hc dL_law_514 rfl (by decide) (fun z_120 => ?_) (fun z_120 => ?_)
                            · have h := Eq.mp (if_pos z_120) h
                              exact ap_sub [0, 1, 2, 3] rfl (bl_L_law_1097 hc hL ih h)
                            · have h := Eq.mp (if_neg z_120) h
                              refine ap_iconst (q := 518) hc dL_law_517 rfl ic_0 ?_
                              exact ap_lawret hc hL dL_law_518 h
                          · have h := Eq.mp (if_neg z_111) h
                            by_cases z_121 : ((xs x3.toNatClampNeg) &&& 63) = 11
                            · have h := Eq.mp (if_pos z_121) h
                              refine ap_tabIn (tgt := 519) (off := 487) (v := 11) hc dL_law_32 z_121 (by decide) (by decide) (by decide +kernel) (by decide) ?_
                              refine ap_aload_n (q := 520) hc dL_law_519 rfl rfl 1 rfl ?_
                              refine ap_aload_n (q := 521) hc dL_law_520 rfl rfl 0 rfl ?_
                              refine ap_iload_n (q := 522) hc dL_law_521 rfl rfl 3 rfl ?_
                              refine ap_iconst (q := 523) hc dL_law_522 rfl ic_1 ?_
                              refine ap_iadd (q := 524) hc dL_law_523 rfl ?_
                              obtain ⟨g_122, h⟩ := h
                              refine ap_sld (q := 525) hL g_122 hc dL_law_524 rfl ?_
                              refine ap_callV (q := 528) (As := [.int (xs (x3 + 1).toNatClampNeg)]) hc (ok_X8_finds hg (rfl : ap_kd 0 = 8) h) ml_R_law_62 lk_X8_finds lv_X8_finds (rfl : ap_kd 0 = 8) rfl (ap_RmM hL (by decide)) rfl rfl (Nat.le_of_ble_eq_true rfl) dL_law_525 rfl (ap_ki (fun r_123 M_124 h => ?_))
                              refine ap_aload_n (q := 529) hc dL_law_528 rfl rfl 2 rfl ?_
                              refine ap_aload_n (q := 530) hc dL_law_529 rfl rfl 0 rfl ?_
                              refine ap_iload_n (q := 531) hc dL_law_530 rfl rfl 3 rfl ?_
                              refine ap_iconst (q := 532) hc dL_law_531 rfl ic_1 ?_
                              refine ap_iadd (q := 533) hc dL_law_532 rfl ?_
                              obtain ⟨g_125, h⟩ := h
                              refine ap_sld (q := 534) hL g_125 hc dL_law_533 rfl ?_
                              refine ap_callV (q := 537) (As := [.int (xs (x3 + 1).toNatClampNeg)]) hc (ok_X9_finds hg (rfl : ap_kd 98 = 9) h) ml_R_law_65 lk_X9_finds lv_X9_finds (rfl : ap_kd 98 = 9) rfl (ap_RmM hL (by decide)) rfl rfl (Nat.le_of_ble_eq_true rfl) dL_law_534 rfl (ap_ki (fun r_126 M_127 h => ?_))
                              refine ap_icmp_eq (q := 540) (tgt := 1097) hc dL_law_537 rfl (by decide) (fun z_128 => ?_) (fun z_128 => ?_)
                              · have h := Eq.mp (if_pos z_128) h
                                exact ap_sub [0, 1, 2, 3] rfl (bl_L_law_1097 hc hL ih h)
                              · have h := Eq.mp (if_neg z_128) h
                                refine ap_iconst (q := 541) hc dL_law_540 rfl ic_0 ?_
                                exact ap_lawret hc hL dL_law_541 h
                            · have h := Eq.mp (if_neg z_121) h
                              by_cases z_129 : ((xs x3.toNatClampNeg) &&& 63) = 12
                              · have h := Eq.mp (if_pos z_129) h
                                refine ap_tabIn (tgt := 542) (off := 510) (v := 12) hc dL_law_32 z_129 (by decide) (by decide) (by decide +kernel) (by decide) ?_
                                refine ap_aload_n (q := 543) hc dL_law_542 rfl rfl 1 rfl ?_
                                refine ap_aload_n (q := 544) hc dL_law_543 rfl rfl 0 rfl ?_
                                refine ap_iload_n (q := 545) hc dL_law_544 rfl rfl 3 rfl ?_
                                refine ap_iconst (q := 546) hc dL_law_545 rfl ic_1 ?_
                                refine ap_iadd (q := 547) hc dL_law_546 rfl ?_
                                obtain ⟨g_130, h⟩ := h
                                refine ap_sld (q := 548) hL g_130 hc dL_law_547 rfl ?_
                                refine ap_aload_n (q := 549) hc dL_law_548 rfl rfl 0 rfl ?_
                                refine ap_iload_n (q := 550) hc dL_law_549 rfl rfl 3 rfl ?_
                                refine ap_iconst (q := 551) hc dL_law_550 rfl ic_2 ?_
                                refine ap_iadd (q := 552) hc dL_law_551 rfl ?_
                                obtain ⟨g_131, h⟩ := h
                                refine ap_sld (q := 553) hL g_131 hc dL_law_552 rfl ?_
                                refine ap_callV (q := 556) (As := [.int (xs (x3 + 1).toNatClampNeg), .int (xs (x3 + 2).toNatClampNeg)]) hc (ok_X8_soonest hg (rfl : ap_kd 0 = 8) h) ml_R_law_66 lk_X8_soonest lv_X8_soonest (rfl : ap_kd 0 = 8) rfl (ap_RmM hL (by decide)) rfl rfl (Nat.le_of_ble_eq_true rfl) dL_law_553 rfl (ap_ki (fun r_132 M_133 h => ?_))
                                refine ap_aload_n (q := 557) hc dL_law_556 rfl rfl 2 rfl ?_
                                refine ap_aload_n (q := 558) hc dL_law_557 rfl rfl 0 rfl ?_
                                refine ap_iload_n (q := 559) hc dL_law_558 rfl rfl 3 rfl ?_
                                refine ap_iconst (q := 560) hc dL_law_559 rfl ic_1 ?_
                                refine ap_iadd (q := 561) hc dL_law_560 rfl ?_
                                obtain ⟨g_134, h⟩ := h
                                refine ap_sld (q := 562) hL g_134 hc dL_law_561 rfl ?_
                                refine ap_aload_n (q := 563) hc dL_law_562 rfl rfl 0 rfl ?_
                                refine ap_iload_n (q := 564) hc dL_law_563 rfl rfl 3 rfl ?_
                                refine ap_iconst (q := 565) hc dL_law_564 rfl ic_2 ?_
                                refine ap_iadd (q := 566) hc dL_law_565 rfl ?_
                                obtain ⟨g_135, h⟩ := h
                                refine ap_sld (q := 567) hL g_135 hc dL_law_566 rfl ?_
                                refine ap_callV (q := 570) (As := [.int (xs (x3 + 1).toNatClampNeg), .int (xs (x3 + 2).toNatClampNeg)]) hc (ok_X9_soonest hg (rfl : ap_kd 98 = 9) h) ml_R_law_69 lk_X9_soonest lv_X9_soonest (rfl : ap_kd 98 = 9) rfl (ap_RmM hL (by decide)) rfl rfl (Nat.le_of_ble_eq_true rfl) dL_law_567 rfl (ap_ki (fun r_136 M_137 h => ?_))
                                refine ap_icmp_eq (q := 573) (tgt := 1097) hc dL_law_570 rfl (by decide) (fun z_138 => ?_) (fun z_138 => ?_)
                                · have h := Eq.mp (if_pos z_138) h
                                  exact ap_sub [0, 1, 2, 3] rfl (bl_L_law_1097 hc hL ih h)
                                · have h := Eq.mp (if_neg z_138) h
                                  refine ap_iconst (q := 574) hc dL_law_573 rfl ic_0 ?_
                                  exact ap_lawret hc hL dL_law_574 h
                              · have h := Eq.mp (if_neg z_129) h
                                by_cases z_139 : ((xs x3.toNatClampNeg) &&& 63) = 13
                                · have h := Eq.mp (if_pos z_139) h
                                  refine ap_tabIn (tgt := 575) (off := 543) (v := 13) hc dL_law_32 z_139 (by decide) (by decide) (by decide +kernel) (by decide) ?_
                                  refine ap_aload_n (q := 576) hc dL_law_575 rfl rfl 1 rfl ?_
                                  refine ap_aload_n (q := 577) hc dL_law_576 rfl rfl 0 rfl ?_
                                  refine ap_iload_n (q := 578) hc dL_law_577 rfl rfl 3 rfl ?_
                                  refine ap_iconst (q := 579) hc dL_law_578 rfl ic_1 ?_
                                  refine ap_iadd (q := 580) hc dL_law_579 rfl ?_
                                  obtain ⟨g_140, h⟩ := h
                                  refine ap_sld (q := 581) hL g_140 hc dL_law_580 rfl ?_
                                  refine ap_callV (q := 584) (As := [.int (xs (x3 + 1).toNatClampNeg)]) hc (ok_X8_call hg (rfl : ap_kd 0 = 8) h) ml_R_law_70 lk_X8_call lv_X8_call (rfl : ap_kd 0 = 8) rfl (ap_RmM hL (by decide)) rfl rfl (Nat.le_of_ble_eq_true rfl) dL_law_581 rfl (ap_ki (fun r_141 M_142 h => ?_))
                                  refine ap_aload_n (q := 585) hc dL_law_584 rfl rfl 2 rfl ?_
                                  refine ap_aload_n (q := 586) hc dL_law_585 rfl rfl 0 rfl ?_
                                  refine ap_iload_n (q := 587) hc dL_law_586 rfl rfl 3 rfl ?_
                                  refine ap_iconst (q := 588) hc dL_law_587 rfl ic_1 ?_
                                  refine ap_iadd (q := 589) hc dL_law_588 rfl ?_
                                  obtain ⟨g_143, h⟩ := h
                                  refine ap_sld (q := 590) hL g_143 hc dL_law_589 rfl ?_
                                  refine ap_callV (q := 593) (As := [.int (xs (x3 + 1).toNatClampNeg)]) hc (ok_X9_call hg (rfl : ap_kd 98 = 9) h) ml_R_law_73 lk_X9_call lv_X9_call (rfl : ap_kd 98 = 9) rfl (ap_RmM hL (by decide)) rfl rfl (Nat.le_of_ble_eq_true rfl) dL_law_590 rfl (ap_ki (fun r_144 M_145 h => ?_))
                                  refine ap_icmp_eq (q := 596) (tgt := 1097) hc dL_law_593 rfl (by decide) (fun z_146 => ?_) (fun z_146 => ?_)
                                  · have h := Eq.mp (if_pos z_146) h
                                    exact ap_sub [0, 1, 2, 3] rfl (bl_L_law_1097 hc hL ih h)
                                  · have h := Eq.mp (if_neg z_146) h
                                    refine ap_iconst (q := 597) hc dL_law_596 rfl ic_0 ?_
                                    exact ap_lawret hc hL dL_law_597 h
                                · have h := Eq.mp (if_neg z_139) h
                                  by_cases z_147 : ((xs x3.toNatClampNeg) &&& 63) = 14
                                  · have h := Eq.mp (if_pos z_147) h
                                    refine ap_tabIn (tgt := 598) (off := 566) (v := 14) hc dL_law_32 z_147 (by decide) (by decide) (by decide +kernel) (by decide) ?_
                                    refine ap_aload_n (q := 599) hc dL_law_598 rfl rfl 1 rfl ?_
                                    refine ap_aload_n (q := 600) hc dL_law_599 rfl rfl 0 rfl ?_
                                    refine ap_iload_n (q := 601) hc dL_law_600 rfl rfl 3 rfl ?_
                                    refine ap_iconst (q := 602) hc dL_law_601 rfl ic_1 ?_
                                    refine ap_iadd (q := 603) hc dL_law_602 rfl ?_
                                    obtain ⟨g_148, h⟩ := h
                                    refine ap_sld (q := 604) hL g_148 hc dL_law_603 rfl ?_
                                    refine ap_callV (q := 607) (As := [.int (xs (x3 + 1).toNatClampNeg)]) hc (ok_X8_kept hg (rfl : ap_kd 0 = 8) h) ml_R_law_74 lk_X8_kept lv_X8_kept (rfl : ap_kd 0 = 8) rfl (ap_RmM hL (by decide)) rfl rfl (Nat.le_of_ble_eq_true rfl) dL_law_604 rfl (ap_ki (fun r_149 M_150 h => ?_))
                                    refine ap_aload_n (q := 608) hc dL_law_607 rfl rfl 2 rfl ?_
                                    refine ap_aload_n (q := 609) hc dL_law_608 rfl rfl 0 rfl ?_
                                    refine ap_iload_n (q := 610) hc dL_law_609 rfl rfl 3 rfl ?_
                                    refine ap_iconst (q := 611) hc dL_law_610 rfl ic_1 ?_
                                    refine ap_iadd (q := 612) hc dL_law_611 rfl ?_
                                    obtain ⟨g_151, h⟩ := h
                                    refine ap_sld (q := 613) hL g_151 hc dL_law_612 rfl ?_
                                    refine ap_callV (q := 616) (As := [.int (xs (x3 + 1).toNatClampNeg)]) hc (ok_X9_kept hg (rfl : ap_kd 98 = 9) h) ml_R_law_77 lk_X9_kept lv_X9_kept (rfl : ap_kd 98 = 9) rfl (ap_RmM hL (by decide)) rfl rfl (Nat.le_of_ble_eq_true rfl) dL_law_613 rfl (ap_ki (fun r_152 M_153 h => ?_))
                                    refine ap_icmp_eq (q := 619) (tgt := 1097) hc dL_law_616 rfl (by decide) (fun z_154 => ?_) (fun z_154 => ?_)
                                    · have h := Eq.mp (if_pos z_154) h
                                      exact ap_sub [0, 1, 2, 3] rfl (bl_L_law_1097 hc hL ih h)
                                    · have h := Eq.mp (if_neg z_154) h
                                      refine ap_iconst (q := 620) hc dL_law_619 rfl ic_0 ?_
                                      exact ap_lawret hc hL dL_law_620 h
                                  · have h := Eq.mp (if_neg z_147) h
                                    by_cases z_155 : ((xs x3.toNatClampNeg) &&& 63) = 15
                                    · have h := Eq.mp (if_pos z_155) h
                                      refine ap_tabIn (tgt := 621) (off := 589) (v := 15) hc dL_law_32 z_155 (by decide) (by decide) (by decide +kernel) (by decide) ?_
                                      refine ap_aload_n (q := 622) hc dL_law_621 rfl rfl 1 rfl ?_
                                      refine ap_aload_n (q := 623) hc dL_law_622 rfl rfl 0 rfl ?_
                                      refine ap_iload_n (q := 624) hc dL_law_623 rfl rfl 3 rfl ?_
                                      refine ap_iconst (q := 625) hc dL_law_624 rfl ic_1 ?_
                                      refine ap_iadd (q := 626) hc dL_law_625 rfl ?_
                                      obtain ⟨g_156, h⟩ := h
                                      refine ap_sld (q := 627) hL g_156 hc dL_law_626 rfl ?_
                                      refine ap_callV (q := 630) (As := [.int (xs (x3 + 1).toNatClampNeg)]) hc (ok_X8_walk hg (rfl : ap_kd 0 = 8) h) ml_R_law_78 lk_X8_walk lv_X8_walk (rfl : ap_kd 0 = 8) rfl (ap_RmM hL (by decide)) rfl rfl (Nat.le_of_ble_eq_true rfl) dL_law_627 rfl (ap_ki (fun r_157 M_158 h => ?_))
                                      refine ap_aload_n (q := 631) hc dL_law_630 rfl rfl 2 rfl ?_
                                      refine ap_aload_n (q := 632) hc dL_law_631 rfl rfl 0 rfl ?_
                                      refine ap_iload_n (q := 633) hc dL_law_632 rfl rfl 3 rfl ?_
                                      refine ap_iconst (q := 634) hc dL_law_633 rfl ic_1 ?_
                                      refine ap_iadd (q := 635) hc dL_law_634 rfl ?_
                                      obtain ⟨g_159, h⟩ := h
                                      refine ap_sld (q := 636) hL g_159 hc dL_law_635 rfl ?_
                                      refine ap_callV (q := 639) (As := [.int (xs (x3 + 1).toNatClampNeg)]) hc (ok_X9_walk hg (rfl : ap_kd 98 = 9) h) ml_R_law_81 lk_X9_walk lv_X9_walk (rfl : ap_kd 98 = 9) rfl (ap_RmM hL (by decide)) rfl rfl (Nat.le_of_ble_eq_true rfl) dL_law_636 rfl (ap_ki (fun r_160 M_161 h => ?_))
                                      refine ap_icmp_eq (q := 642) (tgt := 1097) hc dL_law_639 rfl (by decide) (fun z_162 => ?_) (fun z_162 => ?_)
                                      · have h := Eq.mp (if_pos z_162) h
                                        exact ap_sub [0, 1, 2, 3] rfl (bl_L_law_1097 hc hL ih h)
                                      · have h := Eq.mp (if_neg z_162) h
                                        refine ap_iconst (q := 643) hc dL_law_642 rfl ic_0 ?_
                                        exact ap_lawret hc hL dL_law_643 h
                                    · have h := Eq.mp (if_neg z_155) h
                                      by_cases z_163 : ((xs x3.toNatClampNeg) &&& 63) = 16
                                      · have h := Eq.mp (if_pos z_163) h
                                        refine ap_tabIn (tgt := 644) (off := 612) (v := 16) hc dL_law_32 z_163 (by decide) (by decide) (by decide +kernel) (by decide) ?_
                                        refine ap_aload_n (q := 645) hc dL_law_644 rfl rfl 1 rfl ?_
                                        refine ap_aload_n (q := 646) hc dL_law_645 rfl rfl 0 rfl ?_
                                        refine ap_iload_n (q := 647) hc dL_law_646 rfl rfl 3 rfl ?_
                                        refine ap_iconst (q := 648) hc dL_law_647 rfl ic_1 ?_
                                        refine ap_iadd (q := 649) hc dL_law_648 rfl ?_
                                        obtain ⟨g_164, h⟩ := h
                                        refine ap_sld (q := 650) hL g_164 hc dL_law_649 rfl ?_
                                        refine ap_callV (q := 653) (As := [.int (xs (x3 + 1).toNatClampNeg)]) hc (ok_X8_met hg (rfl : ap_kd 0 = 8) h) ml_R_law_82 lk_X8_met lv_X8_met (rfl : ap_kd 0 = 8) rfl (ap_RmM hL (by decide)) rfl rfl (Nat.le_of_ble_eq_true rfl) dL_law_650 rfl (ap_ki (fun r_165 M_166 h => ?_))
                                        refine ap_aload_n (q := 654) hc dL_law_653 rfl rfl 2 rfl ?_
                                        refine ap_aload_n (q := 655) hc dL_law_654 rfl rfl 0 rfl ?_
                                        refine ap_iload_n (q := 656) hc dL_law_655 rfl rfl 3 rfl ?_
                                        refine ap_iconst (q := 657) hc dL_law_656 rfl ic_1 ?_
                                        refine ap_iadd (q := 658) hc dL_law_657 rfl ?_
                                        obtain ⟨g_167, h⟩ := h
                                        refine ap_sld (q := 659) hL g_167 hc dL_law_658 rfl ?_
                                        refine ap_callV (q := 662) (As := [.int (xs (x3 + 1).toNatClampNeg)]) hc (ok_X9_met hg (rfl : ap_kd 98 = 9) h) ml_R_law_85 lk_X9_met lv_X9_met (rfl : ap_kd 98 = 9) rfl (ap_RmM hL (by decide)) rfl rfl (Nat.le_of_ble_eq_true rfl) dL_law_659 rfl (ap_ki (fun r_168 M_169 h => ?_))
                                        refine ap_icmp_eq (q := 665) (tgt := 1097) hc dL_law_662 rfl (by decide) (fun z_170 => ?_) (fun z_170 => ?_)
                                        · have h := Eq.mp (if_pos z_170) h
                                          exact ap_sub [0, 1, 2, 3] rfl (bl_L_law_1097 hc hL ih h)
                                        · have h := Eq.mp (if_neg z_170) h
                                          refine ap_iconst (q := 666) hc dL_law_665 rfl ic_0 ?_
                                          exact ap_lawret hc hL dL_law_666 h
                                      · have h := Eq.mp (if_neg z_163) h
                                        by_cases z_171 : ((xs x3.toNatClampNeg) &&& 63) = 17
                                        · have h := Eq.mp (if_pos z_171) h
                                          refine ap_tabIn (tgt := 667) (off := 635) (v := 17) hc dL_law_32 z_171 (by decide) (by decide) (by decide +kernel) (by decide) ?_
                                          refine ap_aload_n (q := 668) hc dL_law_667 rfl rfl 1 rfl ?_
                                          refine ap_aload_n (q := 669) hc dL_law_668 rfl rfl 0 rfl ?_
                                          refine ap_iload_n (q := 670) hc dL_law_669 rfl rfl 3 rfl ?_
                                          refine ap_iconst (q := 671) hc dL_law_670 rfl ic_1 ?_
                                          refine ap_iadd (q := 672) hc dL_law_671 rfl ?_
                                          obtain ⟨g_172, h⟩ := h
                                          refine ap_sld (q := 673) hL g_172 hc dL_law_672 rfl ?_
                                          refine ap_aload_n (q := 674) hc dL_law_673 rfl rfl 0 rfl ?_
                                          refine ap_iload_n (q := 675) hc dL_law_674 rfl rfl 3 rfl ?_
                                          refine ap_iconst (q := 676) hc dL_law_675 rfl ic_2 ?_
                                          refine ap_iadd (q := 677) hc dL_law_676 rfl ?_
                                          obtain ⟨g_173, h⟩ := h
                                          refine ap_sld (q := 678) hL g_173 hc dL_law_677 rfl ?_
                                          refine ap_callV (q := 681) (As := [.int (xs (x3 + 1).toNatClampNeg), .int (xs (x3 + 2).toNatClampNeg)]) hc (ok_X8_see hg (rfl : ap_kd 0 = 8) h) ml_R_law_86 lk_X8_see lv_X8_see (rfl : ap_kd 0 = 8) rfl (ap_RmM hL (by decide)) rfl rfl (Nat.le_of_ble_eq_true rfl) dL_law_678 rfl (ap_ki (fun r_174 M_175 h => ?_))
                                          refine ap_aload_n (q := 682) hc dL_law_681 rfl rfl 2 rfl ?_
                                          refine ap_aload_n (q := 683) hc dL_law_682 rfl rfl 0 rfl ?_
                                          refine ap_iload_n (q := 684) hc dL_law_683 rfl rfl 3 rfl ?_
                                          refine ap_iconst (q := 685) hc dL_law_684 rfl ic_1 ?_
                                          refine ap_iadd (q := 686) hc dL_law_685 rfl ?_
                                          obtain ⟨g_176, h⟩ := h
                                          refine ap_sld (q := 687) hL g_176 hc dL_law_686 rfl ?_
                                          refine ap_aload_n (q := 688) hc dL_law_687 rfl rfl 0 rfl ?_
                                          refine ap_iload_n (q := 689) hc dL_law_688 rfl rfl 3 rfl ?_
                                          refine ap_iconst (q := 690) hc dL_law_689 rfl ic_2 ?_
                                          refine ap_iadd (q := 691) hc dL_law_690 rfl ?_
                                          obtain ⟨g_177, h⟩ := h
                                          refine ap_sld (q := 692) hL g_177 hc dL_law_691 rfl ?_
                                          refine ap_callV (q := 695) (As := [.int (xs (x3 + 1).toNatClampNeg), .int (xs (x3 + 2).toNatClampNeg)]) hc (ok_X9_see hg (rfl : ap_kd 98 = 9) h) ml_R_law_89 lk_X9_see lv_X9_see (rfl : ap_kd 98 = 9) rfl (ap_RmM hL (by decide)) rfl rfl (Nat.le_of_ble_eq_true rfl) dL_law_692 rfl (ap_ki (fun r_178 M_179 h => ?_))
                                          refine ap_icmp_eq (q := 698) (tgt := 1097) hc dL_law_695 rfl (by decide) (fun z_180 => ?_) (fun z_180 => ?_)
                                          · have h := Eq.mp (if_pos z_180) h
                                            exact ap_sub [0, 1, 2, 3] rfl (bl_L_law_1097 hc hL ih h)
                                          · have h := Eq.mp (if_neg z_180) h
                                            refine ap_iconst (q := 699) hc dL_law_698 rfl ic_0 ?_
                                            exact ap_lawret hc hL dL_law_699 h
                                        · have h := Eq.mp (if_neg z_171) h
                                          by_cases z_181 : ((xs x3.toNatClampNeg) &&& 63) = 18
                                          · have h := Eq.mp (if_pos z_181) h
                                            refine ap_tabIn (tgt := 700) (off := 668) (v := 18) hc dL_law_32 z_181 (by decide) (by decide) (by decide +kernel) (by decide) ?_
                                            refine ap_aload_n (q := 701) hc dL_law_700 rfl rfl 1 rfl ?_
                                            refine ap_aload_n (q := 702) hc dL_law_701 rfl rfl 0 rfl ?_
                                            refine ap_iload_n (q := 703) hc dL_law_702 rfl rfl 3 rfl ?_
                                            refine ap_iconst (q := 704) hc dL_law_703 rfl ic_1 ?_
                                            refine ap_iadd (q := 705) hc dL_law_704 rfl ?_
                                            obtain ⟨g_182, h⟩ := h
                                            refine ap_sld (q := 706) hL g_182 hc dL_law_705 rfl ?_
                                            refine ap_callV (q := 709) (As := [.int (xs (x3 + 1).toNatClampNeg)]) hc (ok_X8_doors hg (rfl : ap_kd 0 = 8) h) ml_R_law_90 lk_X8_doors lv_X8_doors (rfl : ap_kd 0 = 8) rfl (ap_RmM hL (by decide)) rfl rfl (Nat.le_of_ble_eq_true rfl) dL_law_706 rfl (ap_ki (fun r_183 M_184 h => ?_))
                                            refine ap_aload_n (q := 710) hc dL_law_709 rfl rfl 2 rfl ?_
                                            refine ap_aload_n (q := 711) hc dL_law_710 rfl rfl 0 rfl ?_
                                            refine ap_iload_n (q := 712) hc dL_law_711 rfl rfl 3 rfl ?_
                                            refine ap_iconst (q := 713) hc dL_law_712 rfl ic_1 ?_
                                            refine ap_iadd (q := 714) hc dL_law_713 rfl ?_
                                            obtain ⟨g_185, h⟩ := h
                                            refine ap_sld (q := 715) hL g_185 hc dL_law_714 rfl ?_
                                            refine ap_callV (q := 718) (As := [.int (xs (x3 + 1).toNatClampNeg)]) hc (ok_X9_doors hg (rfl : ap_kd 98 = 9) h) ml_R_law_93 lk_X9_doors lv_X9_doors (rfl : ap_kd 98 = 9) rfl (ap_RmM hL (by decide)) rfl rfl (Nat.le_of_ble_eq_true rfl) dL_law_715 rfl (ap_ki (fun r_186 M_187 h => ?_))
                                            refine ap_icmp_eq (q := 721) (tgt := 1097) hc dL_law_718 rfl (by decide) (fun z_188 => ?_) (fun z_188 => ?_)
                                            · have h := Eq.mp (if_pos z_188) h
                                              exact ap_sub [0, 1, 2, 3] rfl (bl_L_law_1097 hc hL ih h)
                                            · have h := Eq.mp (if_neg z_188) h
                                              refine ap_iconst (q := 722) hc dL_law_721 rfl ic_0 ?_
                                              exact ap_lawret hc hL dL_law_722 h
                                          · have h := Eq.mp (if_neg z_181) h
                                            by_cases z_189 : ((xs x3.toNatClampNeg) &&& 63) = 19
                                            · have h := Eq.mp (if_pos z_189) h
                                              refine ap_tabIn (tgt := 723) (off := 691) (v := 19) hc dL_law_32 z_189 (by decide) (by decide) (by decide +kernel) (by decide) ?_
                                              refine ap_aload_n (q := 724) hc dL_law_723 rfl rfl 1 rfl ?_
                                              refine ap_aload_n (q := 725) hc dL_law_724 rfl rfl 0 rfl ?_
                                              refine ap_iload_n (q := 726) hc dL_law_725 rfl rfl 3 rfl ?_
                                              refine ap_iconst (q := 727) hc dL_law_726 rfl ic_1 ?_
                                              refine ap_iadd (q := 728) hc dL_law_727 rfl ?_
                                              obtain ⟨g_190, h⟩ := h
                                              refine ap_sld (q := 729) hL g_190 hc dL_law_728 rfl ?_
                                              refine ap_aload_n (q := 730) hc dL_law_729 rfl rfl 0 rfl ?_
                                              refine ap_iload_n (q := 731) hc dL_law_730 rfl rfl 3 rfl ?_
                                              refine ap_iconst (q := 732) hc dL_law_731 rfl ic_2 ?_
                                              refine ap_iadd (q := 733) hc dL_law_732 rfl ?_
                                              obtain ⟨g_191, h⟩ := h
                                              refine ap_sld (q := 734) hL g_191 hc dL_law_733 rfl ?_
                                              refine ap_callV (q := 737) (As := [.int (xs (x3 + 1).toNatClampNeg), .int (xs (x3 + 2).toNatClampNeg)]) hc (ok_X8_firm hg (rfl : ap_kd 0 = 8) h) ml_R_law_94 lk_X8_firm lv_X8_firm (rfl : ap_kd 0 = 8) rfl (ap_RmM hL (by decide)) rfl rfl (Nat.le_of_ble_eq_true rfl) dL_law_734 rfl (ap_ki (fun r_192 M_193 h => ?_))
                                              refine ap_aload_n (q := 738) hc dL_law_737 rfl rfl 2 rfl ?_
                                              refine ap_aload_n (q := 739) hc dL_law_738 rfl rfl 0 rfl ?_
                                              refine ap_iload_n (q := 740) hc dL_law_739 rfl rfl 3 rfl ?_
                                              refine ap_iconst (q := 741) hc dL_law_740 rfl ic_1 ?_
                                              refine ap_iadd (q := 742) hc dL_law_741 rfl ?_
                                              obtain ⟨g_194, h⟩ := h
                                              refine ap_sld (q := 743) hL g_194 hc dL_law_742 rfl ?_
                                              refine ap_aload_n (q := 744) hc dL_law_743 rfl rfl 0 rfl ?_
                                              refine ap_iload_n (q := 745) hc dL_law_744 rfl rfl 3 rfl ?_
                                              refine ap_iconst (q := 746) hc dL_law_745 rfl ic_2 ?_
                                              refine ap_iadd (q := 747) hc dL_law_746 rfl ?_
                                              obtain ⟨g_195, h⟩ := h
                                              refine ap_sld (q := 748) hL g_195 hc dL_law_747 rfl ?_
                                              refine ap_callV (q := 751) (As := [.int (xs (x3 + 1).toNatClampNeg), .int (xs (x3 + 2).toNatClampNeg)]) hc (ok_X9_firm hg (rfl : ap_kd 98 = 9) h) ml_R_law_97 lk_X9_firm lv_X9_firm (rfl : ap_kd 98 = 9) rfl (ap_RmM hL (by decide)) rfl rfl (Nat.le_of_ble_eq_true rfl) dL_law_748 rfl (ap_ki (fun r_196 M_197 h => ?_))
                                              refine ap_icmp_eq (q := 754) (tgt := 1097) hc dL_law_751 rfl (by decide) (fun z_198 => ?_) (fun z_198 => ?_)
                                              · have h := Eq.mp (if_pos z_198) h
                                                exact ap_sub [0, 1, 2, 3] rfl (bl_L_law_1097 hc hL ih h)
                                              · have h := Eq.mp (if_neg z_198) h
                                                refine ap_iconst (q := 755) hc dL_law_754 rfl ic_0 ?_
                                                exact ap_lawret hc hL dL_law_755 h
                                            · have h := Eq.mp (if_neg z_189) h
                                              by_cases z_199 : ((xs x3.toNatClampNeg) &&& 63) = 20
                                              · have h := Eq.mp (if_pos z_199) h
                                                refine ap_tabIn (tgt := 756) (off := 724) (v := 20) hc dL_law_32 z_199 (by decide) (by decide) (by decide +kernel) (by decide) ?_
                                                refine ap_aload_n (q := 757) hc dL_law_756 rfl rfl 1 rfl ?_
                                                refine ap_callV (q := 760) (As := []) hc (ok_X8_sought hg (rfl : ap_kd 0 = 8) h) ml_R_law_98 lk_X8_sought lv_X8_sought (rfl : ap_kd 0 = 8) rfl (ap_RmM hL (by decide)) rfl rfl (Nat.le_of_ble_eq_true rfl) dL_law_757 rfl (ap_ki (fun r_200 M_201 h => ?_))
                                                refine ap_aload_n (q := 761) hc dL_law_760 rfl rfl 2 rfl ?_
                                                refine ap_callV (q := 764) (As := []) hc (ok_X9_sought hg (rfl : ap_kd 98 = 9) h) ml_R_law_101 lk_X9_sought lv_X9_sought (rfl : ap_kd 98 = 9) rfl (ap_RmM hL (by decide)) rfl rfl (Nat.le_of_ble_eq_true rfl) dL_law_761 rfl (ap_ki (fun r_202 M_203 h => ?_))
                                                refine ap_icmp_eq (q := 767) (tgt := 1097) hc dL_law_764 rfl (by decide) (fun z_204 => ?_) (fun z_204 => ?_)
                                                · have h := Eq.mp (if_pos z_204) h
                                                  exact ap_sub [0, 1, 2, 3] rfl (bl_L_law_1097 hc hL ih h)
                                                · have h := Eq.mp (if_neg z_204) h
                                                  refine ap_iconst (q := 768) hc dL_law_767 rfl ic_0 ?_
                                                  exact ap_lawret hc hL dL_law_768 h
                                              · have h := Eq.mp (if_neg z_199) h
                                                by_cases z_205 : ((xs x3.toNatClampNeg) &&& 63) = 21
                                                · have h := Eq.mp (if_pos z_205) h
                                                  refine ap_tabIn (tgt := 769) (off := 737) (v := 21) hc dL_law_32 z_205 (by decide) (by decide) (by decide +kernel) (by decide) ?_
                                                  refine ap_aload_n (q := 770) hc dL_law_769 rfl rfl 1 rfl ?_
                                                  refine ap_aload_n (q := 771) hc dL_law_770 rfl rfl 0 rfl ?_
                                                  refine ap_iload_n (q := 772) hc dL_law_771 rfl rfl 3 rfl ?_
                                                  refine ap_iconst (q := 773) hc dL_law_772 rfl ic_1 ?_
                                                  refine ap_iadd (q := 774) hc dL_law_773 rfl ?_
                                                  obtain ⟨g_206, h⟩ := h
                                                  refine ap_sld (q := 775) hL g_206 hc dL_law_774 rfl ?_
                                                  refine ap_aload_n (q := 776) hc dL_law_775 rfl rfl 0 rfl ?_
                                                  refine ap_iload_n (q := 777) hc dL_law_776 rfl rfl 3 rfl ?_
                                                  refine ap_iconst (q := 778) hc dL_law_777 rfl ic_2 ?_
                                                  refine ap_iadd (q := 779) hc dL_law_778 rfl ?_
                                                  obtain ⟨g_207, h⟩ := h
                                                  refine ap_sld (q := 780) hL g_207 hc dL_law_779 rfl ?_
                                                  refine ap_aload_n (q := 781) hc dL_law_780 rfl rfl 0 rfl ?_
                                                  refine ap_iload_n (q := 782) hc dL_law_781 rfl rfl 3 rfl ?_
                                                  refine ap_iconst (q := 783) hc dL_law_782 rfl ic_3 ?_
                                                  refine ap_iadd (q := 784) hc dL_law_783 rfl ?_
                                                  obtain ⟨g_208, h⟩ := h
                                                  refine ap_sld (q := 785) hL g_208 hc dL_law_784 rfl ?_
                                                  refine ap_callV (q := 788) (As := [.int (xs (x3 + 1).toNatClampNeg), .int (xs (x3 + 2).toNatClampNeg), .int (xs (x3 + 3).toNatClampNeg)]) hc (ok_X8_odds hg (rfl : ap_kd 0 = 8) h) ml_R_law_102 lk_X8_odds lv_X8_odds (rfl : ap_kd 0 = 8) rfl (ap_RmM hL (by decide)) rfl rfl (Nat.le_of_ble_eq_true rfl) dL_law_785 rfl (ap_kl (fun r_209 M_210 h => ?_))
                                                  refine ap_aload_n (q := 789) hc dL_law_788 rfl rfl 2 rfl ?_
                                                  refine ap_aload_n (q := 790) hc dL_law_789 rfl rfl 0 rfl ?_
                                                  refine ap_iload_n (q := 791) hc dL_law_790 rfl rfl 3 rfl ?_
                                                  refine ap_iconst (q := 792) hc dL_law_791 rfl ic_1 ?_
                                                  refine ap_iadd (q := 793) hc dL_law_792 rfl ?_
                                                  obtain ⟨g_211, h⟩ := h
                                                  refine ap_sld (q := 794) hL g_211 hc dL_law_793 rfl ?_
                                                  refine ap_aload_n (q := 795) hc dL_law_794 rfl rfl 0 rfl ?_
                                                  refine ap_iload_n (q := 796) hc dL_law_795 rfl rfl 3 rfl ?_
                                                  refine ap_iconst (q := 797) hc dL_law_796 rfl ic_2 ?_
                                                  refine ap_iadd (q := 798) hc dL_law_797 rfl ?_
                                                  obtain ⟨g_212, h⟩ := h
                                                  refine ap_sld (q := 799) hL g_212 hc dL_law_798 rfl ?_
                                                  refine ap_aload_n (q := 800) hc dL_law_799 rfl rfl 0 rfl ?_
                                                  refine ap_iload_n (q := 801) hc dL_law_800 rfl rfl 3 rfl ?_
                                                  refine ap_iconst (q := 802) hc dL_law_801 rfl ic_3 ?_
                                                  refine ap_iadd (q := 803) hc dL_law_802 rfl ?_
                                                  obtain ⟨g_213, h⟩ := h
                                                  refine ap_sld (q := 804) hL g_213 hc dL_law_803 rfl ?_
                                                  refine ap_callV (q := 807) (As := [.int (xs (x3 + 1).toNatClampNeg), .int (xs (x3 + 2).toNatClampNeg), .int (xs (x3 + 3).toNatClampNeg)]) hc (ok_X9_odds hg (rfl : ap_kd 98 = 9) h) ml_R_law_106 lk_X9_odds lv_X9_odds (rfl : ap_kd 98 = 9) rfl (ap_RmM hL (by decide)) rfl rfl (Nat.le_of_ble_eq_true rfl) dL_law_804 rfl (ap_kl (fun r_214 M_215 h => ?_))
                                                  refine ap_lcmp (q := 808) hc dL_law_807 rfl ?_
                                                  refine ap_if_eq (q := 811) (tgt := 1097) hc dL_law_808 rfl (by decide) (fun z_216 => ?_) (fun z_216 => ?_)
                                                  · have h := Eq.mp (if_pos z_216) h
                                                    exact ap_sub [0, 1, 2, 3] rfl (bl_L_law_1097 hc hL ih h)
                                                  · have h := Eq.mp (if_neg z_216) h
                                                    refine ap_iconst (q := 812) hc dL_law_811 rfl ic_0 ?_
                                                    exact ap_lawret hc hL dL_law_812 h
                                                · have h := Eq.mp (if_neg z_205) h
                                                  by_cases z_217 : ((xs x3.toNatClampNeg) &&& 63) = 22
                                                  · have h := Eq.mp (if_pos z_217) h
                                                    refine ap_tabIn (tgt := 813) (off := 781) (v := 22) hc dL_law_32 z_217 (by decide) (by decide) (by decide +kernel) (by decide) ?_
                                                    refine ap_aload_n (q := 814) hc dL_law_813 rfl rfl 1 rfl ?_
                                                    refine ap_aload_n (q := 815) hc dL_law_814 rfl rfl 0 rfl ?_
                                                    refine ap_iload_n (q := 816) hc dL_law_815 rfl rfl 3 rfl ?_
                                                    refine ap_iconst (q := 817) hc dL_law_816 rfl ic_1 ?_
                                                    refine ap_iadd (q := 818) hc dL_law_817 rfl ?_
                                                    obtain ⟨g_218, h⟩ := h
                                                    refine ap_sld (q := 819) hL g_218 hc dL_law_818 rfl ?_
                                                    refine ap_aload_n (q := 820) hc dL_law_819 rfl rfl 0 rfl ?_
                                                    refine ap_iload_n (q := 821) hc dL_law_820 rfl rfl 3 rfl ?_
                                                    refine ap_iconst (q := 822) hc dL_law_821 rfl ic_2 ?_
                                                    refine ap_iadd (q := 823) hc dL_law_822 rfl ?_
                                                    obtain ⟨g_219, h⟩ := h
                                                    refine ap_sld (q := 824) hL g_219 hc dL_law_823 rfl ?_
                                                    refine ap_callV (q := 827) (As := [.int (xs (x3 + 1).toNatClampNeg), .int (xs (x3 + 2).toNatClampNeg)]) hc (ok_X8_mean hg (rfl : ap_kd 0 = 8) h) ml_R_law_107 lk_X8_mean lv_X8_mean (rfl : ap_kd 0 = 8) rfl (ap_RmM hL (by decide)) rfl rfl (Nat.le_of_ble_eq_true rfl) dL_law_824 rfl (ap_kl (fun r_220 M_221 h => ?_))
                                                    refine ap_aload_n (q := 828) hc dL_law_827 rfl rfl 2 rfl ?_
                                                    refine ap_aload_n (q := 829) hc dL_law_828 rfl rfl 0 rfl ?_
                                                    refine ap_iload_n (q := 830) hc dL_law_829 rfl rfl 3 rfl ?_
                                                    refine ap_iconst (q := 831) hc dL_law_830 rfl ic_1 ?_
                                                    refine ap_iadd (q := 832) hc dL_law_831 rfl ?_
                                                    obtain ⟨g_222, h⟩ := h
                                                    refine ap_sld (q := 833) hL g_222 hc dL_law_832 rfl ?_
                                                    refine ap_aload_n (q := 834) hc dL_law_833 rfl rfl 0 rfl ?_
                                                    refine ap_iload_n (q := 835) hc dL_law_834 rfl rfl 3 rfl ?_
                                                    refine ap_iconst (q := 836) hc dL_law_835 rfl ic_2 ?_
                                                    refine ap_iadd (q := 837) hc dL_law_836 rfl ?_
                                                    obtain ⟨g_223, h⟩ := h
                                                    refine ap_sld (q := 838) hL g_223 hc dL_law_837 rfl ?_
                                                    refine ap_callV (q := 841) (As := [.int (xs (x3 + 1).toNatClampNeg), .int (xs (x3 + 2).toNatClampNeg)]) hc (ok_X9_mean hg (rfl : ap_kd 98 = 9) h) ml_R_law_111 lk_X9_mean lv_X9_mean (rfl : ap_kd 98 = 9) rfl (ap_RmM hL (by decide)) rfl rfl (Nat.le_of_ble_eq_true rfl) dL_law_838 rfl (ap_kl (fun r_224 M_225 h => ?_))
                                                    refine ap_lcmp (q := 842) hc dL_law_841 rfl ?_
                                                    refine ap_if_eq (q := 845) (tgt := 1097) hc dL_law_842 rfl (by decide) (fun z_226 => ?_) (fun z_226 => ?_)
                                                    · have h := Eq.mp (if_pos z_226) h
                                                      exact ap_sub [0, 1, 2, 3] rfl (bl_L_law_1097 hc hL ih h)
                                                    · have h := Eq.mp (if_neg z_226) h
                                                      refine ap_iconst (q := 846) hc dL_law_845 rfl ic_0 ?_
                                                      exact ap_lawret hc hL dL_law_846 h
                                                  · have h := Eq.mp (if_neg z_217) h
                                                    by_cases z_227 : ((xs x3.toNatClampNeg) &&& 63) = 23
                                                    · have h := Eq.mp (if_pos z_227) h
                                                      refine ap_tabIn (tgt := 847) (off := 815) (v := 23) hc dL_law_32 z_227 (by decide) (by decide) (by decide +kernel) (by decide) ?_
                                                      refine ap_aload_n (q := 848) hc dL_law_847 rfl rfl 1 rfl ?_
                                                      refine ap_aload_n (q := 849) hc dL_law_848 rfl rfl 0 rfl ?_
                                                      refine ap_iload_n (q := 850) hc dL_law_849 rfl rfl 3 rfl ?_
                                                      refine ap_iconst (q := 851) hc dL_law_850 rfl ic_1 ?_
                                                      refine ap_iadd (q := 852) hc dL_law_851 rfl ?_
                                                      obtain ⟨g_228, h⟩ := h
                                                      refine ap_sld (q := 853) hL g_228 hc dL_law_852 rfl ?_
                                                      refine ap_aload_n (q := 854) hc dL_law_853 rfl rfl 0 rfl ?_
                                                      refine ap_iload_n (q := 855) hc dL_law_854 rfl rfl 3 rfl ?_
                                                      refine ap_iconst (q := 856) hc dL_law_855 rfl ic_2 ?_
                                                      refine ap_iadd (q := 857) hc dL_law_856 rfl ?_
                                                      obtain ⟨g_229, h⟩ := h
                                                      refine ap_sld (q := 858) hL g_229 hc dL_law_857 rfl ?_
                                                      refine ap_callV (q := 861) (As := [.int (xs (x3 + 1).toNatClampNeg), .int (xs (x3 + 2).toNatClampNeg)]) hc (ok_X8_plan hg (rfl : ap_kd 0 = 8) h) ml_R_law_112 lk_X8_plan lv_X8_plan (rfl : ap_kd 0 = 8) rfl (ap_RmM hL (by decide)) rfl rfl (Nat.le_of_ble_eq_true rfl) dL_law_858 rfl (ap_ki (fun r_230 M_231 h => ?_))
                                                      refine ap_aload_n (q := 862) hc dL_law_861 rfl rfl 2 rfl ?_
                                                      refine ap_aload_n (q := 863) hc dL_law_862 rfl rfl 0 rfl ?_
                                                      refine ap_iload_n (q := 864) hc dL_law_863 rfl rfl 3 rfl ?_
                                                      refine ap_iconst (q := 865) hc dL_law_864 rfl ic_1 ?_
                                                      refine ap_iadd (q := 866) hc dL_law_865 rfl ?_
                                                      obtain ⟨g_232, h⟩ := h
                                                      refine ap_sld (q := 867) hL g_232 hc dL_law_866 rfl ?_
                                                      refine ap_aload_n (q := 868) hc dL_law_867 rfl rfl 0 rfl ?_
                                                      refine ap_iload_n (q := 869) hc dL_law_868 rfl rfl 3 rfl ?_
                                                      refine ap_iconst (q := 870) hc dL_law_869 rfl ic_2 ?_
                                                      refine ap_iadd (q := 871) hc dL_law_870 rfl ?_
                                                      obtain ⟨g_233, h⟩ := h
                                                      refine ap_sld (q := 872) hL g_233 hc dL_law_871 rfl ?_
                                                      refine ap_callV (q := 875) (As := [.int (xs (x3 + 1).toNatClampNeg), .int (xs (x3 + 2).toNatClampNeg)]) hc (ok_X9_plan hg (rfl : ap_kd 98 = 9) h) ml_R_law_115 lk_X9_plan lv_X9_plan (rfl : ap_kd 98 = 9) rfl (ap_RmM hL (by decide)) rfl rfl (Nat.le_of_ble_eq_true rfl) dL_law_872 rfl (ap_ki (fun r_234 M_235 h => ?_))
                                                      refine ap_icmp_eq (q := 878) (tgt := 1097) hc dL_law_875 rfl (by decide) (fun z_236 => ?_) (fun z_236 => ?_)
                                                      · have h := Eq.mp (if_pos z_236) h
                                                        exact ap_sub [0, 1, 2, 3] rfl (bl_L_law_1097 hc hL ih h)
                                                      · have h := Eq.mp (if_neg z_236) h
                                                        refine ap_iconst (q := 879) hc dL_law_878 rfl ic_0 ?_
                                                        exact ap_lawret hc hL dL_law_879 h
                                                    · have h := Eq.mp (if_neg z_227) h
                                                      by_cases z_237 : ((xs x3.toNatClampNeg) &&& 63) = 24
                                                      · have h := Eq.mp (if_pos z_237) h
                                                        refine ap_tabIn (tgt := 880) (off := 848) (v := 24) hc dL_law_32 z_237 (by decide) (by decide) (by decide +kernel) (by decide) ?_
                                                        refine ap_aload_n (q := 881) hc dL_law_880 rfl rfl 1 rfl ?_
                                                        refine ap_aload_n (q := 882) hc dL_law_881 rfl rfl 0 rfl ?_
                                                        refine ap_iload_n (q := 883) hc dL_law_882 rfl rfl 3 rfl ?_
                                                        refine ap_iconst (q := 884) hc dL_law_883 rfl ic_1 ?_
                                                        refine ap_iadd (q := 885) hc dL_law_884 rfl ?_
                                                        obtain ⟨g_238, h⟩ := h
                                                        refine ap_sld (q := 886) hL g_238 hc dL_law_885 rfl ?_
                                                        refine ap_callV (q := 889) (As := [.int (xs (x3 + 1).toNatClampNeg)]) hc (ok_X8_done hg (rfl : ap_kd 0 = 8) h) ml_R_law_116 lk_X8_done lv_X8_done (rfl : ap_kd 0 = 8) rfl (ap_RmM hL (by decide)) rfl rfl (Nat.le_of_ble_eq_true rfl) dL_law_886 rfl (ap_ki (fun r_239 M_240 h => ?_))
                                                        refine ap_aload_n (q := 890) hc dL_law_889 rfl rfl 2 rfl ?_
                                                        refine ap_aload_n (q := 891) hc dL_law_890 rfl rfl 0 rfl ?_
                                                        refine ap_iload_n (q := 892) hc dL_law_891 rfl rfl 3 rfl ?_
                                                        refine ap_iconst (q := 893) hc dL_law_892 rfl ic_1 ?_
                                                        refine ap_iadd (q := 894) hc dL_law_893 rfl ?_
                                                        obtain ⟨g_241, h⟩ := h
                                                        refine ap_sld (q := 895) hL g_241 hc dL_law_894 rfl ?_
                                                        refine ap_callV (q := 898) (As := [.int (xs (x3 + 1).toNatClampNeg)]) hc (ok_X9_done hg (rfl : ap_kd 98 = 9) h) ml_R_law_119 lk_X9_done lv_X9_done (rfl : ap_kd 98 = 9) rfl (ap_RmM hL (by decide)) rfl rfl (Nat.le_of_ble_eq_true rfl) dL_law_895 rfl (ap_ki (fun r_242 M_243 h => ?_))
                                                        refine ap_icmp_eq (q := 901) (tgt := 1097) hc dL_law_898 rfl (by decide) (fun z_244 => ?_) (fun z_244 => ?_)
                                                        · have h := Eq.mp (if_pos z_244) h
                                                          exact ap_sub [0, 1, 2, 3] rfl (bl_L_law_1097 hc hL ih h)
                                                        · have h := Eq.mp (if_neg z_244) h
                                                          refine ap_iconst (q := 902) hc dL_law_901 rfl ic_0 ?_
                                                          exact ap_lawret hc hL dL_law_902 h
                                                      · have h := Eq.mp (if_neg z_237) h
                                                        by_cases z_245 : ((xs x3.toNatClampNeg) &&& 63) = 25
                                                        · have h := Eq.mp (if_pos z_245) h
                                                          refine ap_tabIn (tgt := 903) (off := 871) (v := 25) hc dL_law_32 z_245 (by decide) (by decide) (by decide +kernel) (by decide) ?_
                                                          refine ap_aload_n (q := 904) hc dL_law_903 rfl rfl 1 rfl ?_
                                                          refine ap_aload_n (q := 905) hc dL_law_904 rfl rfl 0 rfl ?_
                                                          refine ap_iload_n (q := 906) hc dL_law_905 rfl rfl 3 rfl ?_
                                                          refine ap_iconst (q := 907) hc dL_law_906 rfl ic_1 ?_
                                                          refine ap_iadd (q := 908) hc dL_law_907 rfl ?_
                                                          obtain ⟨g_246, h⟩ := h
                                                          refine ap_sld (q := 909) hL g_246 hc dL_law_908 rfl ?_
                                                          refine ap_aload_n (q := 910) hc dL_law_909 rfl rfl 0 rfl ?_
                                                          refine ap_iload_n (q := 911) hc dL_law_910 rfl rfl 3 rfl ?_
                                                          refine ap_iconst (q := 912) hc dL_law_911 rfl ic_2 ?_
                                                          refine ap_iadd (q := 913) hc dL_law_912 rfl ?_
                                                          obtain ⟨g_247, h⟩ := h
                                                          refine ap_sld (q := 914) hL g_247 hc dL_law_913 rfl ?_
                                                          refine ap_callV (q := 917) (As := [.int (xs (x3 + 1).toNatClampNeg), .int (xs (x3 + 2).toNatClampNeg)]) hc (ok_X8_book hg (rfl : ap_kd 0 = 8) h) ml_R_law_120 lk_X8_book lv_X8_book (rfl : ap_kd 0 = 8) rfl (ap_RmM hL (by decide)) rfl rfl (Nat.le_of_ble_eq_true rfl) dL_law_914 rfl (ap_ki (fun r_248 M_249 h => ?_))
                                                          refine ap_aload_n (q := 918) hc dL_law_917 rfl rfl 2 rfl ?_
                                                          refine ap_aload_n (q := 919) hc dL_law_918 rfl rfl 0 rfl ?_
                                                          refine ap_iload_n (q := 920) hc dL_law_919 rfl rfl 3 rfl ?_
                                                          refine ap_iconst (q := 921) hc dL_law_920 rfl ic_1 ?_
                                                          refine ap_iadd (q := 922) hc dL_law_921 rfl ?_
                                                          obtain ⟨g_250, h⟩ := h
                                                          refine ap_sld (q := 923) hL g_250 hc dL_law_922 rfl ?_
                                                          refine ap_aload_n (q := 924) hc dL_law_923 rfl rfl 0 rfl ?_
                                                          refine ap_iload_n (q := 925) hc dL_law_924 rfl rfl 3 rfl ?_
                                                          refine ap_iconst (q := 926) hc dL_law_925 rfl ic_2 ?_
                                                          refine ap_iadd (q := 927) hc dL_law_926 rfl ?_
                                                          obtain ⟨g_251, h⟩ := h
                                                          refine ap_sld (q := 928) hL g_251 hc dL_law_927 rfl ?_
                                                          refine ap_callV (q := 931) (As := [.int (xs (x3 + 1).toNatClampNeg), .int (xs (x3 + 2).toNatClampNeg)]) hc (ok_X9_book hg (rfl : ap_kd 98 = 9) h) ml_R_law_123 lk_X9_book lv_X9_book (rfl : ap_kd 98 = 9) rfl (ap_RmM hL (by decide)) rfl rfl (Nat.le_of_ble_eq_true rfl) dL_law_928 rfl (ap_ki (fun r_252 M_253 h => ?_))
                                                          refine ap_icmp_eq (q := 934) (tgt := 1097) hc dL_law_931 rfl (by decide) (fun z_254 => ?_) (fun z_254 => ?_)
                                                          · have h := Eq.mp (if_pos z_254) h
                                                            exact ap_sub [0, 1, 2, 3] rfl (bl_L_law_1097 hc hL ih h)
                                                          · have h := Eq.mp (if_neg z_254) h
                                                            refine ap_iconst (q := 935) hc dL_law_934 rfl ic_0 ?_
                                                            exact ap_lawret hc hL dL_law_935 h
                                                        · have h := Eq.mp (if_neg z_245) h
                                                          by_cases z_255 : ((xs x3.toNatClampNeg) &&& 63) = 26
                                                          · have h := Eq.mp (if_pos z_255) h
                                                            refine ap_tabIn (tgt := 936) (off := 904) (v := 26) hc dL_law_32 z_255 (by decide) (by decide) (by decide +kernel) (by decide) ?_
                                                            refine ap_aload_n (q := 937) hc dL_law_936 rfl rfl 1 rfl ?_
                                                            refine ap_callV (q := 940) (As := []) hc (ok_X8_looked hg (rfl : ap_kd 0 = 8) h) ml_R_law_124 lk_X8_looked lv_X8_looked (rfl : ap_kd 0 = 8) rfl (ap_RmM hL (by decide)) rfl rfl (Nat.le_of_ble_eq_true rfl) dL_law_937 rfl (ap_ki (fun r_256 M_257 h => ?_))
                                                            refine ap_aload_n (q := 941) hc dL_law_940 rfl rfl 2 rfl ?_
                                                            refine ap_callV (q := 944) (As := []) hc (ok_X9_looked hg (rfl : ap_kd 98 = 9) h) ml_R_law_127 lk_X9_looked lv_X9_looked (rfl : ap_kd 98 = 9) rfl (ap_RmM hL (by decide)) rfl rfl (Nat.le_of_ble_eq_true rfl) dL_law_941 rfl (ap_ki (fun r_258 M_259 h => ?_))
                                                            refine ap_icmp_eq (q := 947) (tgt := 1097) hc dL_law_944 rfl (by decide) (fun z_260 => ?_) (fun z_260 => ?_)
                                                            · have h := Eq.mp (if_pos z_260) h
                                                              exact ap_sub [0, 1, 2, 3] rfl (bl_L_law_1097 hc hL ih h)
                                                            · have h := Eq.mp (if_neg z_260) h
                                                              refine ap_iconst (q := 948) hc dL_law_947 rfl ic_0 ?_
                                                              exact ap_lawret hc hL dL_law_948 h
                                                          · have h := Eq.mp (if_neg z_255) h
                                                            by_cases z_261 : ((xs x3.toNatClampNeg) &&& 63) = 27
                                                            · have h := Eq.mp (if_pos z_261) h
                                                              refine ap_tabIn (tgt := 949) (off := 917) (v := 27) hc dL_law_32 z_261 (by decide) (by decide) (by decide +kernel) (by decide) ?_
                                                              refine ap_aload_n (q := 950) hc dL_law_949 rfl rfl 1 rfl ?_
                                                              refine ap_aload_n (q := 951) hc dL_law_950 rfl rfl 0 rfl ?_
                                                              refine ap_iload_n (q := 952) hc dL_law_951 rfl rfl 3 rfl ?_
                                                              refine ap_iconst (q := 953) hc dL_law_952 rfl ic_1 ?_
                                                              refine ap_iadd (q := 954) hc dL_law_953 rfl ?_
                                                              obtain ⟨g_262, h⟩ := h
                                                              refine ap_sld (q := 955) hL g_262 hc dL_law_954 rfl ?_
                                                              refine ap_aload_n (q := 956) hc dL_law_955 rfl rfl 0 rfl ?_
                                                              refine ap_iload_n (q := 957) hc dL_law_956 rfl rfl 3 rfl ?_
                                                              refine ap_iconst (q := 958) hc dL_law_957 rfl ic_2 ?_
                                                              refine ap_iadd (q := 959) hc dL_law_958 rfl ?_
                                                              obtain ⟨g_263, h⟩ := h
                                                              refine ap_sld (q := 960) hL g_263 hc dL_law_959 rfl ?_
                                                              refine ap_aload_n (q := 961) hc dL_law_960 rfl rfl 0 rfl ?_
                                                              refine ap_iload_n (q := 962) hc dL_law_961 rfl rfl 3 rfl ?_
                                                              refine ap_iconst (q := 963) hc dL_law_962 rfl ic_3 ?_
                                                              refine ap_iadd (q := 964) hc dL_law_963 rfl ?_
                                                              obtain ⟨g_264, h⟩ := h
                                                              refine ap_sld (q := 965) hL g_264 hc dL_law_964 rfl ?_
                                                              refine ap_callV (q := 968) (As := [.int (xs (x3 + 1).toNatClampNeg), .int (xs (x3 + 2).toNatClampNeg), .int (xs (x3 + 3).toNatClampNeg)]) hc (ok_X8_act hg (rfl : ap_kd 0 = 8) h) ml_R_law_128 lk_X8_act lv_X8_act (rfl : ap_kd 0 = 8) rfl (ap_RmM hL (by decide)) rfl rfl (Nat.le_of_ble_eq_true rfl) dL_law_965 rfl (ap_ki (fun r_265 M_266 h => ?_))
                                                              refine ap_aload_n (q := 969) hc dL_law_968 rfl rfl 2 rfl ?_
                                                              refine ap_aload_n (q := 970) hc dL_law_969 rfl rfl 0 rfl ?_
                                                              refine ap_iload_n (q := 971) hc dL_law_970 rfl rfl 3 rfl ?_
                                                              refine ap_iconst (q := 972) hc dL_law_971 rfl ic_1 ?_
                                                              refine ap_iadd (q := 973) hc dL_law_972 rfl ?_
                                                              obtain ⟨g_267, h⟩ := h
                                                              refine ap_sld (q := 974) hL g_267 hc dL_law_973 rfl ?_
                                                              refine ap_aload_n (q := 975) hc dL_law_974 rfl rfl 0 rfl ?_
                                                              refine ap_iload_n (q := 976) hc dL_law_975 rfl rfl 3 rfl ?_
                                                              refine ap_iconst (q := 977) hc dL_law_976 rfl ic_2 ?_
                                                              refine ap_iadd (q := 978) hc dL_law_977 rfl ?_
                                                              obtain ⟨g_268, h⟩ := h
                                                              refine ap_sld (q := 979) hL g_268 hc dL_law_978 rfl ?_
                                                              refine ap_aload_n (q := 980) hc dL_law_979 rfl rfl 0 rfl ?_
                                                              refine ap_iload_n (q := 981) hc dL_law_980 rfl rfl 3 rfl ?_
                                                              refine ap_iconst (q := 982) hc dL_law_981 rfl ic_3 ?_
                                                              refine ap_iadd (q := 983) hc dL_law_982 rfl ?_
                                                              obtain ⟨g_269, h⟩ := h
                                                              refine ap_sld (q := 984) hL g_269 hc dL_law_983 rfl ?_
                                                              refine ap_callV (q := 987) (As := [.int (xs (x3 + 1).toNatClampNeg), .int (xs (x3 + 2).toNatClampNeg), .int (xs (x3 + 3).toNatClampNeg)]) hc (ok_X9_act hg (rfl : ap_kd 98 = 9) h) ml_R_law_131 lk_X9_act lv_X9_act (rfl : ap_kd 98 = 9) rfl (ap_RmM hL (by decide)) rfl rfl (Nat.le_of_ble_eq_true rfl) dL_law_984 rfl (ap_ki (fun r_270 M_271 h => ?_))
                                                              refine ap_icmp_eq (q := 990) (tgt := 1097) hc dL_law_987 rfl (by decide) (fun z_272 => ?_) (fun z_272 => ?_)
                                                              · have h := Eq.mp (if_pos z_272) h
                                                                exact ap_sub [0, 1, 2, 3] rfl (bl_L_law_1097 hc hL ih h)
                                                              · have h := Eq.mp (if_neg z_272) h
                                                                refine ap_iconst (q := 991) hc dL_law_990 rfl ic_0 ?_
                                                                exact ap_lawret hc hL dL_law_991 h
                                                            · have h := Eq.mp (if_neg z_261) h
                                                              by_cases z_273 : ((xs x3.toNatClampNeg) &&& 63) = 28
                                                              · have h := Eq.mp (if_pos z_273) h
                                                                refine ap_tabIn (tgt := 992) (off := 960) (v := 28) hc dL_law_32 z_273 (by decide) (by decide) (by decide +kernel) (by decide) ?_
                                                                refine ap_aload_n (q := 993) hc dL_law_992 rfl rfl 1 rfl ?_
                                                                refine ap_aload_n (q := 994) hc dL_law_993 rfl rfl 0 rfl ?_
                                                                refine ap_iload_n (q := 995) hc dL_law_994 rfl rfl 3 rfl ?_
                                                                refine ap_iconst (q := 996) hc dL_law_995 rfl ic_1 ?_
                                                                refine ap_iadd (q := 997) hc dL_law_996 rfl ?_
                                                                obtain ⟨g_274, h⟩ := h
                                                                refine ap_sld (q := 998) hL g_274 hc dL_law_997 rfl ?_
                                                                refine ap_callV (q := 1001) (As := [.int (xs (x3 + 1).toNatClampNeg)]) hc (ok_X8_trace hg (rfl : ap_kd 0 = 8) h) ml_R_law_132 lk_X8_trace lv_X8_trace (rfl : ap_kd 0 = 8) rfl (ap_RmM hL (by decide)) rfl rfl (Nat.le_of_ble_eq_true rfl) dL_law_998 rfl (ap_ki (fun r_275 M_276 h => ?_))
                                                                refine ap_aload_n (q := 1002) hc dL_law_1001 rfl rfl 2 rfl ?_
                                                                refine ap_aload_n (q := 1003) hc dL_law_1002 rfl rfl 0 rfl ?_
                                                                refine ap_iload_n (q := 1004) hc dL_law_1003 rfl rfl 3 rfl ?_
                                                                refine ap_iconst (q := 1005) hc dL_law_1004 rfl ic_1 ?_
                                                                refine ap_iadd (q := 1006) hc dL_law_1005 rfl ?_
                                                                obtain ⟨g_277, h⟩ := h
                                                                refine ap_sld (q := 1007) hL g_277 hc dL_law_1006 rfl ?_
                                                                refine ap_callV (q := 1010) (As := [.int (xs (x3 + 1).toNatClampNeg)]) hc (ok_X9_trace hg (rfl : ap_kd 98 = 9) h) ml_R_law_135 lk_X9_trace lv_X9_trace (rfl : ap_kd 98 = 9) rfl (ap_RmM hL (by decide)) rfl rfl (Nat.le_of_ble_eq_true rfl) dL_law_1007 rfl (ap_ki (fun r_278 M_279 h => ?_))
                                                                refine ap_icmp_eq (q := 1013) (tgt := 1097) hc dL_law_1010 rfl (by decide) (fun z_280 => ?_) (fun z_280 => ?_)
                                                                · have h := Eq.mp (if_pos z_280) h
                                                                  exact ap_sub [0, 1, 2, 3] rfl (bl_L_law_1097 hc hL ih h)
                                                                · have h := Eq.mp (if_neg z_280) h
                                                                  refine ap_iconst (q := 1014) hc dL_law_1013 rfl ic_0 ?_
                                                                  exact ap_lawret hc hL dL_law_1014 h
                                                              · have h := Eq.mp (if_neg z_273) h
                                                                by_cases z_281 : ((xs x3.toNatClampNeg) &&& 63) = 29
                                                                · have h := Eq.mp (if_pos z_281) h
                                                                  refine ap_tabIn (tgt := 1015) (off := 983) (v := 29) hc dL_law_32 z_281 (by decide) (by decide) (by decide +kernel) (by decide) ?_
                                                                  refine ap_aload_n (q := 1016) hc dL_law_1015 rfl rfl 1 rfl ?_
                                                                  refine ap_aload_n (q := 1017) hc dL_law_1016 rfl rfl 0 rfl ?_
                                                                  refine ap_iload_n (q := 1018) hc dL_law_1017 rfl rfl 3 rfl ?_
                                                                  refine ap_iconst (q := 1019) hc dL_law_1018 rfl ic_1 ?_
                                                                  refine ap_iadd (q := 1020) hc dL_law_1019 rfl ?_
                                                                  obtain ⟨g_282, h⟩ := h
                                                                  refine ap_sld (q := 1021) hL g_282 hc dL_law_1020 rfl ?_
                                                                  refine ap_aload_n (q := 1022) hc dL_law_1021 rfl rfl 0 rfl ?_
                                                                  refine ap_iload_n (q := 1023) hc dL_law_1022 rfl rfl 3 rfl ?_
                                                                  refine ap_iconst (q := 1024) hc dL_law_1023 rfl ic_2 ?_
                                                                  refine ap_iadd (q := 1025) hc dL_law_1024 rfl ?_
                                                                  obtain ⟨g_283, h⟩ := h
                                                                  refine ap_sld (q := 1026) hL g_283 hc dL_law_1025 rfl ?_
                                                                  refine ap_callV (q := 1029) (As := [.int (xs (x3 + 1).toNatClampNeg), .int (xs (x3 + 2).toNatClampNeg)]) hc (ok_X8_as hg (rfl : ap_kd 0 = 8) h) ml_R_law_136 lk_X8_as lv_X8_as (rfl : ap_kd 0 = 8) rfl (ap_RmM hL (by decide)) rfl rfl (Nat.le_of_ble_eq_true rfl) dL_law_1026 rfl (ap_ki (fun r_284 M_285 h => ?_))
                                                                  refine ap_aload_n (q := 1030) hc dL_law_1029 rfl rfl 2 rfl ?_
                                                                  refine ap_aload_n (q := 1031) hc dL_law_1030 rfl rfl 0 rfl ?_
                                                                  refine ap_iload_n (q := 1032) hc dL_law_1031 rfl rfl 3 rfl ?_
                                                                  refine ap_iconst (q := 1033) hc dL_law_1032 rfl ic_1 ?_
                                                                  refine ap_iadd (q := 1034) hc dL_law_1033 rfl ?_
                                                                  obtain ⟨g_286, h⟩ := h
                                                                  refine ap_sld (q := 1035) hL g_286 hc dL_law_1034 rfl ?_
                                                                  refine ap_aload_n (q := 1036) hc dL_law_1035 rfl rfl 0 rfl ?_
                                                                  refine ap_iload_n (q := 1037) hc dL_law_1036 rfl rfl 3 rfl ?_
                                                                  refine ap_iconst (q := 1038) hc dL_law_1037 rfl ic_2 ?_
                                                                  refine ap_iadd (q := 1039) hc dL_law_1038 rfl ?_
                                                                  obtain ⟨g_287, h⟩ := h
                                                                  refine ap_sld (q := 1040) hL g_287 hc dL_law_1039 rfl ?_
                                                                  refine ap_callV (q := 1043) (As := [.int (xs (x3 + 1).toNatClampNeg), .int (xs (x3 + 2).toNatClampNeg)]) hc (ok_X9_as hg (rfl : ap_kd 98 = 9) h) ml_R_law_139 lk_X9_as lv_X9_as (rfl : ap_kd 98 = 9) rfl (ap_RmM hL (by decide)) rfl rfl (Nat.le_of_ble_eq_true rfl) dL_law_1040 rfl (ap_ki (fun r_288 M_289 h => ?_))
                                                                  refine ap_icmp_eq (q := 1046) (tgt := 1097) hc dL_law_1043 rfl (by decide) (fun z_290 => ?_) (fun z_290 => ?_)
                                                                  · have h := Eq.mp (if_pos z_290) h
                                                                    exact ap_sub [0, 1, 2, 3] rfl (bl_L_law_1097 hc hL ih h)
                                                                  · have h := Eq.mp (if_neg z_290) h
                                                                    refine ap_iconst (q := 1047) hc dL_law_1046 rfl ic_0 ?_
                                                                    exact ap_lawret hc hL dL_law_1047 h
                                                                · have h := Eq.mp (if_neg z_281) h
                                                                  by_cases z_291 : ((xs x3.toNatClampNeg) &&& 63) = 30
                                                                  · have h := Eq.mp (if_pos z_291) h
                                                                    refine ap_tabIn (tgt := 1048) (off := 1016) (v := 30) hc dL_law_32 z_291 (by decide) (by decide) (by decide +kernel) (by decide) ?_
                                                                    refine ap_aload_n (q := 1049) hc dL_law_1048 rfl rfl 1 rfl ?_
                                                                    refine ap_callV (q := 1052) (As := []) hc (ok_X8_image hg (rfl : ap_kd 0 = 8) h) ml_R_law_140 lk_X8_image lv_X8_image (rfl : ap_kd 0 = 8) rfl (ap_RmM hL (by decide)) rfl rfl (Nat.le_of_ble_eq_true rfl) dL_law_1049 rfl (ap_ki (fun r_292 M_293 h => ?_))
                                                                    refine ap_aload_n (q := 1053) hc dL_law_1052 rfl rfl 2 rfl ?_
                                                                    refine ap_callV (q := 1056) (As := []) hc (ok_X9_image hg (rfl : ap_kd 98 = 9) h) ml_R_law_143 lk_X9_image lv_X9_image (rfl : ap_kd 98 = 9) rfl (ap_RmM hL (by decide)) rfl rfl (Nat.le_of_ble_eq_true rfl) dL_law_1053 rfl (ap_ki (fun r_294 M_295 h => ?_))
                                                                    refine ap_icmp_eq (q := 1059) (tgt := 1097) hc dL_law_1056 rfl (by decide) (fun z_296 => ?_) (fun z_296 => ?_)
                                                                    · have h := Eq.mp (if_pos z_296) h
                                                                      exact ap_sub [0, 1, 2, 3] rfl (bl_L_law_1097 hc hL ih h)
                                                                    · have h := Eq.mp (if_neg z_296) h
                                                                      refine ap_iconst (q := 1060) hc dL_law_1059 rfl ic_0 ?_
                                                                      exact ap_lawret hc hL dL_law_1060 h
                                                                  · have h := Eq.mp (if_neg z_291) h
                                                                    by_cases z_297 : ((xs x3.toNatClampNeg) &&& 63) = 31
                                                                    · have h := Eq.mp (if_pos z_297) h
                                                                      refine ap_tabIn (tgt := 1061) (off := 1029) (v := 31) hc dL_law_32 z_297 (by decide) (by decide) (by decide +kernel) (by decide) ?_
                                                                      refine ap_aload_n (q := 1062) hc dL_law_1061 rfl rfl 1 rfl ?_
                                                                      refine ap_callV (q := 1065) (As := []) hc (ok_X8_undo hg (rfl : ap_kd 0 = 8) h) ml_R_law_144 lk_X8_undo lv_X8_undo (rfl : ap_kd 0 = 8) rfl (ap_RmM hL (by decide)) rfl rfl (Nat.le_of_ble_eq_true rfl) dL_law_1062 rfl (ap_ki (fun r_298 M_299 h => ?_))
                                                                      refine ap_aload_n (q := 1066) hc dL_law_1065 rfl rfl 2 rfl ?_
                                                                      refine ap_callV (q := 1069) (As := []) hc (ok_X9_undo hg (rfl : ap_kd 98 = 9) h) ml_R_law_147 lk_X9_undo lv_X9_undo (rfl : ap_kd 98 = 9) rfl (ap_RmM hL (by decide)) rfl rfl (Nat.le_of_ble_eq_true rfl) dL_law_1066 rfl (ap_ki (fun r_300 M_301 h => ?_))
                                                                      refine ap_icmp_eq (q := 1072) (tgt := 1097) hc dL_law_1069 rfl (by decide) (fun z_302 => ?_) (fun z_302 => ?_)
                                                                      · have h := Eq.mp (if_pos z_302) h
                                                                        exact ap_sub [0, 1, 2, 3] rfl (bl_L_law_1097 hc hL ih h)
                                                                      · have h := Eq.mp (if_neg z_302) h
                                                                        refine ap_iconst (q := 1073) hc dL_law_1072 rfl ic_0 ?_
                                                                        exact ap_lawret hc hL dL_law_1073 h
                                                                    · have h := Eq.mp (if_neg z_297) h
                                                                      by_cases z_303 : ((xs x3.toNatClampNeg) &&& 63) = 32
                                                                      · have h := Eq.mp (if_pos z_303) h
                                                                        refine ap_tabIn (tgt := 1074) (off := 1042) (v := 32) hc dL_law_32 z_303 (by decide) (by decide) (by decide +kernel) (by decide) ?_
                                                                        refine ap_aload_n (q := 1075) hc dL_law_1074 rfl rfl 1 rfl ?_
                                                                        refine ap_aload_n (q := 1076) hc dL_law_1075 rfl rfl 0 rfl ?_
                                                                        refine ap_iload_n (q := 1077) hc dL_law_1076 rfl rfl 3 rfl ?_
                                                                        refine ap_iconst (q := 1078) hc dL_law_1077 rfl ic_1 ?_
                                                                        refine ap_iadd (q := 1079) hc dL_law_1078 rfl ?_
                                                                        obtain ⟨g_304, h⟩ := h
                                                                        refine ap_sld (q := 1080) hL g_304 hc dL_law_1079 rfl ?_
                                                                        refine ap_callV (q := 1083) (As := [.int (xs (x3 + 1).toNatClampNeg)]) hc (ok_X8_count hg (rfl : ap_kd 0 = 8) h) ml_R_law_148 lk_X8_count lv_X8_count (rfl : ap_kd 0 = 8) rfl (ap_RmM hL (by decide)) rfl rfl (Nat.le_of_ble_eq_true rfl) dL_law_1080 rfl (ap_ki (fun r_305 M_306 h => ?_))
                                                                        refine ap_aload_n (q := 1084) hc dL_law_1083 rfl rfl 2 rfl ?_
                                                                        refine ap_aload_n (q := 1085) hc dL_law_1084 rfl rfl 0 rfl ?_
                                                                        refine ap_iload_n (q := 1086) hc dL_law_1085 rfl rfl 3 rfl ?_
                                                                        refine ap_iconst (q := 1087) hc dL_law_1086 rfl ic_1 ?_
                                                                        refine ap_iadd (q := 1088) hc dL_law_1087 rfl ?_
                                                                        obtain ⟨g_307, h⟩ := h
                                                                        refine ap_sld (q := 1089) hL g_307 hc dL_law_1088 rfl ?_
                                                                        refine ap_callV (q := 1092) (As := [.int (xs (x3 + 1).toNatClampNeg)]) hc (ok_X9_count hg (rfl : ap_kd 98 = 9) h) ml_R_law_151 lk_X9_count lv_X9_count (rfl : ap_kd 98 = 9) rfl (ap_RmM hL (by decide)) rfl rfl (Nat.le_of_ble_eq_true rfl) dL_law_1089 rfl (ap_ki (fun r_308 M_309 h => ?_))
                                                                        refine ap_icmp_eq (q := 1095) (tgt := 1097) hc dL_law_1092 rfl (by decide) (fun z_310 => ?_) (fun z_310 => ?_)
                                                                        · have h := Eq.mp (if_pos z_310) h
                                                                          exact ap_sub [0, 1, 2, 3] rfl (bl_L_law_1097 hc hL ih h)
                                                                        · have h := Eq.mp (if_neg z_310) h
                                                                          refine ap_iconst (q := 1096) hc dL_law_1095 rfl ic_0 ?_
                                                                          exact ap_lawret hc hL dL_law_1096 h
                                                                      · have h := Eq.mp (if_neg z_303) h
                                                                        refine ap_tabOut (tgt := 1097) hc dL_law_32 (ap_tabNo 33 (by decide) (by decide) (by decide) (fun j hj hjj => ?_)) (by decide) ?_
                                                                        · rcases (by omega : j = 0 ∨ j = 1 ∨ j = 2 ∨ j = 3 ∨ j = 4 ∨ j = 5 ∨ j = 6 ∨ j = 7 ∨ j = 8 ∨ j = 9 ∨ j = 10 ∨ j = 11 ∨ j = 12 ∨ j = 13 ∨ j = 14 ∨ j = 15 ∨ j = 16 ∨ j = 17 ∨ j = 18 ∨ j = 19 ∨ j = 20 ∨ j = 21 ∨ j = 22 ∨ j = 23 ∨ j = 24 ∨ j = 25 ∨ j = 26 ∨ j = 27 ∨ j = 28 ∨ j = 29 ∨ j = 30 ∨ j = 31 ∨ j = 32) with rfl | rfl | rfl | rfl | rfl | rfl | rfl | rfl | rfl | rfl | rfl | rfl | rfl | rfl | rfl | rfl | rfl | rfl | rfl | rfl | rfl | rfl | rfl | rfl | rfl | rfl | rfl | rfl | rfl | rfl | rfl | rfl | rfl
                                                                          · exact z_3
                                                                          · exact z_11
                                                                          · exact z_17
                                                                          · exact z_29
                                                                          · exact z_39
                                                                          · exact z_51
                                                                          · exact z_61
                                                                          · exact z_87
                                                                          · exact z_95
                                                                          · exact z_103
                                                                          · exact z_111
                                                                          · exact z_121
                                                                          · exact z_129
                                                                          · exact z_139
                                                                          · exact z_147
                                                                          · exact z_155
                                                                          · exact z_163
                                                                          · exact z_171
                                                                          · exact z_181
                                                                          · exact z_189
                                                                          · exact z_199
                                                                          · exact z_205
                                                                          · exact z_217
                                                                          · exact z_227
                                                                          · exact z_237
                                                                          · exact z_245
                                                                          · exact z_255
                                                                          · exact z_261
                                                                          · exact z_273
                                                                          · exact z_281
                                                                          · exact z_291
                                                                          · exact z_297
                                                                          · exact z_303
                                                                        exact ap_sub [0, 1, 2, 3] rfl (bl_L_law_1097 hc hL ih h)
