/-! ===== the words of a throw ===== -/
abbrev nse : String := "java/util/NoSuchElementException"
def nseN : List String := ["java/lang/RuntimeException", "java/lang/Exception"]
def nseW : List Cond := vx_at0 "SlipCovers" 313 nse nseN
def nseP : List Nat := [100, 1110, 1119, 1121, 1124, 1126, 1111, 1112, 110, 111, 1113, 1118, 1122, 1138, 1100, 1139, 1102, 1140, 1104, 1114, 1116, 1106, 1128, 1129, 1130, 1131, 1091, 1131, 1132, 1133, 1134, 1093, 1134, 1135, 1136, 1111, 1095, 1127, 1089, 1090, 1097, 1098, 1099, 1101, 1103, 1105, 1109, 1108, 1107]
theorem nse_at : nseW = nseP.filterMap (fun i => lw_tbl[i]?) := by decide +kernel
theorem nse_ok : nseW.all (fun w => goodWord w || (w.onTables && w.faceAtom)) = true := by decide +kernel
theorem nse_w {x : Cx} {E : Gx} {D nL : Nat} {own : String} (B : Bd x E D nL own) : ∀ w ∈ nseW, w.before (xa x) (xs x) = true := by
  intro w hw
  have hk := List.all_eq_true.mp nse_ok w hw
  rw [nse_at] at hw
  obtain ⟨i, -, hi⟩ := List.mem_filterMap.mp hw
  rcases (Bool.or_eq_true _ _).mp hk with h | h
  · exact B.2.1 w (tG i hi h)
  · exact B.2.2.2.2.1.1.2.2.2.2.2 w (tF i hi h) _
theorem nse_ot : ∀ w ∈ Cond.classLink "SlipCovers" 311 nse :: Cond.initialized nse :: nseW, vx_ot w = true := by
  intro w hw
  have h : (Cond.classLink "SlipCovers" 311 nse :: Cond.initialized nse :: nseW).all vx_ot = true := by decide +kernel
  exact List.all_eq_true.mp h w hw
