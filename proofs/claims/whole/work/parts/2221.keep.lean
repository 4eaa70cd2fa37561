/-! what is done to a shop leaves the rest alone -/
theorem sets_mn {T : Sh} {p w v : Int} : (setsT T p w v).mn = T.mn := by unfold setsT; exact sd_mn
theorem sets_lot {T : Sh} {p w v : Int} : (setsT T p w v).lot = T.lot := by unfold setsT; exact sd_lot
theorem sets_st {T : Sh} {p w v : Int} : (setsT T p w v).st = T.st := by unfold setsT; exact sd_st
theorem sets_bu {T : Sh} {p w v : Int} : (setsT T p w v).bu = T.bu := by unfold setsT; exact sd_bu
theorem sets_ma {T : Sh} {p w v : Int} : (setsT T p w v).ma = T.ma := by unfold setsT; exact sd_ma
theorem sets_rw {T : Sh} {p w v : Int} : (setsT T p w v).rw = T.rw := by unfold setsT; exact sd_rw
theorem sets_t7 {T : Sh} {p w v : Int} : (setsT T p w v).t7 = T.t7 := by unfold setsT; exact sd_t7
theorem sets_en {T : Sh} {p w v : Int} : (setsT T p w v).en = T.en := by unfold setsT; exact sd_en
theorem sets_bk {T : Sh} {p w v : Int} : (setsT T p w v).bk = T.bk := by unfold setsT; exact sd_bk
theorem tels_mn {T : Sh} {p w v : Int} : (tellsT T p w v).mn = T.mn := by unfold tellsT; exact sd_mn
theorem tels_lot {T : Sh} {p w v : Int} : (tellsT T p w v).lot = T.lot := by unfold tellsT; exact sd_lot
theorem tels_st {T : Sh} {p w v : Int} : (tellsT T p w v).st = T.st := by unfold tellsT; exact sd_st
theorem tels_bu {T : Sh} {p w v : Int} : (tellsT T p w v).bu = T.bu := by unfold tellsT; exact sd_bu
theorem tels_ma {T : Sh} {p w v : Int} : (tellsT T p w v).ma = T.ma := by unfold tellsT; exact sd_ma
theorem tels_rw {T : Sh} {p w v : Int} : (tellsT T p w v).rw = T.rw := by unfold tellsT; exact sd_rw
theorem tels_pe {T : Sh} {p w v : Int} : (tellsT T p w v).pe = T.pe := by unfold tellsT; exact sd_pe
theorem tels_en {T : Sh} {p w v : Int} : (tellsT T p w v).en = T.en := by unfold tellsT; exact sd_en
theorem tels_bk {T : Sh} {p w v : Int} : (tellsT T p w v).bk = T.bk := by unfold tellsT; exact sd_bk
theorem lev_mn {T : Sh} {p : Int} : (levT T p).mn = T.mn := by unfold levT remT; exact sd_mn
theorem lev_lot {T : Sh} {p : Int} : (levT T p).lot = T.lot := by unfold levT remT; exact sd_lot
theorem lev_st {T : Sh} {p : Int} : (levT T p).st = T.st := by unfold levT remT; exact sd_st
theorem lev_bu {T : Sh} {p : Int} : (levT T p).bu = T.bu := by unfold levT remT; exact sd_bu
theorem lev_pe {T : Sh} {p : Int} : (levT T p).pe = T.pe := by unfold levT remT; exact sd_pe
theorem lev_t7 {T : Sh} {p : Int} : (levT T p).t7 = T.t7 := by unfold levT remT; exact sd_t7
theorem lev_en {T : Sh} {p : Int} : (levT T p).en = T.en := by unfold levT remT; exact sd_en
theorem lev_bk {T : Sh} {p : Int} : (levT T p).bk = T.bk := by unfold levT remT; exact sd_bk
theorem rem_mn {T : Sh} {p w : Int} : (remT T p w).mn = T.mn := by unfold remT; exact sd_mn
theorem rem_lot {T : Sh} {p w : Int} : (remT T p w).lot = T.lot := by unfold remT; exact sd_lot
theorem rem_st {T : Sh} {p w : Int} : (remT T p w).st = T.st := by unfold remT; exact sd_st
theorem rem_bu {T : Sh} {p w : Int} : (remT T p w).bu = T.bu := by unfold remT; exact sd_bu
theorem rem_pe {T : Sh} {p w : Int} : (remT T p w).pe = T.pe := by unfold remT; exact sd_pe
theorem rem_t7 {T : Sh} {p w : Int} : (remT T p w).t7 = T.t7 := by unfold remT; exact sd_t7
theorem rem_en {T : Sh} {p w : Int} : (remT T p w).en = T.en := by unfold remT; exact sd_en
theorem rem_bk {T : Sh} {p w : Int} : (remT T p w).bk = T.bk := by unfold remT; exact sd_bk
theorem ent_mn {T : Sh} {p v : Int} : (entT v T p).mn = T.mn := by unfold entT; exact sd_mn
theorem ent_lot {T : Sh} {p v : Int} : (entT v T p).lot = T.lot := by unfold entT; exact sd_lot
theorem ent_st {T : Sh} {p v : Int} : (entT v T p).st = T.st := by unfold entT; exact sd_st
theorem ent_bu {T : Sh} {p v : Int} : (entT v T p).bu = T.bu := by unfold entT; exact sd_bu
theorem ent_en {T : Sh} {p v : Int} : (entT v T p).en = T.en := by unfold entT; exact sd_en
theorem ent_bk {T : Sh} {p v : Int} : (entT v T p).bk = T.bk := by unfold entT; exact sd_bk
theorem new_mn {T : Sh} {p w v : Int} : (newT T p w v).mn = T.mn := by unfold newT; exact sd_mn
theorem new_lot {T : Sh} {p w v : Int} : (newT T p w v).lot = T.lot := by unfold newT; exact sd_lot
theorem new_st {T : Sh} {p w v : Int} : (newT T p w v).st = T.st := by unfold newT; exact sd_st
theorem new_bu {T : Sh} {p w v : Int} : (newT T p w v).bu = T.bu := by unfold newT; exact sd_bu
theorem new_ma {T : Sh} {p w v : Int} : (newT T p w v).ma = T.ma := by unfold newT; exact sd_ma
theorem new_rw {T : Sh} {p w v : Int} : (newT T p w v).rw = T.rw := by unfold newT; exact sd_rw
theorem new_t7 {T : Sh} {p w v : Int} : (newT T p w v).t7 = T.t7 := by unfold newT; exact sd_t7
theorem new_en {T : Sh} {p w v : Int} : (newT T p w v).en = T.en := by unfold newT; exact sd_en
theorem new_bk {T : Sh} {p w v : Int} : (newT T p w v).bk = T.bk := by unfold newT; exact sd_bk
theorem sets_pe {T : Sh} {p w v : Int} : (setsT T p w v).pe = fu T.pe (7 * p + w) v := by unfold setsT; exact sd_pe
theorem tels_t7 {T : Sh} {p w v : Int} : (tellsT T p w v).t7 = fu T.t7 (7 * p + w) (T.t7 (7 * p + w) + v) := by unfold tellsT; exact sd_t7
