section
-- ===== PART A: goes FIRST, ahead of the names: the tables' words, and 'selects' of the private methods out of them =====
/-- a private method of a class that the tables say can be made, by its rows of tables_1 -/
def lw_okq (q : MethodName × Nat) : Prop := (q.1.cls ≠ "java/lang/invoke/MethodHandle" ∧ q.1.cls ≠ "java/lang/invoke/VarHandle") ∧ Cond.instantiable q.1.cls q.2 ∈ tables_1 ∧ Cond.privateMethod q.1 ∈ tables_1 ∧ Cond.instanceMethod q.1 ∈ tables_1
theorem lw_p0 : lw_okq (⟨"CalendarOrders", "zoneOf", "(I)LCalendarOrders$Zone;"⟩, 9) := ⟨⟨by decide +kernel, by decide +kernel⟩, List.mem_of_getElem? (i := 22) (by decide +kernel), List.mem_of_getElem? (i := 323) (by decide +kernel), List.mem_of_getElem? (i := 324) (by decide +kernel)⟩
theorem lw_p1 : lw_okq (⟨"java/lang/Throwable", "fillInStackTrace", "(I)Ljava/lang/Throwable;"⟩, 6) := ⟨⟨by decide +kernel, by decide +kernel⟩, List.mem_of_getElem? (i := 365) (by decide +kernel), List.mem_of_getElem? (i := 363) (by decide +kernel), List.mem_of_getElem? (i := 364) (by decide +kernel)⟩
theorem lw_p2 : lw_okq (⟨"CalendarOrders", "leastFreeNumber", "()I"⟩, 9) := ⟨⟨by decide +kernel, by decide +kernel⟩, List.mem_of_getElem? (i := 22) (by decide +kernel), List.mem_of_getElem? (i := 540) (by decide +kernel), List.mem_of_getElem? (i := 541) (by decide +kernel)⟩
theorem lw_p3 : lw_okq (⟨"CalendarOrders", "orderOf", "(I)LCalendarOrders$Order;"⟩, 9) := ⟨⟨by decide +kernel, by decide +kernel⟩, List.mem_of_getElem? (i := 22) (by decide +kernel), List.mem_of_getElem? (i := 695) (by decide +kernel), List.mem_of_getElem? (i := 696) (by decide +kernel)⟩
theorem lw_p4 : lw_okq (⟨"CalendarOrders", "ordersInUse", "()I"⟩, 9) := ⟨⟨by decide +kernel, by decide +kernel⟩, List.mem_of_getElem? (i := 22) (by decide +kernel), List.mem_of_getElem? (i := 701) (by decide +kernel), List.mem_of_getElem? (i := 702) (by decide +kernel)⟩
theorem lw_p5 : lw_okq (⟨"CalendarOrders", "workUntil", "(I)V"⟩, 9) := ⟨⟨by decide +kernel, by decide +kernel⟩, List.mem_of_getElem? (i := 22) (by decide +kernel), List.mem_of_getElem? (i := 905) (by decide +kernel), List.mem_of_getElem? (i := 906) (by decide +kernel)⟩
theorem lw_p6 : lw_okq (⟨"CalendarOrders", "leastDue", "(I)I"⟩, 9) := ⟨⟨by decide +kernel, by decide +kernel⟩, List.mem_of_getElem? (i := 22) (by decide +kernel), List.mem_of_getElem? (i := 909) (by decide +kernel), List.mem_of_getElem? (i := 910) (by decide +kernel)⟩
theorem lw_p7 : lw_okq (⟨"CalendarOrders", "endRuns", "()V"⟩, 9) := ⟨⟨by decide +kernel, by decide +kernel⟩, List.mem_of_getElem? (i := 22) (by decide +kernel), List.mem_of_getElem? (i := 913) (by decide +kernel), List.mem_of_getElem? (i := 914) (by decide +kernel)⟩
theorem lw_p8 : lw_okq (⟨"CalendarOrders", "firstToEnd", "()LCalendarOrders$Order;"⟩, 9) := ⟨⟨by decide +kernel, by decide +kernel⟩, List.mem_of_getElem? (i := 22) (by decide +kernel), List.mem_of_getElem? (i := 917) (by decide +kernel), List.mem_of_getElem? (i := 918) (by decide +kernel)⟩
theorem lw_p9 : lw_okq (⟨"CalendarOrders", "begin", "(LCalendarOrders$Order;II)V"⟩, 9) := ⟨⟨by decide +kernel, by decide +kernel⟩, List.mem_of_getElem? (i := 22) (by decide +kernel), List.mem_of_getElem? (i := 933) (by decide +kernel), List.mem_of_getElem? (i := 934) (by decide +kernel)⟩
theorem lw_p10 : lw_okq (⟨"CalendarOrders", "becomeDue", "(LCalendarOrders$Order;I)V"⟩, 9) := ⟨⟨by decide +kernel, by decide +kernel⟩, List.mem_of_getElem? (i := 22) (by decide +kernel), List.mem_of_getElem? (i := 941) (by decide +kernel), List.mem_of_getElem? (i := 942) (by decide +kernel)⟩
theorem lw_p11 : lw_okq (⟨"CalendarOrders", "makeUpLatest", "(LCalendarOrders$Order;)V"⟩, 9) := ⟨⟨by decide +kernel, by decide +kernel⟩, List.mem_of_getElem? (i := 22) (by decide +kernel), List.mem_of_getElem? (i := 968) (by decide +kernel), List.mem_of_getElem? (i := 969) (by decide +kernel)⟩
theorem lw_p12 : lw_okq (⟨"CalendarOrders", "firstMissed", "(LCalendarOrders$Order;)I"⟩, 9) := ⟨⟨by decide +kernel, by decide +kernel⟩, List.mem_of_getElem? (i := 22) (by decide +kernel), List.mem_of_getElem? (i := 972) (by decide +kernel), List.mem_of_getElem? (i := 973) (by decide +kernel)⟩
theorem lw_p13 : lw_okq (⟨"CalendarOrders", "makeUpAll", "(LCalendarOrders$Order;)V"⟩, 9) := ⟨⟨by decide +kernel, by decide +kernel⟩, List.mem_of_getElem? (i := 22) (by decide +kernel), List.mem_of_getElem? (i := 976) (by decide +kernel), List.mem_of_getElem? (i := 977) (by decide +kernel)⟩
theorem lw_p14 : lw_okq (⟨"CalendarOrders", "runsUnderWay", "()I"⟩, 9) := ⟨⟨by decide +kernel, by decide +kernel⟩, List.mem_of_getElem? (i := 22) (by decide +kernel), List.mem_of_getElem? (i := 1000) (by decide +kernel), List.mem_of_getElem? (i := 1001) (by decide +kernel)⟩
theorem lw_p15 : lw_okq (⟨"CalendarOrdersModel", "wrong", "(I)I"⟩, 60) := ⟨⟨by decide +kernel, by decide +kernel⟩, List.mem_of_getElem? (i := 1004) (by decide +kernel), List.mem_of_getElem? (i := 1210) (by decide +kernel), List.mem_of_getElem? (i := 1211) (by decide +kernel)⟩
def lw_privs_1 : List (MethodName × Nat) := [(⟨"CalendarOrders", "zoneOf", "(I)LCalendarOrders$Zone;"⟩, 9), (⟨"java/lang/Throwable", "fillInStackTrace", "(I)Ljava/lang/Throwable;"⟩, 6), (⟨"CalendarOrders", "leastFreeNumber", "()I"⟩, 9), (⟨"CalendarOrders", "orderOf", "(I)LCalendarOrders$Order;"⟩, 9), (⟨"CalendarOrders", "ordersInUse", "()I"⟩, 9), (⟨"CalendarOrders", "workUntil", "(I)V"⟩, 9), (⟨"CalendarOrders", "leastDue", "(I)I"⟩, 9), (⟨"CalendarOrders", "endRuns", "()V"⟩, 9), (⟨"CalendarOrders", "firstToEnd", "()LCalendarOrders$Order;"⟩, 9), (⟨"CalendarOrders", "begin", "(LCalendarOrders$Order;II)V"⟩, 9), (⟨"CalendarOrders", "becomeDue", "(LCalendarOrders$Order;I)V"⟩, 9), (⟨"CalendarOrders", "makeUpLatest", "(LCalendarOrders$Order;)V"⟩, 9), (⟨"CalendarOrders", "firstMissed", "(LCalendarOrders$Order;)I"⟩, 9), (⟨"CalendarOrders", "makeUpAll", "(LCalendarOrders$Order;)V"⟩, 9), (⟨"CalendarOrders", "runsUnderWay", "()I"⟩, 9), (⟨"CalendarOrdersModel", "wrong", "(I)I"⟩, 60)]
theorem lw_r1 : ∀ q ∈ lw_privs_1, lw_okq q := List.forall_mem_cons.mpr ⟨lw_p0, List.forall_mem_cons.mpr ⟨lw_p1, List.forall_mem_cons.mpr ⟨lw_p2, List.forall_mem_cons.mpr ⟨lw_p3, List.forall_mem_cons.mpr ⟨lw_p4, List.forall_mem_cons.mpr ⟨lw_p5, List.forall_mem_cons.mpr ⟨lw_p6, List.forall_mem_cons.mpr ⟨lw_p7, List.forall_mem_cons.mpr ⟨lw_p8, List.forall_mem_cons.mpr ⟨lw_p9, List.forall_mem_cons.mpr ⟨lw_p10, List.forall_mem_cons.mpr ⟨lw_p11, List.forall_mem_cons.mpr ⟨lw_p12, List.forall_mem_cons.mpr ⟨lw_p13, List.forall_mem_cons.mpr ⟨lw_p14, List.forall_mem_cons.mpr ⟨lw_p15, fun _ h => absurd h List.not_mem_nil⟩⟩⟩⟩⟩⟩⟩⟩⟩⟩⟩⟩⟩⟩⟩⟩
theorem lw_p16 : lw_okq (⟨"CalendarOrdersModel", "stretch", "(II)I"⟩, 60) := ⟨⟨by decide +kernel, by decide +kernel⟩, List.mem_of_getElem? (i := 1004) (by decide +kernel), List.mem_of_getElem? (i := 1220) (by decide +kernel), List.mem_of_getElem? (i := 1221) (by decide +kernel)⟩
theorem lw_p17 : lw_okq (⟨"CalendarOrdersModel", "offsetOf", "(II)I"⟩, 60) := ⟨⟨by decide +kernel, by decide +kernel⟩, List.mem_of_getElem? (i := 1004) (by decide +kernel), List.mem_of_getElem? (i := 1224) (by decide +kernel), List.mem_of_getElem? (i := 1225) (by decide +kernel)⟩
theorem lw_p18 : lw_okq (⟨"CalendarOrdersModel", "date", "(I)V"⟩, 60) := ⟨⟨by decide +kernel, by decide +kernel⟩, List.mem_of_getElem? (i := 1004) (by decide +kernel), List.mem_of_getElem? (i := 1231) (by decide +kernel), List.mem_of_getElem? (i := 1232) (by decide +kernel)⟩
theorem lw_p19 : lw_okq (⟨"CalendarOrdersModel", "beginOf", "(II)I"⟩, 60) := ⟨⟨by decide +kernel, by decide +kernel⟩, List.mem_of_getElem? (i := 1004) (by decide +kernel), List.mem_of_getElem? (i := 1259) (by decide +kernel), List.mem_of_getElem? (i := 1260) (by decide +kernel)⟩
theorem lw_p20 : lw_okq (⟨"CalendarOrdersModel", "endOf", "(II)I"⟩, 60) := ⟨⟨by decide +kernel, by decide +kernel⟩, List.mem_of_getElem? (i := 1004) (by decide +kernel), List.mem_of_getElem? (i := 1263) (by decide +kernel), List.mem_of_getElem? (i := 1264) (by decide +kernel)⟩
theorem lw_p21 : lw_okq (⟨"CalendarOrdersModel", "readText", "()V"⟩, 60) := ⟨⟨by decide +kernel, by decide +kernel⟩, List.mem_of_getElem? (i := 1004) (by decide +kernel), List.mem_of_getElem? (i := 1280) (by decide +kernel), List.mem_of_getElem? (i := 1281) (by decide +kernel)⟩
theorem lw_p22 : lw_okq (⟨"CalendarOrdersModel", "blanks", "()V"⟩, 60) := ⟨⟨by decide +kernel, by decide +kernel⟩, List.mem_of_getElem? (i := 1004) (by decide +kernel), List.mem_of_getElem? (i := 1284) (by decide +kernel), List.mem_of_getElem? (i := 1285) (by decide +kernel)⟩
theorem lw_p23 : lw_okq (⟨"CalendarOrdersModel", "sign", "()I"⟩, 60) := ⟨⟨by decide +kernel, by decide +kernel⟩, List.mem_of_getElem? (i := 1004) (by decide +kernel), List.mem_of_getElem? (i := 1288) (by decide +kernel), List.mem_of_getElem? (i := 1289) (by decide +kernel)⟩
theorem lw_p24 : lw_okq (⟨"CalendarOrdersModel", "short0", "()V"⟩, 60) := ⟨⟨by decide +kernel, by decide +kernel⟩, List.mem_of_getElem? (i := 1004) (by decide +kernel), List.mem_of_getElem? (i := 1292) (by decide +kernel), List.mem_of_getElem? (i := 1293) (by decide +kernel)⟩
theorem lw_p25 : lw_okq (⟨"CalendarOrdersModel", "word", "(JI)Z"⟩, 60) := ⟨⟨by decide +kernel, by decide +kernel⟩, List.mem_of_getElem? (i := 1004) (by decide +kernel), List.mem_of_getElem? (i := 1297) (by decide +kernel), List.mem_of_getElem? (i := 1298) (by decide +kernel)⟩
theorem lw_p26 : lw_okq (⟨"CalendarOrdersModel", "fail", "(II)V"⟩, 60) := ⟨⟨by decide +kernel, by decide +kernel⟩, List.mem_of_getElem? (i := 1004) (by decide +kernel), List.mem_of_getElem? (i := 1302) (by decide +kernel), List.mem_of_getElem? (i := 1303) (by decide +kernel)⟩
theorem lw_p27 : lw_okq (⟨"CalendarOrdersModel", "range", "(IIII)V"⟩, 60) := ⟨⟨by decide +kernel, by decide +kernel⟩, List.mem_of_getElem? (i := 1004) (by decide +kernel), List.mem_of_getElem? (i := 1310) (by decide +kernel), List.mem_of_getElem? (i := 1311) (by decide +kernel)⟩
theorem lw_p28 : lw_okq (⟨"CalendarOrdersModel", "mark", "(II)V"⟩, 60) := ⟨⟨by decide +kernel, by decide +kernel⟩, List.mem_of_getElem? (i := 1004) (by decide +kernel), List.mem_of_getElem? (i := 1314) (by decide +kernel), List.mem_of_getElem? (i := 1315) (by decide +kernel)⟩
theorem lw_p29 : lw_okq (⟨"CalendarOrdersModel", "readField", "(I)V"⟩, 60) := ⟨⟨by decide +kernel, by decide +kernel⟩, List.mem_of_getElem? (i := 1004) (by decide +kernel), List.mem_of_getElem? (i := 1318) (by decide +kernel), List.mem_of_getElem? (i := 1319) (by decide +kernel)⟩
theorem lw_p30 : lw_okq (⟨"CalendarOrdersModel", "item", "(I)V"⟩, 60) := ⟨⟨by decide +kernel, by decide +kernel⟩, List.mem_of_getElem? (i := 1004) (by decide +kernel), List.mem_of_getElem? (i := 1322) (by decide +kernel), List.mem_of_getElem? (i := 1323) (by decide +kernel)⟩
theorem lw_p31 : lw_okq (⟨"CalendarOrdersModel", "step", "()I"⟩, 60) := ⟨⟨by decide +kernel, by decide +kernel⟩, List.mem_of_getElem? (i := 1004) (by decide +kernel), List.mem_of_getElem? (i := 1326) (by decide +kernel), List.mem_of_getElem? (i := 1327) (by decide +kernel)⟩
def lw_privs_2 : List (MethodName × Nat) := [(⟨"CalendarOrdersModel", "stretch", "(II)I"⟩, 60), (⟨"CalendarOrdersModel", "offsetOf", "(II)I"⟩, 60), (⟨"CalendarOrdersModel", "date", "(I)V"⟩, 60), (⟨"CalendarOrdersModel", "beginOf", "(II)I"⟩, 60), (⟨"CalendarOrdersModel", "endOf", "(II)I"⟩, 60), (⟨"CalendarOrdersModel", "readText", "()V"⟩, 60), (⟨"CalendarOrdersModel", "blanks", "()V"⟩, 60), (⟨"CalendarOrdersModel", "sign", "()I"⟩, 60), (⟨"CalendarOrdersModel", "short0", "()V"⟩, 60), (⟨"CalendarOrdersModel", "word", "(JI)Z"⟩, 60), (⟨"CalendarOrdersModel", "fail", "(II)V"⟩, 60), (⟨"CalendarOrdersModel", "range", "(IIII)V"⟩, 60), (⟨"CalendarOrdersModel", "mark", "(II)V"⟩, 60), (⟨"CalendarOrdersModel", "readField", "(I)V"⟩, 60), (⟨"CalendarOrdersModel", "item", "(I)V"⟩, 60), (⟨"CalendarOrdersModel", "step", "()I"⟩, 60)]
theorem lw_r2 : ∀ q ∈ lw_privs_2, lw_okq q := List.forall_mem_cons.mpr ⟨lw_p16, List.forall_mem_cons.mpr ⟨lw_p17, List.forall_mem_cons.mpr ⟨lw_p18, List.forall_mem_cons.mpr ⟨lw_p19, List.forall_mem_cons.mpr ⟨lw_p20, List.forall_mem_cons.mpr ⟨lw_p21, List.forall_mem_cons.mpr ⟨lw_p22, List.forall_mem_cons.mpr ⟨lw_p23, List.forall_mem_cons.mpr ⟨lw_p24, List.forall_mem_cons.mpr ⟨lw_p25, List.forall_mem_cons.mpr ⟨lw_p26, List.forall_mem_cons.mpr ⟨lw_p27, List.forall_mem_cons.mpr ⟨lw_p28, List.forall_mem_cons.mpr ⟨lw_p29, List.forall_mem_cons.mpr ⟨lw_p30, List.forall_mem_cons.mpr ⟨lw_p31, fun _ h => absurd h List.not_mem_nil⟩⟩⟩⟩⟩⟩⟩⟩⟩⟩⟩⟩⟩⟩⟩⟩
theorem lw_p32 : lw_okq (⟨"CalendarOrdersModel", "bounded", "(III)I"⟩, 60) := ⟨⟨by decide +kernel, by decide +kernel⟩, List.mem_of_getElem? (i := 1004) (by decide +kernel), List.mem_of_getElem? (i := 1330) (by decide +kernel), List.mem_of_getElem? (i := 1331) (by decide +kernel)⟩
theorem lw_p33 : lw_okq (⟨"CalendarOrdersModel", "figures", "(I)I"⟩, 60) := ⟨⟨by decide +kernel, by decide +kernel⟩, List.mem_of_getElem? (i := 1004) (by decide +kernel), List.mem_of_getElem? (i := 1334) (by decide +kernel), List.mem_of_getElem? (i := 1335) (by decide +kernel)⟩
theorem lw_p34 : lw_okq (⟨"CalendarOrdersModel", "isFigure", "()Z"⟩, 60) := ⟨⟨by decide +kernel, by decide +kernel⟩, List.mem_of_getElem? (i := 1004) (by decide +kernel), List.mem_of_getElem? (i := 1338) (by decide +kernel), List.mem_of_getElem? (i := 1339) (by decide +kernel)⟩
theorem lw_p35 : lw_okq (⟨"CalendarOrdersModel", "lastDay", "()V"⟩, 60) := ⟨⟨by decide +kernel, by decide +kernel⟩, List.mem_of_getElem? (i := 1004) (by decide +kernel), List.mem_of_getElem? (i := 1350) (by decide +kernel), List.mem_of_getElem? (i := 1351) (by decide +kernel)⟩
theorem lw_p36 : lw_okq (⟨"CalendarOrdersModel", "valueOf", "(I)I"⟩, 60) := ⟨⟨by decide +kernel, by decide +kernel⟩, List.mem_of_getElem? (i := 1004) (by decide +kernel), List.mem_of_getElem? (i := 1354) (by decide +kernel), List.mem_of_getElem? (i := 1355) (by decide +kernel)⟩
theorem lw_p37 : lw_okq (⟨"CalendarOrdersModel", "named", "(III)I"⟩, 60) := ⟨⟨by decide +kernel, by decide +kernel⟩, List.mem_of_getElem? (i := 1004) (by decide +kernel), List.mem_of_getElem? (i := 1360) (by decide +kernel), List.mem_of_getElem? (i := 1361) (by decide +kernel)⟩
theorem lw_p38 : lw_okq (⟨"CalendarOrdersModel", "none", "(I)Z"⟩, 60) := ⟨⟨by decide +kernel, by decide +kernel⟩, List.mem_of_getElem? (i := 1004) (by decide +kernel), List.mem_of_getElem? (i := 1394) (by decide +kernel), List.mem_of_getElem? (i := 1395) (by decide +kernel)⟩
theorem lw_p39 : lw_okq (⟨"CalendarOrdersModel", "dropRun", "(I)V"⟩, 60) := ⟨⟨by decide +kernel, by decide +kernel⟩, List.mem_of_getElem? (i := 1004) (by decide +kernel), List.mem_of_getElem? (i := 1399) (by decide +kernel), List.mem_of_getElem? (i := 1400) (by decide +kernel)⟩
theorem lw_p40 : lw_okq (⟨"CalendarOrdersModel", "orders", "()I"⟩, 60) := ⟨⟨by decide +kernel, by decide +kernel⟩, List.mem_of_getElem? (i := 1004) (by decide +kernel), List.mem_of_getElem? (i := 1403) (by decide +kernel), List.mem_of_getElem? (i := 1404) (by decide +kernel)⟩
theorem lw_p41 : lw_okq (⟨"CalendarOrdersModel", "runsOf", "(I)I"⟩, 60) := ⟨⟨by decide +kernel, by decide +kernel⟩, List.mem_of_getElem? (i := 1004) (by decide +kernel), List.mem_of_getElem? (i := 1411) (by decide +kernel), List.mem_of_getElem? (i := 1412) (by decide +kernel)⟩
theorem lw_p42 : lw_okq (⟨"CalendarOrdersModel", "dayAlone", "(IIII)Z"⟩, 60) := ⟨⟨by decide +kernel, by decide +kernel⟩, List.mem_of_getElem? (i := 1004) (by decide +kernel), List.mem_of_getElem? (i := 1424) (by decide +kernel), List.mem_of_getElem? (i := 1425) (by decide +kernel)⟩
theorem lw_p43 : lw_okq (⟨"CalendarOrdersModel", "weekAlone", "(IIII)Z"⟩, 60) := ⟨⟨by decide +kernel, by decide +kernel⟩, List.mem_of_getElem? (i := 1004) (by decide +kernel), List.mem_of_getElem? (i := 1434) (by decide +kernel), List.mem_of_getElem? (i := 1435) (by decide +kernel)⟩
theorem lw_p44 : lw_okq (⟨"CalendarOrdersModel", "bothDay", "(IIII)Z"⟩, 60) := ⟨⟨by decide +kernel, by decide +kernel⟩, List.mem_of_getElem? (i := 1004) (by decide +kernel), List.mem_of_getElem? (i := 1438) (by decide +kernel), List.mem_of_getElem? (i := 1439) (by decide +kernel)⟩
theorem lw_p45 : lw_okq (⟨"CalendarOrdersModel", "whole", "(IIII)Z"⟩, 60) := ⟨⟨by decide +kernel, by decide +kernel⟩, List.mem_of_getElem? (i := 1004) (by decide +kernel), List.mem_of_getElem? (i := 1442) (by decide +kernel), List.mem_of_getElem? (i := 1443) (by decide +kernel)⟩
theorem lw_p46 : lw_okq (⟨"CalendarOrdersModel", "isMatch", "(II)Z"⟩, 60) := ⟨⟨by decide +kernel, by decide +kernel⟩, List.mem_of_getElem? (i := 1004) (by decide +kernel), List.mem_of_getElem? (i := 1452) (by decide +kernel), List.mem_of_getElem? (i := 1453) (by decide +kernel)⟩
theorem lw_p47 : lw_okq (⟨"CalendarOrdersModel", "isTime", "(II)Z"⟩, 60) := ⟨⟨by decide +kernel, by decide +kernel⟩, List.mem_of_getElem? (i := 1004) (by decide +kernel), List.mem_of_getElem? (i := 1456) (by decide +kernel), List.mem_of_getElem? (i := 1457) (by decide +kernel)⟩
def lw_privs_3 : List (MethodName × Nat) := [(⟨"CalendarOrdersModel", "bounded", "(III)I"⟩, 60), (⟨"CalendarOrdersModel", "figures", "(I)I"⟩, 60), (⟨"CalendarOrdersModel", "isFigure", "()Z"⟩, 60), (⟨"CalendarOrdersModel", "lastDay", "()V"⟩, 60), (⟨"CalendarOrdersModel", "valueOf", "(I)I"⟩, 60), (⟨"CalendarOrdersModel", "named", "(III)I"⟩, 60), (⟨"CalendarOrdersModel", "none", "(I)Z"⟩, 60), (⟨"CalendarOrdersModel", "dropRun", "(I)V"⟩, 60), (⟨"CalendarOrdersModel", "orders", "()I"⟩, 60), (⟨"CalendarOrdersModel", "runsOf", "(I)I"⟩, 60), (⟨"CalendarOrdersModel", "dayAlone", "(IIII)Z"⟩, 60), (⟨"CalendarOrdersModel", "weekAlone", "(IIII)Z"⟩, 60), (⟨"CalendarOrdersModel", "bothDay", "(IIII)Z"⟩, 60), (⟨"CalendarOrdersModel", "whole", "(IIII)Z"⟩, 60), (⟨"CalendarOrdersModel", "isMatch", "(II)Z"⟩, 60), (⟨"CalendarOrdersModel", "isTime", "(II)Z"⟩, 60)]
theorem lw_r3 : ∀ q ∈ lw_privs_3, lw_okq q := List.forall_mem_cons.mpr ⟨lw_p32, List.forall_mem_cons.mpr ⟨lw_p33, List.forall_mem_cons.mpr ⟨lw_p34, List.forall_mem_cons.mpr ⟨lw_p35, List.forall_mem_cons.mpr ⟨lw_p36, List.forall_mem_cons.mpr ⟨lw_p37, List.forall_mem_cons.mpr ⟨lw_p38, List.forall_mem_cons.mpr ⟨lw_p39, List.forall_mem_cons.mpr ⟨lw_p40, List.forall_mem_cons.mpr ⟨lw_p41, List.forall_mem_cons.mpr ⟨lw_p42, List.forall_mem_cons.mpr ⟨lw_p43, List.forall_mem_cons.mpr ⟨lw_p44, List.forall_mem_cons.mpr ⟨lw_p45, List.forall_mem_cons.mpr ⟨lw_p46, List.forall_mem_cons.mpr ⟨lw_p47, fun _ h => absurd h List.not_mem_nil⟩⟩⟩⟩⟩⟩⟩⟩⟩⟩⟩⟩⟩⟩⟩⟩
theorem lw_p48 : lw_okq (⟨"CalendarOrdersModel", "walk", "(IIII)V"⟩, 60) := ⟨⟨by decide +kernel, by decide +kernel⟩, List.mem_of_getElem? (i := 1004) (by decide +kernel), List.mem_of_getElem? (i := 1466) (by decide +kernel), List.mem_of_getElem? (i := 1467) (by decide +kernel)⟩
theorem lw_p49 : lw_okq (⟨"CalendarOrdersModel", "look", "(IIIII)V"⟩, 60) := ⟨⟨by decide +kernel, by decide +kernel⟩, List.mem_of_getElem? (i := 1004) (by decide +kernel), List.mem_of_getElem? (i := 1470) (by decide +kernel), List.mem_of_getElem? (i := 1471) (by decide +kernel)⟩
theorem lw_p50 : lw_okq (⟨"CalendarOrdersModel", "ending", "(I)I"⟩, 60) := ⟨⟨by decide +kernel, by decide +kernel⟩, List.mem_of_getElem? (i := 1004) (by decide +kernel), List.mem_of_getElem? (i := 1493) (by decide +kernel), List.mem_of_getElem? (i := 1494) (by decide +kernel)⟩
theorem lw_p51 : lw_okq (⟨"CalendarOrdersModel", "end", "(II)V"⟩, 60) := ⟨⟨by decide +kernel, by decide +kernel⟩, List.mem_of_getElem? (i := 1004) (by decide +kernel), List.mem_of_getElem? (i := 1497) (by decide +kernel), List.mem_of_getElem? (i := 1498) (by decide +kernel)⟩
theorem lw_p52 : lw_okq (⟨"CalendarOrdersModel", "line", "(IIII)V"⟩, 60) := ⟨⟨by decide +kernel, by decide +kernel⟩, List.mem_of_getElem? (i := 1004) (by decide +kernel), List.mem_of_getElem? (i := 1501) (by decide +kernel), List.mem_of_getElem? (i := 1502) (by decide +kernel)⟩
theorem lw_p53 : lw_okq (⟨"CalendarOrdersModel", "begin", "(III)V"⟩, 60) := ⟨⟨by decide +kernel, by decide +kernel⟩, List.mem_of_getElem? (i := 1004) (by decide +kernel), List.mem_of_getElem? (i := 1505) (by decide +kernel), List.mem_of_getElem? (i := 1506) (by decide +kernel)⟩
theorem lw_p54 : lw_okq (⟨"CalendarOrdersModel", "due", "(II)V"⟩, 60) := ⟨⟨by decide +kernel, by decide +kernel⟩, List.mem_of_getElem? (i := 1004) (by decide +kernel), List.mem_of_getElem? (i := 1509) (by decide +kernel), List.mem_of_getElem? (i := 1510) (by decide +kernel)⟩
theorem lw_p55 : lw_okq (⟨"CalendarOrdersModel", "missed", "(I)V"⟩, 60) := ⟨⟨by decide +kernel, by decide +kernel⟩, List.mem_of_getElem? (i := 1004) (by decide +kernel), List.mem_of_getElem? (i := 1521) (by decide +kernel), List.mem_of_getElem? (i := 1522) (by decide +kernel)⟩
def lw_privs_4 : List (MethodName × Nat) := [(⟨"CalendarOrdersModel", "walk", "(IIII)V"⟩, 60), (⟨"CalendarOrdersModel", "look", "(IIIII)V"⟩, 60), (⟨"CalendarOrdersModel", "ending", "(I)I"⟩, 60), (⟨"CalendarOrdersModel", "end", "(II)V"⟩, 60), (⟨"CalendarOrdersModel", "line", "(IIII)V"⟩, 60), (⟨"CalendarOrdersModel", "begin", "(III)V"⟩, 60), (⟨"CalendarOrdersModel", "due", "(II)V"⟩, 60), (⟨"CalendarOrdersModel", "missed", "(I)V"⟩, 60)]
theorem lw_r4 : ∀ q ∈ lw_privs_4, lw_okq q := List.forall_mem_cons.mpr ⟨lw_p48, List.forall_mem_cons.mpr ⟨lw_p49, List.forall_mem_cons.mpr ⟨lw_p50, List.forall_mem_cons.mpr ⟨lw_p51, List.forall_mem_cons.mpr ⟨lw_p52, List.forall_mem_cons.mpr ⟨lw_p53, List.forall_mem_cons.mpr ⟨lw_p54, List.forall_mem_cons.mpr ⟨lw_p55, fun _ h => absurd h List.not_mem_nil⟩⟩⟩⟩⟩⟩⟩⟩
def lw_privs : List (MethodName × Nat) := lw_privs_1 ++ (lw_privs_2 ++ (lw_privs_3 ++ (lw_privs_4)))
def lw_tbl : List Cond := k2_sels lw_privs ++ tables_1
theorem lw_privs_ok : ∀ q ∈ lw_privs, lw_okq q := by
  show ∀ q ∈ lw_privs_1 ++ (lw_privs_2 ++ (lw_privs_3 ++ (lw_privs_4))), lw_okq q
  exact List.forall_mem_append.mpr ⟨lw_r1, List.forall_mem_append.mpr ⟨lw_r2, List.forall_mem_append.mpr ⟨lw_r3, lw_r4⟩⟩⟩
end
section
/-! ===== BEGIN words of one list among another's, by their places ===== -/
theorem goodIn_r {big : List Cond} (ws : List Cond) (ps : List Nat) (hp : ws = ps.filterMap (fun i => big[i]?)) (h : ws.all goodWord = true) : GoodIn big ws := by
  intro w hw
  have h1 := List.all_eq_true.mp h w hw
  rw [hp] at hw
  obtain ⟨i, -, hi⟩ := List.mem_filterMap.mp hw
  have hm : w ∈ big := by first | exact List.mem_of_getElem? hi | exact List.getElem?_mem hi
  exact ⟨hm, good_of_word h1⟩
theorem goodIn_app {big a b : List Cond} (ha : GoodIn big a) (hb : GoodIn big b) : GoodIn big (a ++ b) := fun w h => (List.mem_append.mp h).elim (ha w) (hb w)
theorem goodIn_ca {big a b : List Cond} {c : Cond} (ha : GoodIn big (c :: a)) (hb : GoodIn big b) : GoodIn big (c :: (a ++ b)) := fun w h => (List.mem_cons.mp h).elim (fun e => ha w (List.mem_cons.mpr (Or.inl e))) (fun h => (List.mem_append.mp h).elim (fun h => ha w (List.mem_cons.mpr (Or.inr h))) (hb w))
theorem goodIn_sub {big ws : List Cond} (hm : ∀ w ∈ ws, w ∈ big) (h : ws.all goodWord = true) : GoodIn big ws := fun w hw => ⟨hm w hw, good_of_word (List.all_eq_true.mp h w hw)⟩
/-! ===== END ===== -/

/-! ===== BEGIN exceptions that leave a method, and their catching by the caller (launches without stack traces) ===== -/
section VXA
/-! The laws vx_back, vx_callV, vx_callS, vx_callSW, vx_throw0, vx_throwS follow proofs of the library, with one case more: JvmDerived/Free/Laws.lean (Back.of_free), Shelf42/LK1.lean (callV, callS), Shelf/KitTraced.lean (throwNew0V, throwNewS). -/
/-- where a method has thrown q: the class by its name, the cell, what was written, the world -/
def vx_T (XC : String → State → State → Prop) (st : State) (q : Addr) (t : State) (mc ms : Nat) (free : Addr → Prop) : Prop :=
  ∃ (E : String) (ce : Cell) (L : List Loc), XC E st t ∧ t.heap[q]? = some ce ∧ ce.vm = .none ∧ st.vm.findClass E = some ce.cls ∧ st.WarmedH t.vm ∧ st.sameButNew ({ t with vm := st.vm } : State) L mc ms ∧ ∀ z ∈ L, free z.base
def vx_Q (Qc : Array Value → State → Outcome → State → Prop) (XC : String → State → State → Prop) (mc ms : Nat) (free : Addr → Prop) : Array Value → State → Outcome → State → Prop := fun a st o t =>
  (Qc a st o t ∧ ∃ L, FrameEnd st o t L mc ms ∧ ∀ q ∈ L, free q.base) ∨ ∃ q, o = .threw q ∧ vx_T XC st q t mc ms free
/-- a callee that returns or throws -/
def vx_Met (l : Launch) (y : MethodName) (ws : List Cond) (rm : Room) (Pc : Array Value → State → Prop) (Qc : Array Value → State → Outcome → State → Prop) (XC : String → State → State → Prop) (mc ms : Nat) (free : Addr → Prop) : Prop :=
  MetFree l y (headSpec ws rm) Pc (fun _ _ _ _ _ => True) (vx_Q Qc XC mc ms free)
def vx_Post (XC : String → State → State → Prop) (mc ms : Nat) (free : Addr → Prop) : Pt → Array Value → Addr → Pt → Prop := fun A a q B =>
  ∃ (g : JFrame) (mk : MethodId) (t : State) (L : List Loc) (E : String) (ce : Cell), B.U.heap = t.heap ∧ B.U.vm = t.vm ∧ XC E (A.U.calling g mk a) t ∧ t.heap[q]? = some ce ∧ ce.vm = .none ∧ A.U.vm.findClass E = some ce.cls ∧ B.locs = A.locs ++ L ∧ (∀ z ∈ L, free z.base) ∧ B.cells = A.cells + mc ∧ B.slots = A.slots + ms
def vx_Back (l : Launch) (R : Room) (p : Program) (e : Env) (below : List Frame) (s : State) (sargs : Array Value) (y : MethodName) (len W9 : Nat)
    (Pre : Pt → Array Value → Prop) (Post : Pt → Array Value → Option Value → Pt → Prop) (PostX : Pt → Array Value → Addr → Pt → Prop) : Prop :=
  ∀ (m : MethodId) (meth : Method) (c : Code) (A : Pt) (g : JFrame) (ig : Instr) (mk : MethodId) (a : Array Value),
    Stand p l e R s m sargs below meth c A.U A.locs A.cells A.slots → g.method = m → g.locals.size = c.maxLocals → decode c.code g.pc = .ok (ig, len) →
    2 * g.monitorRoom + (g.stack.map fun v => v.category).sum ≤ W9 → A.U.methodNamed? y = some mk → Pre A a →
    (∃ (v : Option Value) (B : Pt), Stand p l e R s m sargs below meth c B.U B.locs B.cells B.slots ∧ Post A a v B ∧
      Steps p.tables e below (doInvoke e (A.U.setTop g) [] mk a).1 (B.U.setTop { g with pc := g.pc + len, stack := v.toList ++ g.stack })) ∨
    (∃ (q : Addr) (B : Pt), Stand p l e R s m sargs below meth c B.U B.locs B.cells B.slots ∧ PostX A a q B ∧
      Steps p.tables e below (doInvoke e (A.U.setTop g) [] mk a).1 ((B.U.setTop g).pushFrame (.throwing q)))
section Payer
variable {l : Launch} {R : Room} {p : Program} {e : Env} {below : List Frame} {s : State} {sargs : Array Value} {y : MethodName} {len W9 : Nat}
theorem vx_back {ws : List Cond} {rm : Room} {Pc : Array Value → State → Prop} {Qc : Array Value → State → Outcome → State → Prop} {XC : String → State → State → Prop} {mc ms : Nat} {free : Addr → Prop} {bytes : ByteArray} {maxL : Nat} {ret : Option FieldType}
    (hM : vx_Met l y ws rm Pc Qc XC mc ms free) (hblind : FrameBlind Pc) (hrc : rm.cells = mc) (hrs : rm.slots = ms)
    (hframes : rm.frames + 1 ≤ R.frames) (hlocals : W9 + (maxL + 11) + rm.locals ≤ R.locals)
    (hws : ∀ w ∈ ws, ∀ a' U, s.WarmedH U.vm → w.before a' U = true) (hcode : Cond.code y bytes maxL ret ∈ ws) (hinit : ∀ a' U, s.WarmedH U.vm → (Cond.initialized y.cls).before a' U = true) :
    vx_Back l R p e below s sargs y len W9 (PreOf R mc ms Pc) (PostOf Qc mc ms free) (vx_Post XC mc ms free) := by
  intro m meth c A g ig mk a X hg hsize hdg hW hn hp
  have h1 : (headSpec ws rm).pre.before a A.U = true := atoms_intro fun w hw => hws w hw _ _ X.warmed
  have h2 : (Cond.code y bytes maxL ret).before a A.U = true := hws _ hcode _ _ X.warmed
  have h3 : (Cond.initialized y.cls).before a A.U = true := hinit _ _ X.warmed
  have h4 : A.cells + (headSpec ws rm).room.cells ≤ R.cells := by rw [show (headSpec ws rm).room.cells = mc from hrc]; exact hp.1
  have h5 : A.slots + (headSpec ws rm).room.slots ≤ R.slots := by rw [show (headSpec ws rm).room.slots = ms from hrs]; exact hp.2.1
  have hPc : Pc a (A.U.calling g mk a) := hblind _ _ _ _ hp.2.2
  obtain ⟨U, Ls, c0, s0⟩ := A
  dsimp only [Pt.U, Pt.locs, Pt.cells, Pt.slots] at h1 h2 h3 h4 h5 X hn hPc ⊢
  obtain ⟨methY, cY, hmY, hcY, -, hlY, -, -, -, -⟩ := Cond.code_spec hn h2
  obtain ⟨kY, hkY, -⟩ := className_of_methodNamed hn
  have hinitY : kY.init = .initialized := Cond.initialized_spec (findClass_of_methodNamed hn) hkY h3
  have h : At U g.method c below := by rw [hg]; exact X.here
  have hlocals9 : W9 + (maxL + 11) + (headSpec ws rm).room.locals ≤ R.locals := hlocals
  have happ : (headSpec ws rm).appliesLoose y e.platform (U.calling g mk a) = true :=
    Spec.appliesLoose_calling (g := g) h hdg hn hkY hinitY
      (X.room_calling (g := g) (R' := (headSpec ws rm).room) hsize hmY hcY hframes (by rw [hlY]; omega) h4 h5) h1
  obtain ⟨mid, hmid⟩ := h.above
  have hfr : (U.setTop g).frames = (.java g :: mid) ++ below := by rw [State.frames_setTop' g h.top, hmid]; rfl
  obtain ⟨o, s₂, hsteps, -, hend, hq⟩ := Steps.callFree hM p X.admits X.cas X.clock (acts := []) hfr happ hPc trivial
  have hq' : vx_Q Qc XC mc ms free a (U.calling g mk a) o s₂ := hq
  rw [State.frames_setTop' g h.top] at hend
  obtain ⟨g₀, hg0⟩ := Option.isSome_iff_exists.mp h.top
  obtain ⟨r, hr⟩ := State.topJava?_eq_some.mp hg0
  have hr' : (({ U with heap := s₂.heap, slotsUsed := s₂.slotsUsed } : State).setVm s₂.vm).frames = .java g₀ :: r := hr
  rcases hq' with ⟨hqc, L, hfe, hL⟩ | ⟨q, rfl, E, ce, L, hx, hce, hcv, hcl, hW₂, hsm, hL⟩
  · obtain ⟨⟨v, rfl⟩, hW₂, e2, q2, q3, q4, q5, q6⟩ := id hfe
    have e3 : s₂ = ({ (U.calling g mk a).setFrames s₂.frames with heap := s₂.heap, slotsUsed := s₂.slotsUsed } : State).setVm s₂.vm := by
      have : s₂ = ({ s₂ with vm := (U.calling g mk a).vm } : State).setVm s₂.vm := rfl
      rw [e2] at this
      exact this
    obtain ⟨c₂, i₂, len₂, hc₂, hd₂, hf₂⟩ := hend
    have hW' : U.WarmedH s₂.vm := hW₂
    have hcc : c₂ = c := by
      have h1 : s₂.code? g.method = U.code? g.method := by
        rw [State.code?_eq, State.code?_eq, hW'.alike.method?]
      exact Option.some.inj (hc₂.symm.trans (h1.trans h.code))
    subst hcc
    have hlen : len₂ = len := by rw [hdg] at hd₂; cases hd₂; rfl
    subst hlen
    have hs₂ : s₂ = (({ U with heap := s₂.heap, slotsUsed := s₂.slotsUsed } : State).setVm s₂.vm).setTop { g with pc := g.pc + len₂, stack := v.toList ++ g.stack } := by
      refine e3.trans ?_
      rw [hf₂, State.calling_eq h.top, State.setFrames_setFrames, State.setTop_of_frames _ hr', hr]
      rfl
    have hsame : U.sameButNew ({ U with heap := s₂.heap, slotsUsed := s₂.slotsUsed } : State) L mc ms := by
      refine ⟨?_, q2, q3, q4, q5, q6⟩
      obtain ⟨t, ht, -⟩ := State.frames_cons hr
      show ({ U with heap := s₂.heap, slotsUsed := s₂.slotsUsed } : State) = { U.setFrames U.frames with heap := s₂.heap, slotsUsed := s₂.slotsUsed }
      rw [State.setFrames_self ht]
    subst hg
    refine Or.inl ⟨v, ⟨(({ U with heap := s₂.heap, slotsUsed := s₂.slotsUsed } : State).setVm s₂.vm), Ls ++ L, c0 + mc, s0 + ms⟩,
      ⟨X.admits, X.cas, X.clock, X.frames, X.room, X.hears, X.method, X.code, (X.here.setHeapUsed s₂.heap s₂.slotsUsed).setVm hW'.alike, X.tail, State.WarmedH.trans X.warmed hW', X.limits, X.bytes, X.same.trans (hsame.setVm s.vm)⟩,
      ⟨g, mk, s₂, L, rfl, rfl, hqc, rfl, hL, rfl, rfl⟩, ?_⟩
    show Steps p.tables e below _ ((({ U with heap := s₂.heap, slotsUsed := s₂.slotsUsed } : State).setVm s₂.vm).setTop { g with pc := g.pc + len₂, stack := v.toList ++ g.stack })
    rw [← hs₂]
    exact hsteps
  · obtain ⟨e2, q2, q3, q4, q5, q6⟩ := id hsm
    have e3 : s₂ = ({ (U.calling g mk a).setFrames s₂.frames with heap := s₂.heap, slotsUsed := s₂.slotsUsed } : State).setVm s₂.vm := by
      have : s₂ = ({ s₂ with vm := (U.calling g mk a).vm } : State).setVm s₂.vm := rfl
      rw [e2] at this
      exact this
    have hf₂ : s₂.frames = .throwing q :: .java g :: U.frames.tail := hend
    have hW' : U.WarmedH s₂.vm := hW₂
    have hs₂ : s₂ = ((({ U with heap := s₂.heap, slotsUsed := s₂.slotsUsed } : State).setVm s₂.vm).setTop g).pushFrame (.throwing q) := by
      refine e3.trans ?_
      rw [hf₂, State.calling_eq h.top, State.setFrames_setFrames, State.pushFrame, State.frames_setTop _ hr', State.setTop_of_frames _ hr', State.setFrames_setFrames, hr]
      rfl
    have hsame : U.sameButNew ({ U with heap := s₂.heap, slotsUsed := s₂.slotsUsed } : State) L mc ms := by
      refine ⟨?_, q2, q3, q4, q5, q6⟩
      obtain ⟨t, ht, -⟩ := State.frames_cons hr
      show ({ U with heap := s₂.heap, slotsUsed := s₂.slotsUsed } : State) = { U.setFrames U.frames with heap := s₂.heap, slotsUsed := s₂.slotsUsed }
      rw [State.setFrames_self ht]
    subst hg
    refine Or.inr ⟨q, ⟨(({ U with heap := s₂.heap, slotsUsed := s₂.slotsUsed } : State).setVm s₂.vm), Ls ++ L, c0 + mc, s0 + ms⟩,
      ⟨X.admits, X.cas, X.clock, X.frames, X.room, X.hears, X.method, X.code, (X.here.setHeapUsed s₂.heap s₂.slotsUsed).setVm hW'.alike, X.tail, State.WarmedH.trans X.warmed hW', X.limits, X.bytes, X.same.trans (hsame.setVm s.vm)⟩,
      ⟨g, mk, s₂, L, E, ce, rfl, rfl, hx, hce, hcv, hcl, rfl, hL, rfl, rfl⟩, ?_⟩
    show Steps p.tables e below _ (((({ U with heap := s₂.heap, slotsUsed := s₂.slotsUsed } : State).setVm s₂.vm).setTop g).pushFrame (.throwing q))
    rw [← hs₂]
    exact hsteps
end Payer
section Calls
variable {p : Program} {l : Launch} {e : Env} {R : Room} {s : State} {m : MethodId} {args : Array Value} {below : List Frame} {meth : Method} {c : Code} {T : State} {locs : List Loc} {cells slots : Nat}
theorem vx_callV (X : Stand p l e R s m args below meth c T locs cells slots) (hexec : p.tables.exec = Jvm.exec) {own C : String} {index : Nat} {y : MethodName} {bytes : ByteArray} {maxL : Nat} {ret : Option FieldType}
    (hown : s.vm.findClass own = some m.cls) (hlink : (Cond.methodLink own index y).before args s = true) (hinst : (Cond.instanceMethod y).before args s = true) (hsel : (Cond.selects C y y).before args s = true)
    (hcode : (Cond.code y bytes maxL ret).before args s = true) (hy : y.cls ≠ "java/lang/invoke/MethodHandle" ∧ y.cls ≠ "java/lang/invoke/VarHandle")
    {W9 : Nat} {Pre : Pt → Array Value → Prop} {Post : Pt → Array Value → Option Value → Pt → Prop} {PostX : Pt → Array Value → Addr → Pt → Prop} (hK : vx_Back l R p e below s args y 3 W9 Pre Post PostX)
    {b : Addr} {cellB : Cell} (hcell : T.heap[b]? = some cellB) (hobj : cellB.vm.isStatics = false) (hcls : s.vm.findClass C = some cellB.cls)
    {g : JFrame} (hg : g.method = m) (hsize : g.locals.size = c.maxLocals) {argsL rest : List Value} (hlen : ∀ sig, parseMethodDescriptor y.desc = some sig → argsL.length = sig.parameters.length)
    (hstack : g.stack = argsL.reverse ++ .ref b :: rest) (hW : 2 * g.monitorRoom + (rest.map fun v => v.category).sum ≤ W9) (hdg : decode c.code g.pc = .ok (.invokevirtual index, 3))
    (hpre : ∀ vm₁, s.WarmedH vm₁ → Pre ⟨T.setVm vm₁, locs, cells, slots⟩ (Value.ref b :: argsL).toArray) :
    (∃ (v : Option Value) (vm₁ : Vm) (B : Pt), s.WarmedH vm₁ ∧ Stand p l e R s m args below meth c B.U B.locs B.cells B.slots ∧ Post ⟨T.setVm vm₁, locs, cells, slots⟩ (Value.ref b :: argsL).toArray v B ∧
      ∀ target, Steps p.tables e below (B.U.setTop { g with pc := g.pc + 3, stack := v.toList ++ rest }) target → Steps p.tables e below (T.setTop g) target) ∨
    (∃ (q : Addr) (vm₁ : Vm) (B : Pt), s.WarmedH vm₁ ∧ Stand p l e R s m args below meth c B.U B.locs B.cells B.slots ∧ PostX ⟨T.setVm vm₁, locs, cells, slots⟩ (Value.ref b :: argsL).toArray q B ∧
      Steps p.tables e below (T.setTop g) ((B.U.setTop { g with stack := rest }).pushFrame (.throwing q))) := by
  obtain ⟨mk, methM, hnamed, hmethM, hstM, habM⟩ := Cond.instanceMethod_spec hinst
  obtain ⟨methM', cM, hmethM', -, -, -, -, -, -, hsigM⟩ := Cond.code_spec hnamed hcode
  cases hmethM.symm.trans hmethM'
  obtain ⟨c2, r2, m2, q1, q2, q3, q4, kP, hkP, hkPi⟩ := Cond.selects_spec hsel
  cases hcls.symm.trans q1
  cases (State.methodFound?_of_named hnamed hy).symm.trans q2
  cases hnamed.symm.trans q3
  have hselP : selectMethod e.platform s.vm cellB.cls mk = .method mk := by rw [Launch.admits_selectMethod X.admits]; exact q4
  obtain ⟨vm₁, X₁, hstep₁⟩ := X.invokevirtual hexec hown hlink hnamed hmethM hstM hkP hkPi hy (a := b) (cell := cellB) hcell
    (fun z h => by rw [h] at hobj; cases hobj) hselP hmethM habM hkP hkPi (g := g) hg (argsL := argsL) (rest := rest) (hlen _ hsigM) hstack hdg
  rcases hK m meth c ⟨T.setVm vm₁, locs, cells, slots⟩ { g with stack := rest } (.invokevirtual index) mk (Value.ref b :: argsL).toArray X₁ hg hsize hdg hW (X₁.named hnamed) (hpre vm₁ X₁.warmed) with ⟨v, B, X', hpost, hsteps⟩ | ⟨q, B, X', hpost, hsteps⟩
  · exact Or.inl ⟨v, vm₁, B, X₁.warmed, X', hpost, fun target h => hstep₁ _ fun acts => by rw [doInvoke_state]; exact hsteps.trans h⟩
  · exact Or.inr ⟨q, vm₁, B, X₁.warmed, X', hpost, hstep₁ _ fun acts => by rw [doInvoke_state]; exact hsteps⟩
theorem vx_callS (X : Stand p l e R s m args below meth c T locs cells slots) (hexec : p.tables.exec = Jvm.exec) {own : String} {index : Nat} {y : MethodName} {bytes : ByteArray} {maxL : Nat} {ret : Option FieldType}
    (hown : s.vm.findClass own = some m.cls) (hlink : (Cond.methodLink own index y).before args s = true) (hstat : (Cond.static y).before args s = true) (hinit : (Cond.initialized y.cls).before args s = true)
    (hcode : (Cond.code y bytes maxL ret).before args s = true) (hy : y.cls ≠ "java/lang/invoke/MethodHandle" ∧ y.cls ≠ "java/lang/invoke/VarHandle")
    {W9 : Nat} {Pre : Pt → Array Value → Prop} {Post : Pt → Array Value → Option Value → Pt → Prop} {PostX : Pt → Array Value → Addr → Pt → Prop} (hK : vx_Back l R p e below s args y 3 W9 Pre Post PostX)
    {g : JFrame} (hg : g.method = m) (hsize : g.locals.size = c.maxLocals) {argsL rest : List Value} (hlen : ∀ sig, parseMethodDescriptor y.desc = some sig → argsL.length = sig.parameters.length)
    (hstack : g.stack = argsL.reverse ++ rest) (hW : 2 * g.monitorRoom + (rest.map fun v => v.category).sum ≤ W9) (hdg : decode c.code g.pc = .ok (.invokestatic index, 3))
    (hpre : ∀ vm₁, s.WarmedH vm₁ → Pre ⟨T.setVm vm₁, locs, cells, slots⟩ argsL.toArray) :
    (∃ (v : Option Value) (vm₁ : Vm) (B : Pt), s.WarmedH vm₁ ∧ Stand p l e R s m args below meth c B.U B.locs B.cells B.slots ∧ Post ⟨T.setVm vm₁, locs, cells, slots⟩ argsL.toArray v B ∧
      ∀ target, Steps p.tables e below (B.U.setTop { g with pc := g.pc + 3, stack := v.toList ++ rest }) target → Steps p.tables e below (T.setTop g) target) ∨
    (∃ (q : Addr) (vm₁ : Vm) (B : Pt), s.WarmedH vm₁ ∧ Stand p l e R s m args below meth c B.U B.locs B.cells B.slots ∧ PostX ⟨T.setVm vm₁, locs, cells, slots⟩ argsL.toArray q B ∧
      Steps p.tables e below (T.setTop g) ((B.U.setTop { g with stack := rest }).pushFrame (.throwing q))) := by
  obtain ⟨mk, hnamed⟩ := Cond.code_named hcode
  obtain ⟨methM, cM, hmethM, -, -, -, -, -, -, hsigM⟩ := Cond.code_spec hnamed hcode
  have hstatic : methM.isStatic = true := Cond.static_spec hnamed hmethM hstat
  obtain ⟨kP, hkP, -⟩ := className_of_methodNamed hnamed
  have hinitP : kP.init = .initialized := Cond.initialized_spec (findClass_of_methodNamed hnamed) hkP hinit
  obtain ⟨vm₁, X₁, hstep₁⟩ := X.invokestatic hexec hown hlink hnamed hmethM hstatic hkP hinitP hy (g := g) hg (argsL := argsL) (rest := rest) (hlen _ hsigM) hstack hdg
  rcases hK m meth c ⟨T.setVm vm₁, locs, cells, slots⟩ { g with stack := rest } (.invokestatic index) mk argsL.toArray X₁ hg hsize hdg hW (X₁.named hnamed) (hpre vm₁ X₁.warmed) with ⟨v, B, X', hpost, hsteps⟩ | ⟨q, B, X', hpost, hsteps⟩
  · exact Or.inl ⟨v, vm₁, B, X₁.warmed, X', hpost, fun target h => hstep₁ _ fun acts => by rw [doInvoke_state]; exact hsteps.trans h⟩
  · exact Or.inr ⟨q, vm₁, B, X₁.warmed, X', hpost, hstep₁ _ fun acts => by rw [doInvoke_state]; exact hsteps⟩
end Calls
theorem vx_cls {s : State} {T : State} {vm₁ : Vm} {E : String} {k : ClassId} (hW : s.WarmedH vm₁) (h : (T.setVm vm₁).vm.findClass E = some k) : s.vm.findClass E = some k := by
  have h1 : vm₁.findClass E = some k := h
  rw [hW.alike.findClass] at h1
  exact h1
/-- the method's frame g, with q thrown over it -/
def vx_W (p : Program) (l : Launch) (e : Env) (R : Room) (s : State) (m : MethodId) (args : Array Value) (below : List Frame) (meth : Method) (c : Code) (H : Heap) (locs : List Loc) (cells slots : Nat) (Q : State → Prop) (g : JFrame) (q : Addr) : Prop :=
  ∀ T : State, T.heap = H → Stand p l e R s m args below meth c T locs cells slots → ∃ t, Steps p.tables e below ((T.setTop g).pushFrame (.throwing q)) t ∧ Q t
def vx_Run (p : Program) (l : Launch) (e : Env) (R : Room) (s : State) (m : MethodId) (args : Array Value) (below : List Frame) (meth : Method) (c : Code) (H : Heap) (locs : List Loc) (cells slots mc ms : Nat) (g : JFrame) (rest : List Value) (Qa : State → Outcome → State → Prop) (XC : String → State → State → Prop) (free : Addr → Prop) : Prop :=
  ∀ T : State, T.heap = H → Stand p l e R s m args below meth c T locs cells slots →
    (∃ (v : Option Value) (st₀ t T' : State) (L : List Loc), st₀.heap = H ∧ Stand p l e R s m args below meth c T' (locs ++ L) (cells + mc) (slots + ms) ∧ (∀ q ∈ L, free q.base) ∧ T'.heap = t.heap ∧ T'.vm = t.vm ∧ Qa st₀ (.returned v) t ∧
      Goes p e below T g T' { g with pc := g.pc + 3, stack := v.toList ++ rest }) ∨
    (∃ (q : Addr) (st₀ t T' : State) (L : List Loc) (E : String) (ce : Cell), st₀.heap = H ∧ Stand p l e R s m args below meth c T' (locs ++ L) (cells + mc) (slots + ms) ∧ (∀ z ∈ L, free z.base) ∧ T'.heap = t.heap ∧ T'.vm = t.vm ∧ XC E st₀ t ∧ t.heap[q]? = some ce ∧ ce.vm = .none ∧ s.vm.findClass E = some ce.cls ∧
      Steps p.tables e below (T.setTop g) ((T'.setTop { g with stack := rest }).pushFrame (.throwing q)))
def vx_X {S : Type} (px : S → Prop) (B : String → S → State → Prop) (A : Nat → Prop) : String → State → State → Prop := fun E st t => ∃ u : S, px u ∧ B E u t ∧ va_F A st t
section Runs
variable {p : Program} {l : Launch} {e : Env} {R : Room} {s : State} {m : MethodId} {args : Array Value} {below : List Frame} {meth : Method} {c : Code} {H : Heap} {locs : List Loc} {cells slots : Nat}
variable {y : MethodName} {bytes cc : ByteArray} {maxL nL mc ms n index : Nat} {ret : Option FieldType} {ws : List Cond} {rm : Room} {Pc : Array Value → State → Prop} {Qc : Array Value → State → Outcome → State → Prop} {XC : String → State → State → Prop} {free : Addr → Prop} {Ts : List Cond} {own C : String} {b : Addr} {As rest : List Value} {g : JFrame}
theorem vx_callBack (cb : CallB R s args own index y bytes maxL ret ws rm mc ms n) (hM : vx_Met l y ws rm Pc Qc XC mc ms free) (hbl : FrameBlind Pc) : vx_Back l R p e below s args y 3 8 (PreOf R mc ms Pc) (PostOf Qc mc ms free) (vx_Post XC mc ms free) := by
  obtain ⟨hrc, hrs, hfr, hlo, hws, hcw, -, hini, -⟩ := cb
  exact vx_back (bytes := bytes) (maxL := maxL) (ret := ret) hM hbl hrc hrs hfr hlo hws hcw (fun a' U hW => word_at hW (Or.inl (by first | rfl | simp [Cond.onTables, Cond.keeps, Cond.steady])) hini)
theorem vx_runV (S : CallFix p m c cc nL s args Ts own) (hM : vx_Met l y ws rm Pc Qc XC mc ms free) (cw : CallW R s args own C index y bytes maxL ret ws rm mc ms n) (hp : PreV s H C b Pc As)
    (hg : g.method = m) (hn : As.length = n) (hsize : g.locals.size = nL) (hstack : g.stack = As.reverse ++ .ref b :: rest) (hW : 2 * g.monitorRoom + (rest.map fun v => v.category).sum ≤ 8) (hdg : decode cc g.pc = .ok (.invokevirtual index, 3)) (hf : cells + mc ≤ R.cells ∧ slots + ms ≤ R.slots) :
    vx_Run p l e R s m args below meth c H locs cells slots mc ms g rest (Qc (Value.ref b :: As).toArray) XC free := by
  have hK : vx_Back l R p e below s args y 3 8 (PreOf R mc ms Pc) (PostOf Qc mc ms free) (vx_Post XC mc ms free) := vx_callBack cw.1 hM hp.1
  obtain ⟨⟨-, -, -, -, -, -, hcode, -, hy, hlen, hl⟩, hin, hse⟩ := cw
  obtain ⟨hx, hb, hml, ho, -⟩ := S
  obtain ⟨-, ⟨cellB, hcB, hoB, hclB⟩, hPc⟩ := hp
  intro T hT X
  rcases vx_callV X hx (C := C) (bytes := bytes) (maxL := maxL) (ret := ret) ho hl hin hse hcode hy hK (by rw [hT]; exact hcB) hoB hclB hg (hsize.trans hml.symm) (argsL := As) (rest := rest) (fun sig h => hn.trans (hlen sig h)) hstack hW (by rw [hb]; exact hdg)
    (fun vm₁ hW₁ => ⟨hf.1, hf.2, hPc (T.setVm vm₁) hT hW₁⟩) with ⟨v, vm₁, ⟨U', l2, c2, s2⟩, hW₁, X', ⟨g', mk, t, L, e1, e2, hq, h1, hL, h2, h3⟩, st⟩ | ⟨q, vm₁, ⟨U', l2, c2, s2⟩, hW₁, X', ⟨g', mk, t, L, E, ce, e1, e2, hq, hce, hcv, hcl, h1, hL, h2, h3⟩, st⟩
  · dsimp only [Pt.U, Pt.locs, Pt.cells, Pt.slots] at X' e1 e2 h1 h2 h3 st
    subst h1; subst h2; subst h3
    exact Or.inl ⟨v, (T.setVm vm₁).calling g' mk (Value.ref b :: As).toArray, t, U', L, hT, X', hL, e1, e2, hq, st⟩
  · dsimp only [Pt.U, Pt.locs, Pt.cells, Pt.slots] at X' e1 e2 h1 h2 h3 st hcl
    subst h1; subst h2; subst h3
    exact Or.inr ⟨q, (T.setVm vm₁).calling g' mk (Value.ref b :: As).toArray, t, U', L, E, ce, hT, X', hL, e1, e2, hq, hce, hcv, vx_cls hW₁ hcl, st⟩
theorem vx_runS (S : CallFix p m c cc nL s args Ts own) (hM : vx_Met l y ws rm Pc Qc XC mc ms free) (cw : CallB R s args own index y bytes maxL ret ws rm mc ms n ∧ (Cond.static y).before args s = true) (hp : PreS s H Pc As)
    (hg : g.method = m) (hn : As.length = n) (hsize : g.locals.size = nL) (hstack : g.stack = As.reverse ++ rest) (hW : 2 * g.monitorRoom + (rest.map fun v => v.category).sum ≤ 8) (hdg : decode cc g.pc = .ok (.invokestatic index, 3)) (hf : cells + mc ≤ R.cells ∧ slots + ms ≤ R.slots) :
    vx_Run p l e R s m args below meth c H locs cells slots mc ms g rest (Qc As.toArray) XC free := by
  have hK : vx_Back l R p e below s args y 3 8 (PreOf R mc ms Pc) (PostOf Qc mc ms free) (vx_Post XC mc ms free) := vx_callBack cw.1 hM hp.1
  obtain ⟨⟨-, -, -, -, -, -, hcode, hini, hy, hlen, hl⟩, hstt⟩ := cw
  obtain ⟨hx, hb, hml, ho, -⟩ := S
  intro T hT X
  rcases vx_callS X hx (bytes := bytes) (maxL := maxL) (ret := ret) ho hl hstt hini hcode hy hK hg (hsize.trans hml.symm) (argsL := As) (rest := rest) (fun sig h => hn.trans (hlen sig h)) hstack hW (by rw [hb]; exact hdg)
    (fun vm₁ hW₁ => ⟨hf.1, hf.2, hp.2 (T.setVm vm₁) hT hW₁⟩) with ⟨v, vm₁, ⟨U', l2, c2, s2⟩, hW₁, X', ⟨g', mk, t, L, e1, e2, hq, h1, hL, h2, h3⟩, st⟩ | ⟨q, vm₁, ⟨U', l2, c2, s2⟩, hW₁, X', ⟨g', mk, t, L, E, ce, e1, e2, hq, hce, hcv, hcl, h1, hL, h2, h3⟩, st⟩
  · dsimp only [Pt.U, Pt.locs, Pt.cells, Pt.slots] at X' e1 e2 h1 h2 h3 st
    subst h1; subst h2; subst h3
    exact Or.inl ⟨v, (T.setVm vm₁).calling g' mk As.toArray, t, U', L, hT, X', hL, e1, e2, hq, st⟩
  · dsimp only [Pt.U, Pt.locs, Pt.cells, Pt.slots] at X' e1 e2 h1 h2 h3 st hcl
    subst h1; subst h2; subst h3
    exact Or.inr ⟨q, (T.setVm vm₁).calling g' mk As.toArray, t, U', L, E, ce, hT, X', hL, e1, e2, hq, hce, hcv, vx_cls hW₁ hcl, st⟩
end Runs
section Rows
variable {p : Program} {l : Launch} {e : Env} {R : Room} {s : State} {m : MethodId} {args : Array Value} {below : List Frame} {meth : Method} {c : Code} {H : Heap} {locs : List Loc} {cells slots : Nat} {Q : State → Prop}
variable {mc ms : Nat} {free : Addr → Prop} {A0 A1 : Nat → Prop} {H0 : Heap} {a : Array Value} {pc : Nat} {ls : Array Slot} {st0 rest : List Value}
theorem vx_keep {st₀ t T' : State} {L : List Loc} (h0 : st₀.heap = H) (e1 : T'.heap = t.heap) (hS : va_S A0 H0 H locs) (hA : ∀ q, q < H.size → A1 q → A0 q) (hf : ∀ q, free q → A0 q) (hL : ∀ q ∈ L, free q.base) (hF : va_F A1 st₀ t) :
    H.size ≤ T'.heap.size ∧ (∀ q : Nat, q < H.size → ¬ A1 q → T'.heap[q]? = H[q]?) ∧ va_S A0 H0 T'.heap (locs ++ L) := by
  obtain ⟨hz, hk⟩ := hF
  rw [h0] at hz hk
  exact ⟨by rw [e1]; exact hz, fun q h1 h2 => by rw [e1]; exact hk q h1 h2,
    ⟨Nat.le_trans hS.1 (by rw [e1]; exact hz), fun q h1 h2 => by rw [e1, hk q (Nat.lt_of_lt_of_le h1 hS.1) (fun z => h2 (hA q (Nat.lt_of_lt_of_le h1 hS.1) z))]; exact hS.2.1 q h1 h2, fun q hq => by
      rcases List.mem_append.mp hq with h | h
      · exact hS.2.2 q h
      · exact hf _ (hL q h)⟩⟩
theorem vx_calli {S SX : Type} {post : Int32 → S → Prop} {px : SX → Prop} {B : S → State → Prop} {BX : String → SX → State → Prop} {AX : Nat → Prop} (hr : vx_Run p l e R s m args below meth c H locs cells slots mc ms (F0 m pc ls st0) rest (va_Qi post B A1 a) (vx_X px BX AX) free) (hS : va_S A0 H0 H locs) (hA : ∀ q, q < H.size → A1 q → A0 q) (hf : ∀ q, free q → A0 q) (hAX : ∀ q, q < H.size → AX q → A0 q)
    (kx : ∀ (E : String) (ce : Cell) (q9 : Addr) (u : SX) (t : State) (H1 : Heap) (locs1 : List Loc), t.heap = H1 → s.vm.Alike t.vm → px u → BX E u t → H.size ≤ H1.size → (∀ q : Nat, q < H.size → ¬ AX q → H1[q]? = H[q]?) → va_S A0 H0 H1 locs1 → H1[q9]? = some ce → ce.vm = .none → s.vm.findClass E = some ce.cls → vx_W p l e R s m args below meth c H1 locs1 (cells + mc) (slots + ms) Q (F0 m pc ls rest) q9)
    (kk : ∀ (r : Int32) (u : S) (t : State) (H1 : Heap) (locs1 : List Loc), t.heap = H1 → s.vm.Alike t.vm → post r u → B u t → H.size ≤ H1.size → (∀ q : Nat, q < H.size → ¬ A1 q → H1[q]? = H[q]?) → va_S A0 H0 H1 locs1 → W p l e R s m args below meth c H1 locs1 (cells + mc) (slots + ms) Q (F0 m (pc + 3) ls (.int r :: rest))) : W p l e R s m args below meth c H locs cells slots Q (F0 m pc ls st0) := by
  intro T hT X
  rcases hr T hT X with ⟨v, st₀, t, T', L, h0, X', hL, e1, e2, ⟨⟨r, u, hv, hp, hb⟩, hF⟩, st⟩ | ⟨q, st₀, t, T', L, E, ce, h0, X', hL, e1, e2, ⟨u, hp, hb, hF⟩, hce, hcv, hcl, st⟩
  · cases hv
    obtain ⟨k1, k2, k3⟩ := vx_keep h0 e1 hS hA hf hL hF
    obtain ⟨t2, a1, b1⟩ := kk r u t T'.heap (locs ++ L) e1.symm (by rw [← e2]; exact X'.warmed.alike) hp hb k1 k2 k3 T' rfl X'
    exact ⟨t2, st t2 a1, b1⟩
  · obtain ⟨k1, k2, k3⟩ := vx_keep h0 e1 hS hAX hf hL hF
    obtain ⟨t2, a1, b1⟩ := kx E ce q u t T'.heap (locs ++ L) e1.symm (by rw [← e2]; exact X'.warmed.alike) hp hb k1 k2 k3 (by rw [e1]; exact hce) hcv hcl T' rfl X'
    exact ⟨t2, st.trans a1, b1⟩
theorem vx_calll {S SX : Type} {post : Int64 → S → Prop} {px : SX → Prop} {B : S → State → Prop} {BX : String → SX → State → Prop} {AX : Nat → Prop} (hr : vx_Run p l e R s m args below meth c H locs cells slots mc ms (F0 m pc ls st0) rest (va_Ql post B A1 a) (vx_X px BX AX) free) (hS : va_S A0 H0 H locs) (hA : ∀ q, q < H.size → A1 q → A0 q) (hf : ∀ q, free q → A0 q) (hAX : ∀ q, q < H.size → AX q → A0 q)
    (kx : ∀ (E : String) (ce : Cell) (q9 : Addr) (u : SX) (t : State) (H1 : Heap) (locs1 : List Loc), t.heap = H1 → s.vm.Alike t.vm → px u → BX E u t → H.size ≤ H1.size → (∀ q : Nat, q < H.size → ¬ AX q → H1[q]? = H[q]?) → va_S A0 H0 H1 locs1 → H1[q9]? = some ce → ce.vm = .none → s.vm.findClass E = some ce.cls → vx_W p l e R s m args below meth c H1 locs1 (cells + mc) (slots + ms) Q (F0 m pc ls rest) q9)
    (kk : ∀ (r : Int64) (u : S) (t : State) (H1 : Heap) (locs1 : List Loc), t.heap = H1 → s.vm.Alike t.vm → post r u → B u t → H.size ≤ H1.size → (∀ q : Nat, q < H.size → ¬ A1 q → H1[q]? = H[q]?) → va_S A0 H0 H1 locs1 → W p l e R s m args below meth c H1 locs1 (cells + mc) (slots + ms) Q (F0 m (pc + 3) ls (.long r :: rest))) : W p l e R s m args below meth c H locs cells slots Q (F0 m pc ls st0) := by
  intro T hT X
  rcases hr T hT X with ⟨v, st₀, t, T', L, h0, X', hL, e1, e2, ⟨⟨r, u, hv, hp, hb⟩, hF⟩, st⟩ | ⟨q, st₀, t, T', L, E, ce, h0, X', hL, e1, e2, ⟨u, hp, hb, hF⟩, hce, hcv, hcl, st⟩
  · cases hv
    obtain ⟨k1, k2, k3⟩ := vx_keep h0 e1 hS hA hf hL hF
    obtain ⟨t2, a1, b1⟩ := kk r u t T'.heap (locs ++ L) e1.symm (by rw [← e2]; exact X'.warmed.alike) hp hb k1 k2 k3 T' rfl X'
    exact ⟨t2, st t2 a1, b1⟩
  · obtain ⟨k1, k2, k3⟩ := vx_keep h0 e1 hS hAX hf hL hF
    obtain ⟨t2, a1, b1⟩ := kx E ce q u t T'.heap (locs ++ L) e1.symm (by rw [← e2]; exact X'.warmed.alike) hp hb k1 k2 k3 (by rw [e1]; exact hce) hcv hcl T' rfl X'
    exact ⟨t2, st.trans a1, b1⟩
theorem vx_callf {S SX : Type} {post : UInt32 → S → Prop} {px : SX → Prop} {B : S → State → Prop} {BX : String → SX → State → Prop} {AX : Nat → Prop} (hr : vx_Run p l e R s m args below meth c H locs cells slots mc ms (F0 m pc ls st0) rest (va_Qf post B A1 a) (vx_X px BX AX) free) (hS : va_S A0 H0 H locs) (hA : ∀ q, q < H.size → A1 q → A0 q) (hf : ∀ q, free q → A0 q) (hAX : ∀ q, q < H.size → AX q → A0 q)
    (kx : ∀ (E : String) (ce : Cell) (q9 : Addr) (u : SX) (t : State) (H1 : Heap) (locs1 : List Loc), t.heap = H1 → s.vm.Alike t.vm → px u → BX E u t → H.size ≤ H1.size → (∀ q : Nat, q < H.size → ¬ AX q → H1[q]? = H[q]?) → va_S A0 H0 H1 locs1 → H1[q9]? = some ce → ce.vm = .none → s.vm.findClass E = some ce.cls → vx_W p l e R s m args below meth c H1 locs1 (cells + mc) (slots + ms) Q (F0 m pc ls rest) q9)
    (kk : ∀ (r : UInt32) (u : S) (t : State) (H1 : Heap) (locs1 : List Loc), t.heap = H1 → s.vm.Alike t.vm → post r u → B u t → H.size ≤ H1.size → (∀ q : Nat, q < H.size → ¬ A1 q → H1[q]? = H[q]?) → va_S A0 H0 H1 locs1 → W p l e R s m args below meth c H1 locs1 (cells + mc) (slots + ms) Q (F0 m (pc + 3) ls (.float r :: rest))) : W p l e R s m args below meth c H locs cells slots Q (F0 m pc ls st0) := by
  intro T hT X
  rcases hr T hT X with ⟨v, st₀, t, T', L, h0, X', hL, e1, e2, ⟨⟨r, u, hv, hp, hb⟩, hF⟩, st⟩ | ⟨q, st₀, t, T', L, E, ce, h0, X', hL, e1, e2, ⟨u, hp, hb, hF⟩, hce, hcv, hcl, st⟩
  · cases hv
    obtain ⟨k1, k2, k3⟩ := vx_keep h0 e1 hS hA hf hL hF
    obtain ⟨t2, a1, b1⟩ := kk r u t T'.heap (locs ++ L) e1.symm (by rw [← e2]; exact X'.warmed.alike) hp hb k1 k2 k3 T' rfl X'
    exact ⟨t2, st t2 a1, b1⟩
  · obtain ⟨k1, k2, k3⟩ := vx_keep h0 e1 hS hAX hf hL hF
    obtain ⟨t2, a1, b1⟩ := kx E ce q u t T'.heap (locs ++ L) e1.symm (by rw [← e2]; exact X'.warmed.alike) hp hb k1 k2 k3 (by rw [e1]; exact hce) hcv hcl T' rfl X'
    exact ⟨t2, st.trans a1, b1⟩
theorem vx_calld {S SX : Type} {post : UInt64 → S → Prop} {px : SX → Prop} {B : S → State → Prop} {BX : String → SX → State → Prop} {AX : Nat → Prop} (hr : vx_Run p l e R s m args below meth c H locs cells slots mc ms (F0 m pc ls st0) rest (va_Qd post B A1 a) (vx_X px BX AX) free) (hS : va_S A0 H0 H locs) (hA : ∀ q, q < H.size → A1 q → A0 q) (hf : ∀ q, free q → A0 q) (hAX : ∀ q, q < H.size → AX q → A0 q)
    (kx : ∀ (E : String) (ce : Cell) (q9 : Addr) (u : SX) (t : State) (H1 : Heap) (locs1 : List Loc), t.heap = H1 → s.vm.Alike t.vm → px u → BX E u t → H.size ≤ H1.size → (∀ q : Nat, q < H.size → ¬ AX q → H1[q]? = H[q]?) → va_S A0 H0 H1 locs1 → H1[q9]? = some ce → ce.vm = .none → s.vm.findClass E = some ce.cls → vx_W p l e R s m args below meth c H1 locs1 (cells + mc) (slots + ms) Q (F0 m pc ls rest) q9)
    (kk : ∀ (r : UInt64) (u : S) (t : State) (H1 : Heap) (locs1 : List Loc), t.heap = H1 → s.vm.Alike t.vm → post r u → B u t → H.size ≤ H1.size → (∀ q : Nat, q < H.size → ¬ A1 q → H1[q]? = H[q]?) → va_S A0 H0 H1 locs1 → W p l e R s m args below meth c H1 locs1 (cells + mc) (slots + ms) Q (F0 m (pc + 3) ls (.double r :: rest))) : W p l e R s m args below meth c H locs cells slots Q (F0 m pc ls st0) := by
  intro T hT X
  rcases hr T hT X with ⟨v, st₀, t, T', L, h0, X', hL, e1, e2, ⟨⟨r, u, hv, hp, hb⟩, hF⟩, st⟩ | ⟨q, st₀, t, T', L, E, ce, h0, X', hL, e1, e2, ⟨u, hp, hb, hF⟩, hce, hcv, hcl, st⟩
  · cases hv
    obtain ⟨k1, k2, k3⟩ := vx_keep h0 e1 hS hA hf hL hF
    obtain ⟨t2, a1, b1⟩ := kk r u t T'.heap (locs ++ L) e1.symm (by rw [← e2]; exact X'.warmed.alike) hp hb k1 k2 k3 T' rfl X'
    exact ⟨t2, st t2 a1, b1⟩
  · obtain ⟨k1, k2, k3⟩ := vx_keep h0 e1 hS hAX hf hL hF
    obtain ⟨t2, a1, b1⟩ := kx E ce q u t T'.heap (locs ++ L) e1.symm (by rw [← e2]; exact X'.warmed.alike) hp hb k1 k2 k3 (by rw [e1]; exact hce) hcv hcl T' rfl X'
    exact ⟨t2, st.trans a1, b1⟩
theorem vx_callv {S SX : Type} {post : S → Prop} {px : SX → Prop} {B : S → State → Prop} {BX : String → SX → State → Prop} {AX : Nat → Prop} (hr : vx_Run p l e R s m args below meth c H locs cells slots mc ms (F0 m pc ls st0) rest (va_Qv post B A1 a) (vx_X px BX AX) free) (hS : va_S A0 H0 H locs) (hA : ∀ q, q < H.size → A1 q → A0 q) (hf : ∀ q, free q → A0 q) (hAX : ∀ q, q < H.size → AX q → A0 q)
    (kx : ∀ (E : String) (ce : Cell) (q9 : Addr) (u : SX) (t : State) (H1 : Heap) (locs1 : List Loc), t.heap = H1 → s.vm.Alike t.vm → px u → BX E u t → H.size ≤ H1.size → (∀ q : Nat, q < H.size → ¬ AX q → H1[q]? = H[q]?) → va_S A0 H0 H1 locs1 → H1[q9]? = some ce → ce.vm = .none → s.vm.findClass E = some ce.cls → vx_W p l e R s m args below meth c H1 locs1 (cells + mc) (slots + ms) Q (F0 m pc ls rest) q9)
    (kk : ∀ (u : S) (t : State) (H1 : Heap) (locs1 : List Loc), t.heap = H1 → s.vm.Alike t.vm → post u → B u t → H.size ≤ H1.size → (∀ q : Nat, q < H.size → ¬ A1 q → H1[q]? = H[q]?) → va_S A0 H0 H1 locs1 → W p l e R s m args below meth c H1 locs1 (cells + mc) (slots + ms) Q (F0 m (pc + 3) ls (rest))) : W p l e R s m args below meth c H locs cells slots Q (F0 m pc ls st0) := by
  intro T hT X
  rcases hr T hT X with ⟨v, st₀, t, T', L, h0, X', hL, e1, e2, ⟨⟨u, hv, hp, hb⟩, hF⟩, st⟩ | ⟨q, st₀, t, T', L, E, ce, h0, X', hL, e1, e2, ⟨u, hp, hb, hF⟩, hce, hcv, hcl, st⟩
  · cases hv
    obtain ⟨k1, k2, k3⟩ := vx_keep h0 e1 hS hA hf hL hF
    obtain ⟨t2, a1, b1⟩ := kk u t T'.heap (locs ++ L) e1.symm (by rw [← e2]; exact X'.warmed.alike) hp hb k1 k2 k3 T' rfl X'
    exact ⟨t2, st t2 a1, b1⟩
  · obtain ⟨k1, k2, k3⟩ := vx_keep h0 e1 hS hAX hf hL hF
    obtain ⟨t2, a1, b1⟩ := kx E ce q u t T'.heap (locs ++ L) e1.symm (by rw [← e2]; exact X'.warmed.alike) hp hb k1 k2 k3 (by rw [e1]; exact hce) hcv hcl T' rfl X'
    exact ⟨t2, st.trans a1, b1⟩
end Rows
section Ends
variable {p : Program} {l : Launch} {e : Env} {R : Room} {s : State} {m : MethodId} {args : Array Value} {below : List Frame} {meth : Method} {c : Code} {H : Heap} {locs : List Loc} {cells slots : Nat} {Q : State → Prop}
variable {mc ms : Nat} {free : Addr → Prop} {A0 A1 : Nat → Prop} {H0 : Heap} {a : Array Value} {ls : Array Slot} {st0 rest : List Value}
variable {Qc : Array Value → State → Outcome → State → Prop} {XC : String → State → State → Prop}
/-- what a body that may throw owes at its end -/
def vx_MQ (below : List Frame) (Qc : Array Value → State → Outcome → State → Prop) (XC : String → State → State → Prop) (a : Array Value) (s : State) (mc ms : Nat) (free : Addr → Prop) : State → Prop := fun t =>
  ∃ o, t.status = .running ∧ Ended t below o ∧ vx_Q Qc XC mc ms free a s o t
theorem vx_ret {g : JFrame} {mc ms : Nat} (k : W p l e R s m args below meth c H locs cells slots (MQ below Qc args s mc ms free) g) : W p l e R s m args below meth c H locs cells slots (vx_MQ below Qc XC args s mc ms free) g := by
  intro T hT X
  obtain ⟨t, a1, o, b1, b2, b3, b4⟩ := k T hT X
  exact ⟨t, a1, o, b1, b2, Or.inl ⟨b3, b4⟩⟩
/-- not caught here: it goes on to the caller -/
theorem vx_widen {g : JFrame} {q : Addr} {k n : Nat} (h1 : cells ≤ k) (h2 : slots ≤ n) (kk : vx_W p l e R s m args below meth c H locs k n Q g q) : vx_W p l e R s m args below meth c H locs cells slots Q g q := fun T hT X => kk T hT (stand_widen X h1 h2)
theorem vx_out {pc : Nat} {E : String} {ce : Cell} {q : Addr} {mc ms : Nat} (hout : ∀ x ∈ c.exceptionTable.toList, covers x pc = false) (hlocks : meth.locks = false) (hcell : H[q]? = some ce) (hv : ce.vm = .none) (hcl : s.vm.findClass E = some ce.cls)
    (hx : ∀ t : State, t.heap = H → s.vm.Alike t.vm → XC E s t) (hf : ∀ z ∈ locs, free z.base) (hc : cells ≤ mc) (hs : slots ≤ ms) :
    vx_W p l e R s m args below meth c H locs cells slots (vx_MQ below Qc XC args s mc ms free) (F0 m pc ls rest) q := by
  intro T hT X
  obtain ⟨st1, hrun, hend, hW, hsm⟩ := X.leaveThrown q (g := F0 m pc ls rest) rfl rfl rfl hout hlocks
  have hcell9 : (T.setFrames (.throwing q :: below)).heap[q]? = some ce := by
    show T.heap[q]? = some ce
    rw [hT]; exact hcell
  exact ⟨_, st1, .threw q, hrun, hend, Or.inr ⟨q, rfl, E, ce, locs, hx _ hT hW.alike, hcell9, hv, hcl, hW, hsm.mono hc hs, hf⟩⟩
theorem vx_frame {U : State} {k n : Nat} (h : s.sameButNew ({ U with vm := s.vm } : State) locs k n) : s.heap.size ≤ U.heap.size ∧ ∀ q : Nat, q < s.heap.size → (∀ z ∈ locs, z.base ≠ q) → U.heap[q]? = s.heap[q]? := by
  obtain ⟨-, h2, -, -, -, h6⟩ := h
  refine ⟨h2, fun q hq hz => ?_⟩
  obtain ⟨c9, e1, e2, e3, e4⟩ := h6 q _ (Array.getElem?_eq_getElem hq)
  have hs : c9.slots = (s.heap[q]).slots := Array.ext_getElem? fun i => e4 i fun hm => hz _ hm rfl
  have h9 : c9 = s.heap[q] := by
    rw [hs] at e2
    exact e2
  have e5 : U.heap[q]? = some c9 := e1
  rw [e5, h9, Array.getElem?_eq_getElem hq]
/-- the words of a throw but the four that speak of the heap -/
def vx_no (w : Cond) : Bool := decide (w ≠ .isRef (.static Bundle.tN "UNASSIGNED_STACK" Bundle.steD)) && decide (w ≠ .isRef (.static Bundle.tN "SUPPRESSED_SENTINEL" Bundle.listD)) && decide (w ≠ .laysStatic Bundle.tN "UNASSIGNED_STACK" Bundle.steD) && decide (w ≠ .laysStatic Bundle.tN "SUPPRESSED_SENTINEL" Bundle.listD)
def vx_at0 (own : String) (ic : Nat) (X : String) (names : List String) : List Cond := (Bundle.ownAtoms0 own ic X names).filter vx_no
def vx_atS (own : String) (ic : Nat) (X : String) (names : List String) : List Cond := (Bundle.ownAtoms own ic X names).filter vx_no
/-- a word that the tables alone decide, or a good one -/
def vx_ot (w : Cond) : Bool := w.onTables || goodWord w
theorem vx_ot_at {args a' : Array Value} {s U : State} {w : Cond} (hW : s.WarmedH U.vm) (hvm : s.vm = U.vm) (hg : vx_ot w = true) (h : w.before args s = true) : w.before a' U = true := by
  simp only [vx_ot, Bool.or_eq_true] at hg
  rcases hg with hg | hg
  · exact va_tabs hg hvm h
  · exact word_at hW (good_of_word hg) h
/-- a list's words: the good ones out of the method's own list, the others by premises of their own -/
theorem vx_hat {args : Array Value} {s : State} {L B : List Cond} (h1 : ∀ w ∈ L.filter goodWord, w.before args s = true) (h2 : ∀ w ∈ L.filter (fun w => !goodWord w), w ∈ B) (h3 : ∀ w ∈ B, w.before args s = true) : ∀ w ∈ L, w.before args s = true := by
  intro w hw
  by_cases g : goodWord w = true
  · exact h1 w (List.mem_filter.mpr ⟨hw, g⟩)
  · refine h3 w (h2 w (List.mem_filter.mpr ⟨hw, ?_⟩))
    show (!goodWord w) = true
    cases hgw : goodWord w
    · rfl
    · exact absurd hgw g
theorem vx_c {args : Array Value} {s : State} {w : Cond} {B : List Cond} (h : w.before args s = true) (t : ∀ w ∈ B, w.before args s = true) : ∀ w' ∈ w :: B, w'.before args s = true := fun w' h' => (List.mem_cons.mp h').elim (fun e => by rw [e]; exact h) (t w')
theorem vx_n {args : Array Value} {s : State} : ∀ w ∈ ([] : List Cond), w.before args s = true := fun _ h => nomatch h
theorem vx_own {args : Array Value} {s : State} {L : List Cond} (h1 : ∀ w ∈ L.filter vx_no, w.before args s = true)
    (hU : (Cond.isRef (.static Bundle.tN "UNASSIGNED_STACK" Bundle.steD)).before args s = true) (hN : (Cond.isRef (.static Bundle.tN "SUPPRESSED_SENTINEL" Bundle.listD)).before args s = true)
    (lU : (Cond.laysStatic Bundle.tN "UNASSIGNED_STACK" Bundle.steD).before args s = true) (lN : (Cond.laysStatic Bundle.tN "SUPPRESSED_SENTINEL" Bundle.listD).before args s = true) : ∀ w ∈ L, w.before args s = true := by
  intro w hw
  by_cases e1 : w = .isRef (.static Bundle.tN "UNASSIGNED_STACK" Bundle.steD)
  · rw [e1]; exact hU
  · by_cases e2 : w = .isRef (.static Bundle.tN "SUPPRESSED_SENTINEL" Bundle.listD)
    · rw [e2]; exact hN
    · by_cases e3 : w = .laysStatic Bundle.tN "UNASSIGNED_STACK" Bundle.steD
      · rw [e3]; exact lU
      · by_cases e4 : w = .laysStatic Bundle.tN "SUPPRESSED_SENTINEL" Bundle.listD
        · rw [e4]; exact lN
        · exact h1 w (List.mem_filter.mpr ⟨hw, by unfold vx_no; rw [decide_eq_true e1, decide_eq_true e2, decide_eq_true e3, decide_eq_true e4]; rfl⟩)
/-- where a static field lies, its class's statics cell in H -/
def vx_L (C n d : String) (A : Nat → Prop) (U : State) (H : Heap) : Prop := ∃ (c : ClassId) (k : Class) (i : Nat) (f : Field) (a : Nat) (cell : Cell), U.vm.findClass C = some c ∧ U.fieldFound? C n d = some (c, k, i, f) ∧ f.isStatic = true ∧ k.statics = some a ∧ H[a]? = some cell ∧ cell.vm.isStatics = true ∧ cell.cls = c ∧ f.slot < cell.slots.size ∧ k.staticTypes[f.slot]? = some f.type ∧ ¬ A a
theorem vx_L.moved {C n d : String} {A : Nat → Prop} {u U : State} {H : Heap} (hvm : u.vm.Alike U.vm) (h : vx_L C n d A u H) : vx_L C n d A U H := by
  obtain ⟨c, k, i, f, a, cell, h1, h2, h3, h4, h5, h6, h7, h8, h9, h10⟩ := h
  obtain ⟨k', hi', he⟩ := State.fieldFound?_setVm hvm h2
  exact ⟨c, k', i, f, a, cell, by rw [hvm.findClass]; exact h1, hi', h3, by rw [he]; exact h4, h5, h6, h7, h8, by rw [he]; exact h9, h10⟩
theorem vx_L.kept {C n d : String} {A : Nat → Prop} {U : State} {H H1 : Heap} (h : vx_L C n d A U H) (hq : ∀ a : Nat, a < H.size → ¬ A a → H1[a]? = H[a]?) : vx_L C n d A U H1 := by
  obtain ⟨c, k, i, f, a, cell, h1, h2, h3, h4, h5, h6, h7, h8, h9, h10⟩ := h
  exact ⟨c, k, i, f, a, cell, h1, h2, h3, h4, by rw [hq a (Array.getElem?_eq_some_iff.mp h5).1 h10]; exact h5, h6, h7, h8, h9, h10⟩
theorem vx_L.narrow {C n d : String} {A B : Nat → Prop} {U : State} {H : Heap} (h : vx_L C n d A U H) (hAB : ∀ q, B q → A q) : vx_L C n d B U H := by
  obtain ⟨c, k, i, f, a, cell, h1, h2, h3, h4, h5, h6, h7, h8, h9, h10⟩ := h
  exact ⟨c, k, i, f, a, cell, h1, h2, h3, h4, h5, h6, h7, h8, h9, fun z => h10 (hAB _ z)⟩
theorem vx_L.word {C n d : String} {A : Nat → Prop} {s : State} {args : Array Value} (h : vx_L C n d A s s.heap) : (Cond.laysStatic C n d).before args s = true := by
  obtain ⟨c, k, i, f, a, cell, h1, h2, h3, h4, h5, h6, h7, h8, h9, -⟩ := h
  show (Cond.laysStatic C n d).holds args s none s [] = true
  exact Cond.laysStatic_of h1 h2 h3 h4 h5 h6 h7 h8 h9
/-- .. and what it holds: null or some reference -/
def vx_Zq (C n d : String) (A : Nat → Prop) (U : State) (H : Heap) : Prop := va_Zq C n d A U H ∧ vx_L C n d A U H
theorem vx_Zq.moved {C n d : String} {A : Nat → Prop} {u U : State} {H : Heap} (hvm : u.vm.Alike U.vm) (h : vx_Zq C n d A u H) : vx_Zq C n d A U H := ⟨va_Zq.moved hvm h.1, vx_L.moved hvm h.2⟩
theorem vx_Zq.kept {C n d : String} {A : Nat → Prop} {U : State} {H H1 : Heap} (h : vx_Zq C n d A U H) (hq : ∀ a : Nat, a < H.size → ¬ A a → H1[a]? = H[a]?) : vx_Zq C n d A U H1 := ⟨va_Zq.kept h.1 hq, vx_L.kept h.2 hq⟩
theorem vx_Zq.narrow {C n d : String} {A B : Nat → Prop} {U : State} {H : Heap} (h : vx_Zq C n d A U H) (hAB : ∀ q, B q → A q) : vx_Zq C n d B U H := ⟨va_Zq.narrow h.1 hAB, vx_L.narrow h.2 hAB⟩
theorem vx_Zqof {args : Array Value} {s : State} {C n d : String} {A : Nat → Prop} (hl : (Cond.laysStatic C n d).before args s = true) (hini : (Cond.initialized C).before args s = true) (h : (Cond.isRef (.static C n d)).before args s = true) (hA : ∀ a : Nat, a < s.heap.size → ¬ A a) : vx_Zq C n d A s s.heap := by
  refine ⟨va_Zqof hl hini h hA, ?_⟩
  obtain ⟨c, k, i, f, a, cell, h1, h2, h3, h4, h5, h6, h7, h8, h9⟩ := Cond.laysStatic_spec hl
  exact ⟨c, k, i, f, a, cell, h1, h2, h3, h4, h5, h6, h7, h8, h9, hA a (Array.getElem?_eq_some_iff.mp h5).1⟩
theorem vx_isRef {C n d : String} {v : Value} {A : Nat → Prop} {s : State} {args : Array Value} (h : va_Z C n d v A s s.heap) (hv : v.isRef = true) : (Cond.isRef (.static C n d)).before args s = true := by
  obtain ⟨cf, kf, fi, f, a, cell, h1, h2, h3, h4, h5, h6, h7, -⟩ := h
  have he : (Term.static C n d).eval args s none [] s = some v := by
    simp [Term.eval, State.fieldNamed?, h1, h2, h4, h5, h6, h7]
  simp only [Cond.before, Cond.holds, Cond.value, he]
  cases v <;> simp_all [Value.isRef]
theorem vx_isRefq {C n d : String} {A : Nat → Prop} {s : State} {args : Array Value} (h : va_Zq C n d A s s.heap) : (Cond.isRef (.static C n d)).before args s = true := by
  rcases h with h | ⟨t, h⟩
  · exact vx_isRef h rfl
  · exact vx_isRef h rfl
/-- the same frame, seen from here: as if the method were called anew in this heap -/
theorem vx_rebase {T : State} (X : Stand p l e R s m args below meth c T locs cells slots) {R' : Room} (hf : R'.frames ≤ R.frames) (hl : R'.locals ≤ R.locals) (hc : cells + R'.cells ≤ R.cells) (hs : slots + R'.slots ≤ R.slots) :
    Stand p l e R' ((T.setVm s.vm).setFrames (.invoking m args :: below)) m args below meth c T [] 0 0 := by
  have htop : (T.setVm s.vm).topJava?.isSome := X.here.top
  have hF : ((T.setVm s.vm).setFrames (.invoking m args :: below)).frames = .invoking m args :: below := State.frames_setFrames _ (State.cur_lt_of_top htop)
  obtain ⟨g₀, hg0⟩ := Option.isSome_iff_exists.mp htop
  obtain ⟨r, hr⟩ := State.topJava?_eq_some.mp hg0
  have hl9 : e.platform.stackLimits (T.setVm s.vm).me = e.platform.stackLimits s.me := X.limits
  have hb9 : (T.setVm s.vm).me.stackBytes = s.me.stackBytes := X.bytes
  refine ⟨X.admits, X.cas, X.clock, hF, ?_, X.hears, X.method, X.code, X.here, X.tail, X.warmed, ?_, ?_, ?_⟩
  · have h := X.room
    have hU : ((T.setVm s.vm).setFrames (.invoking m args :: below)).localsInUse = s.localsInUse := by
      rw [State.localsInUse_invoking hF (meth := meth) (c := c) X.method X.code, State.localsInUse_invoking X.frames X.method X.code]
    simp only [State.hasRoom, Bool.and_eq_true, decide_eq_true_eq] at h ⊢
    obtain ⟨⟨⟨⟨h1, h2, h3, h4, h5, h6⟩, h7⟩, h8⟩, h9⟩ := h
    rw [X.frames, List.length_cons] at h2 h3
    have q1 := X.heapSize
    have q2 := X.used
    simp only [hF, hU, List.length_cons, State.stackLimits_setFrames, State.stackBytes_setFrames, hl9, hb9]
    refine ⟨⟨⟨⟨by omega, by omega, by omega, by omega, by omega, h6⟩, ?_⟩, ?_⟩, X.book⟩
    · show T.heap.size + R'.cells ≤ e.platform.maxCells
      omega
    · show T.slotsUsed + R'.slots ≤ e.platform.maxSlots
      omega
  · rw [State.stackLimits_setFrames]; rfl
  · rw [State.stackBytes_setFrames]; rfl
  · refine ⟨?_, Nat.le_refl _, Nat.le_refl _, ?_, ?_, fun a c9 h9 => ⟨c9, h9, rfl, rfl, fun _ _ => rfl⟩⟩
    · obtain ⟨t, ht, -⟩ := State.frames_cons hr
      show T.setVm s.vm = { ((T.setVm s.vm).setFrames (.invoking m args :: below)).setFrames (T.setVm s.vm).frames with heap := T.heap, slotsUsed := T.slotsUsed }
      rw [State.setFrames_setFrames, State.setFrames_self ht]
      rfl
    · show T.slotsUsed = T.slotsUsed + ((T.heap.toList.drop T.heap.size).map (·.slots.size)).sum
      rw [List.drop_eq_nil_of_le (Nat.le_of_eq Array.length_toList)]
      rfl
    · show ((T.heap.toList.drop T.heap.size).map (·.slots.size)).sum ≤ 0
      rw [List.drop_eq_nil_of_le (Nat.le_of_eq Array.length_toList)]
      exact Nat.le_refl _
/-- 'throw new E()': new; dup; invokespecial; athrow -/
theorem vx_throw0 {cc : ByteArray} {pc : Nat} (hexec : p.tables.exec = Jvm.exec) (hb : c.code = cc) (hl : l.stackTraces = false) {own cls : String} {names : List String} {ik ic mc ms : Nat} {A : Nat → Prop}
    (hown : s.vm.findClass own = some m.cls) (hcls : Bundle.fit cls = true) (hnames : ∀ n ∈ names, Bundle.fit n = true)
    (hk : (Cond.classLink own ik cls).before args s = true) (hini : (Cond.initialized cls).before args s = true) (hat : ∀ w ∈ vx_at0 own ic cls names, w.before args s = true)
    (hgood : ∀ w ∈ Cond.classLink own ik cls :: Cond.initialized cls :: vx_at0 own ic cls names, vx_ot w = true)
    (hU : vx_Zq Bundle.tN "UNASSIGNED_STACK" Bundle.steD A s s.heap) (hN : vx_Zq Bundle.tN "SUPPRESSED_SENTINEL" Bundle.listD A s s.heap) (hS : va_S A s.heap H locs) (hsize : ls.size = c.maxLocals)
    (d0 : decode cc pc = .ok (.new ik, 3)) (d3 : decode cc (pc + 3) = .ok (.dup, 1)) (d4 : decode cc (pc + 4) = .ok (.invokespecial ic, 3)) (d7 : decode cc (pc + 7) = .ok (.athrow, 1))
    (hout : ∀ x ∈ c.exceptionTable.toList, covers x (pc + 7) = false)
    (hRframes : names.length + 3 < R.frames) (hRlocals : (rest.map fun v => v.category).sum + (13 * (names.length + 1) + 42) ≤ R.locals) (hRcells : cells + 1 ≤ R.cells) (hRslots : slots + 6 ≤ R.slots) (hlocks : meth.locks = false)
    (hx : ∀ t : State, s.vm.Alike t.vm → H.size ≤ t.heap.size → (∀ q : Nat, q < H.size → t.heap[q]? = H[q]?) → XC cls s t)
    (hf : ∀ z ∈ locs, free z.base) (hc : cells + 1 ≤ mc) (hs : slots + 6 ≤ ms) :
    W p l e R s m args below meth c H locs cells slots (vx_MQ below Qc XC args s mc ms free) (F0 m pc ls rest) := by
  intro T hT X
  have htr : e.platform.stackTraces = false := (show e.platform.stackTraces = l.stackTraces by rw [X.admits.platform]).trans hl
  have Y := vx_rebase X (R' := { frames := R.frames, locals := R.locals, cells := 1, slots := 6 }) (Nat.le_refl _) (Nat.le_refl _) hRcells hRslots
  obtain ⟨s', hA⟩ : ∃ z, z = (T.setVm s.vm).setFrames (.invoking m args :: below) := ⟨_, rfl⟩
  rw [← hA] at Y
  have hvm : s'.vm = s.vm := by rw [hA]; rfl
  have hhp : s'.heap = H := by rw [hA]; exact hT
  have hW0 : s.WarmedH s'.vm := by rw [hvm]; exact State.WarmedH.refl s
  have hat' : ∀ w ∈ vx_at0 own ic cls names, w.before args s' = true := fun w hw => vx_ot_at hW0 hvm.symm (hgood w (List.mem_cons_of_mem _ (List.mem_cons_of_mem _ hw))) (hat w hw)
  have hk' : (Cond.classLink own ik cls).before args s' = true := vx_ot_at hW0 hvm.symm (hgood _ List.mem_cons_self) hk
  have hini' : (Cond.initialized cls).before args s' = true := vx_ot_at hW0 hvm.symm (hgood _ (List.mem_cons_of_mem _ List.mem_cons_self)) hini
  have hU' : vx_Zq Bundle.tN "UNASSIGNED_STACK" Bundle.steD A s' s'.heap := by rw [hhp]; exact vx_Zq.moved hW0.alike (hU.kept hS.2.1)
  have hN' : vx_Zq Bundle.tN "SUPPRESSED_SENTINEL" Bundle.listD A s' s'.heap := by rw [hhp]; exact vx_Zq.moved hW0.alike (hN.kept hS.2.1)
  have h : ∀ w ∈ Bundle.ownAtoms0 own ic cls names, w.before args s' = true := vx_own hat' (vx_isRefq hU'.1) (vx_isRefq hN'.1) hU'.2.word hN'.2.word
  have hown' : s'.vm.findClass own = some m.cls := by rw [hvm]; exact hown
  have hins : (Cond.instantiable cls 6).before args s' = true := h _ (by simp [Bundle.ownAtoms0])
  obtain ⟨vm₁, cX, kX, hfX, hkX, -, -, X₁, st1⟩ := Y.newCold hexec (own := own) (C := cls) (index := ik) (n := 6) hown' hk' hins hini'
    (g := F0 m pc ls rest) rfl (by rw [hb]; exact d0) (Nat.le_refl _) (Nat.le_refl _)
  generalize hT1 : (T.setVm vm₁).pushCell { cls := cX, slots := kX.instanceTypes.map defaultValue, vm := .none } = T1 at X₁ st1
  have hcat : (Value.ref T.heap.size).category = 1 := rfl
  have hcellA : T1.heap[T.heap.size]? = some (freshCell cX kX) := by rw [← hT1]; exact State.heap_pushCell_size _ _
  have d3' : decode c.code (pc + 3) = .ok (.dup, 1) := by rw [hb]; exact d3
  obtain ⟨U, hsteps, hrun, hend, hW, hsame, ce, hce, hO⟩ := X₁.ctorThrow0 hexec htr (own := own) (cls := cls) (names := names) (ic := ic) hown' hcls hnames h (fun x hx => nomatch hx) hfX hkX hcellA (by rw [hhp, hT]; exact Nat.le_refl _)
    (g := { method := m, pc := pc + 4, locals := ls, stack := .ref T.heap.size :: .ref T.heap.size :: rest, locked := none }) rfl hsize rfl rfl (rest := rest) rfl
    (by rw [hb]; exact d4) (by rw [hb]; exact d7) hout hRframes (by simp only [List.map_cons, List.sum_cons, hcat]; omega) hlocks
  obtain ⟨f1, f2⟩ := vx_frame hsame
  rw [hhp] at f1 f2
  have hWs : s.WarmedH U.vm := State.WarmedH.trans hW0 hW
  have hcl : s.vm.findClass cls = some ce.cls := by
    have h9 := hO.cls
    rw [hvm] at h9
    exact h9
  have hall : s.sameButNew ({ U with vm := s.vm } : State) locs mc ms := by
    subst hA
    obtain ⟨e1, e2⟩ := hsame
    rw [State.setFrames_setFrames] at e1
    have h2 : (T.setVm s.vm).sameButNew ({ U with vm := s.vm } : State) [] (0 + 1) (0 + 6) := ⟨e1, e2⟩
    have h3 := X.same.trans h2
    rw [List.append_nil] at h3
    exact h3.mono hc hs
  refine ⟨U, ?_, .threw T.heap.size, hrun, hend, Or.inr ⟨T.heap.size, rfl, cls, ce, locs, hx U hWs.alike f1 (fun q hq => f2 q hq (fun z hz => nomatch hz)), hce, hO.vm, hcl, hWs, hall, hf⟩⟩
  refine st1 _ ?_
  show Steps p.tables e below (T1.setTop { method := m, pc := pc + 3, locals := ls, stack := .ref T.heap.size :: rest, locked := none }) _
  jvm_step X₁.here [X₁.here.top, hexec, d3', Value.category]
  exact hsteps
/-- 'throw new E("text")': new; dup; ldc; invokespecial; athrow -/
theorem vx_throwS {cc : ByteArray} {pc : Nat} (hexec : p.tables.exec = Jvm.exec) (hb : c.code = cc) (hl : l.stackTraces = false) {own cls text : String} {names : List String} {ik is ic mc ms sa : Nat} {A : Nat → Prop}
    (hown : s.vm.findClass own = some m.cls) (hcls : Bundle.fit cls = true) (hnames : ∀ n ∈ names, Bundle.fit n = true)
    (hk : (Cond.classLink own ik cls).before args s = true) (hini : (Cond.initialized cls).before args s = true) (hstr : vk_R own is text sa s) (hat : ∀ w ∈ vx_atS own ic cls names, w.before args s = true)
    (hgood : ∀ w ∈ Cond.classLink own ik cls :: Cond.initialized cls :: vx_atS own ic cls names, vx_ot w = true)
    (hU : vx_Zq Bundle.tN "UNASSIGNED_STACK" Bundle.steD A s s.heap) (hN : vx_Zq Bundle.tN "SUPPRESSED_SENTINEL" Bundle.listD A s s.heap) (hS : va_S A s.heap H locs) (hsize : ls.size = c.maxLocals)
    (d0 : decode cc pc = .ok (.new ik, 3)) (d3 : decode cc (pc + 3) = .ok (.dup, 1)) (d4 : decode cc (pc + 4) = .ok (.ldc is, 2)) (d6 : decode cc (pc + 6) = .ok (.invokespecial ic, 3)) (d9 : decode cc (pc + 9) = .ok (.athrow, 1))
    (hout : ∀ x ∈ c.exceptionTable.toList, covers x (pc + 9) = false)
    (hRframes : names.length + 3 < R.frames) (hRlocals : (rest.map fun v => v.category).sum + (13 * (names.length + 1) + 43) ≤ R.locals) (hRcells : cells + 1 ≤ R.cells) (hRslots : slots + 6 ≤ R.slots) (hlocks : meth.locks = false)
    (hx : ∀ t : State, s.vm.Alike t.vm → H.size ≤ t.heap.size → (∀ q : Nat, q < H.size → t.heap[q]? = H[q]?) → XC cls s t)
    (hf : ∀ z ∈ locs, free z.base) (hc : cells + 1 ≤ mc) (hs : slots + 6 ≤ ms) :
    W p l e R s m args below meth c H locs cells slots (vx_MQ below Qc XC args s mc ms free) (F0 m pc ls rest) := by
  intro T hT X
  have htr : e.platform.stackTraces = false := (show e.platform.stackTraces = l.stackTraces by rw [X.admits.platform]).trans hl
  have Y := vx_rebase X (R' := { frames := R.frames, locals := R.locals, cells := 1, slots := 6 }) (Nat.le_refl _) (Nat.le_refl _) hRcells hRslots
  obtain ⟨s', hA⟩ : ∃ z, z = (T.setVm s.vm).setFrames (.invoking m args :: below) := ⟨_, rfl⟩
  rw [← hA] at Y
  have hvm : s'.vm = s.vm := by rw [hA]; rfl
  have hhp : s'.heap = H := by rw [hA]; exact hT
  have hW0 : s.WarmedH s'.vm := by rw [hvm]; exact State.WarmedH.refl s
  have hat' : ∀ w ∈ vx_atS own ic cls names, w.before args s' = true := fun w hw => vx_ot_at hW0 hvm.symm (hgood w (List.mem_cons_of_mem _ (List.mem_cons_of_mem _ hw))) (hat w hw)
  have hk' : (Cond.classLink own ik cls).before args s' = true := vx_ot_at hW0 hvm.symm (hgood _ List.mem_cons_self) hk
  have hini' : (Cond.initialized cls).before args s' = true := vx_ot_at hW0 hvm.symm (hgood _ (List.mem_cons_of_mem _ List.mem_cons_self)) hini
  have hU' : vx_Zq Bundle.tN "UNASSIGNED_STACK" Bundle.steD A s' s'.heap := by rw [hhp]; exact vx_Zq.moved hW0.alike (hU.kept hS.2.1)
  have hN' : vx_Zq Bundle.tN "SUPPRESSED_SENTINEL" Bundle.listD A s' s'.heap := by rw [hhp]; exact vx_Zq.moved hW0.alike (hN.kept hS.2.1)
  have h : ∀ w ∈ Bundle.ownAtoms own ic cls names, w.before args s' = true := vx_own hat' (vx_isRefq hU'.1) (vx_isRefq hN'.1) hU'.2.word hN'.2.word
  have hown' : s'.vm.findClass own = some m.cls := by rw [hvm]; exact hown
  have hins : (Cond.instantiable cls 6).before args s' = true := h _ (by simp [Bundle.ownAtoms])
  obtain ⟨vm₁, cX, kX, hfX, hkX, -, -, X₁, st1⟩ := Y.newCold hexec (own := own) (C := cls) (index := ik) (n := 6) hown' hk' hins hini'
    (g := F0 m pc ls rest) rfl (by rw [hb]; exact d0) (Nat.le_refl _) (Nat.le_refl _)
  generalize hT1 : (T.setVm vm₁).pushCell { cls := cX, slots := kX.instanceTypes.map defaultValue, vm := .none } = T1 at X₁ st1
  have hcat : (Value.ref T.heap.size).category = 1 := rfl
  have hcellA : T1.heap[T.heap.size]? = some (freshCell cX kX) := by rw [← hT1]; exact State.heap_pushCell_size _ _
  have d3' : decode c.code (pc + 3) = .ok (.dup, 1) := by rw [hb]; exact d3
  have d4' : decode c.code (pc + 4) = .ok (.ldc is, 2) := by rw [hb]; exact d4
  have hstr' : vk_R own is text sa s' := vk_R.warm hW0 hstr
  obtain ⟨U, hsteps, hrun, hend, hW, hsame, ce, hce, hO⟩ := X₁.ctorThrowS hexec htr (own := own) (cls := cls) (names := names) (ic := ic) hown' hcls hnames h (fun x hx => nomatch hx) hfX hkX hcellA (by rw [hhp, hT]; exact Nat.le_refl _) (msg := .ref sa) rfl
    (g := { method := m, pc := pc + 6, locals := ls, stack := .ref sa :: .ref T.heap.size :: .ref T.heap.size :: rest, locked := none }) rfl hsize rfl rfl (rest := rest) rfl
    (by rw [hb]; exact d6) (by rw [hb]; exact d9) hout hRframes (by simp only [List.map_cons, List.sum_cons, hcat]; omega) hlocks
  obtain ⟨f1, f2⟩ := vx_frame hsame
  rw [hhp] at f1 f2
  have hWs : s.WarmedH U.vm := State.WarmedH.trans hW0 hW
  have hcl : s.vm.findClass cls = some ce.cls := by
    have h9 := hO.cls
    rw [hvm] at h9
    exact h9
  have hall : s.sameButNew ({ U with vm := s.vm } : State) locs mc ms := by
    subst hA
    obtain ⟨e1, e2⟩ := hsame
    rw [State.setFrames_setFrames] at e1
    have h2 : (T.setVm s.vm).sameButNew ({ U with vm := s.vm } : State) [] (0 + 1) (0 + 6) := ⟨e1, e2⟩
    have h3 := X.same.trans h2
    rw [List.append_nil] at h3
    exact h3.mono hc hs
  refine ⟨U, ?_, .threw T.heap.size, hrun, hend, Or.inr ⟨T.heap.size, rfl, cls, ce, locs, hx U hWs.alike f1 (fun q hq => f2 q hq (fun z hz => nomatch hz)), hce, hO.vm, hcl, hWs, hall, hf⟩⟩
  refine st1 _ ?_
  show Steps p.tables e below (T1.setTop { method := m, pc := pc + 3, locals := ls, stack := .ref T.heap.size :: rest, locked := none }) _
  jvm_step X₁.here [X₁.here.top, hexec, d3', Value.category]
  exact X₁.ldcString hexec (own := own) (text := text) (index := is) (a := sa) hown' hstr'.1 hstr'.2
    (g := { method := m, pc := pc + 4, locals := ls, stack := .ref T.heap.size :: .ref T.heap.size :: rest, locked := none }) rfl d4' _ hsteps
/-- 'throw new E("text")', the text by a wide index -/
theorem vx_throwSW {cc : ByteArray} {pc : Nat} (hexec : p.tables.exec = Jvm.exec) (hb : c.code = cc) (hl : l.stackTraces = false) {own cls text : String} {names : List String} {ik is ic mc ms sa : Nat} {A : Nat → Prop}
    (hown : s.vm.findClass own = some m.cls) (hcls : Bundle.fit cls = true) (hnames : ∀ n ∈ names, Bundle.fit n = true)
    (hk : (Cond.classLink own ik cls).before args s = true) (hini : (Cond.initialized cls).before args s = true) (hstr : vk_R own is text sa s) (hat : ∀ w ∈ vx_atS own ic cls names, w.before args s = true)
    (hgood : ∀ w ∈ Cond.classLink own ik cls :: Cond.initialized cls :: vx_atS own ic cls names, vx_ot w = true)
    (hU : vx_Zq Bundle.tN "UNASSIGNED_STACK" Bundle.steD A s s.heap) (hN : vx_Zq Bundle.tN "SUPPRESSED_SENTINEL" Bundle.listD A s s.heap) (hS : va_S A s.heap H locs) (hsize : ls.size = c.maxLocals)
    (d0 : decode cc pc = .ok (.new ik, 3)) (d3 : decode cc (pc + 3) = .ok (.dup, 1)) (d4 : decode cc (pc + 4) = .ok (.ldc_w is, 3)) (d7 : decode cc (pc + 7) = .ok (.invokespecial ic, 3)) (d10 : decode cc (pc + 10) = .ok (.athrow, 1))
    (hout : ∀ x ∈ c.exceptionTable.toList, covers x (pc + 10) = false)
    (hRframes : names.length + 3 < R.frames) (hRlocals : (rest.map fun v => v.category).sum + (13 * (names.length + 1) + 43) ≤ R.locals) (hRcells : cells + 1 ≤ R.cells) (hRslots : slots + 6 ≤ R.slots) (hlocks : meth.locks = false)
    (hx : ∀ t : State, s.vm.Alike t.vm → H.size ≤ t.heap.size → (∀ q : Nat, q < H.size → t.heap[q]? = H[q]?) → XC cls s t)
    (hf : ∀ z ∈ locs, free z.base) (hc : cells + 1 ≤ mc) (hs : slots + 6 ≤ ms) :
    W p l e R s m args below meth c H locs cells slots (vx_MQ below Qc XC args s mc ms free) (F0 m pc ls rest) := by
  intro T hT X
  have htr : e.platform.stackTraces = false := (show e.platform.stackTraces = l.stackTraces by rw [X.admits.platform]).trans hl
  have Y := vx_rebase X (R' := { frames := R.frames, locals := R.locals, cells := 1, slots := 6 }) (Nat.le_refl _) (Nat.le_refl _) hRcells hRslots
  obtain ⟨s', hA⟩ : ∃ z, z = (T.setVm s.vm).setFrames (.invoking m args :: below) := ⟨_, rfl⟩
  rw [← hA] at Y
  have hvm : s'.vm = s.vm := by rw [hA]; rfl
  have hhp : s'.heap = H := by rw [hA]; exact hT
  have hW0 : s.WarmedH s'.vm := by rw [hvm]; exact State.WarmedH.refl s
  have hat' : ∀ w ∈ vx_atS own ic cls names, w.before args s' = true := fun w hw => vx_ot_at hW0 hvm.symm (hgood w (List.mem_cons_of_mem _ (List.mem_cons_of_mem _ hw))) (hat w hw)
  have hk' : (Cond.classLink own ik cls).before args s' = true := vx_ot_at hW0 hvm.symm (hgood _ List.mem_cons_self) hk
  have hini' : (Cond.initialized cls).before args s' = true := vx_ot_at hW0 hvm.symm (hgood _ (List.mem_cons_of_mem _ List.mem_cons_self)) hini
  have hU' : vx_Zq Bundle.tN "UNASSIGNED_STACK" Bundle.steD A s' s'.heap := by rw [hhp]; exact vx_Zq.moved hW0.alike (hU.kept hS.2.1)
  have hN' : vx_Zq Bundle.tN "SUPPRESSED_SENTINEL" Bundle.listD A s' s'.heap := by rw [hhp]; exact vx_Zq.moved hW0.alike (hN.kept hS.2.1)
  have h : ∀ w ∈ Bundle.ownAtoms own ic cls names, w.before args s' = true := vx_own hat' (vx_isRefq hU'.1) (vx_isRefq hN'.1) hU'.2.word hN'.2.word
  have hown' : s'.vm.findClass own = some m.cls := by rw [hvm]; exact hown
  have hins : (Cond.instantiable cls 6).before args s' = true := h _ (by simp [Bundle.ownAtoms])
  obtain ⟨vm₁, cX, kX, hfX, hkX, -, -, X₁, st1⟩ := Y.newCold hexec (own := own) (C := cls) (index := ik) (n := 6) hown' hk' hins hini'
    (g := F0 m pc ls rest) rfl (by rw [hb]; exact d0) (Nat.le_refl _) (Nat.le_refl _)
  generalize hT1 : (T.setVm vm₁).pushCell { cls := cX, slots := kX.instanceTypes.map defaultValue, vm := .none } = T1 at X₁ st1
  have hcat : (Value.ref T.heap.size).category = 1 := rfl
  have hcellA : T1.heap[T.heap.size]? = some (freshCell cX kX) := by rw [← hT1]; exact State.heap_pushCell_size _ _
  have d3' : decode c.code (pc + 3) = .ok (.dup, 1) := by rw [hb]; exact d3
  have d4' : decode c.code (pc + 4) = .ok (.ldc_w is, 3) := by rw [hb]; exact d4
  have hstr' : vk_R own is text sa s' := vk_R.warm hW0 hstr
  obtain ⟨U, hsteps, hrun, hend, hW, hsame, ce, hce, hO⟩ := X₁.ctorThrowS hexec htr (own := own) (cls := cls) (names := names) (ic := ic) hown' hcls hnames h (fun x hx => nomatch hx) hfX hkX hcellA (by rw [hhp, hT]; exact Nat.le_refl _) (msg := .ref sa) rfl
    (g := { method := m, pc := pc + 7, locals := ls, stack := .ref sa :: .ref T.heap.size :: .ref T.heap.size :: rest, locked := none }) rfl hsize rfl rfl (rest := rest) rfl
    (by rw [hb]; exact d7) (by rw [hb]; exact d10) hout hRframes (by simp only [List.map_cons, List.sum_cons, hcat]; omega) hlocks
  obtain ⟨f1, f2⟩ := vx_frame hsame
  rw [hhp] at f1 f2
  have hWs : s.WarmedH U.vm := State.WarmedH.trans hW0 hW
  have hcl : s.vm.findClass cls = some ce.cls := by
    have h9 := hO.cls
    rw [hvm] at h9
    exact h9
  have hall : s.sameButNew ({ U with vm := s.vm } : State) locs mc ms := by
    subst hA
    obtain ⟨e1, e2⟩ := hsame
    rw [State.setFrames_setFrames] at e1
    have h2 : (T.setVm s.vm).sameButNew ({ U with vm := s.vm } : State) [] (0 + 1) (0 + 6) := ⟨e1, e2⟩
    have h3 := X.same.trans h2
    rw [List.append_nil] at h3
    exact h3.mono hc hs
  refine ⟨U, ?_, .threw T.heap.size, hrun, hend, Or.inr ⟨T.heap.size, rfl, cls, ce, locs, hx U hWs.alike f1 (fun q hq => f2 q hq (fun z hz => nomatch hz)), hce, hO.vm, hcl, hWs, hall, hf⟩⟩
  refine st1 _ ?_
  show Steps p.tables e below (T1.setTop { method := m, pc := pc + 3, locals := ls, stack := .ref T.heap.size :: rest, locked := none }) _
  jvm_step X₁.here [X₁.here.top, hexec, d3', Value.category]
  exact X₁.ldcStringW hexec (own := own) (text := text) (index := is) (a := sa) hown' hstr'.1 hstr'.2
    (g := { method := m, pc := pc + 4, locals := ls, stack := .ref T.heap.size :: .ref T.heap.size :: rest, locked := none }) rfl d4' _ hsteps
end Ends
section Bodies
variable {l : Launch}
theorem vx_ofW {y : MethodName} {ws ws' : List Cond} {rm : Room} {Pc : Array Value → State → Prop} {Qc : Array Value → State → Outcome → State → Prop} {XC : String → State → State → Prop} {mc ms : Nat} {free : Addr → Prop} {cc : ByteArray} {maxL : Nat} {ret : Option FieldType}
    (hy : plainName y.cls = true) (hw : ws = Cond.code y cc maxL ret :: ws')
    (body : ∀ p e s m args below meth c s₁, BodyLoose p l y (headSpec ws rm) cc maxL ret e s m args below meth c s₁ → c.maxLocals = maxL → (∀ x ∈ c.exceptionTable.toList, False) → Pc args s →
      W p l e (headSpec ws rm).room s m args below meth c s.heap [] 0 0 (vx_MQ below Qc XC args s mc ms free) (entryFrame m args maxL)) : vx_Met l y ws rm Pc Qc XC mc ms free := by
  refine MetFree.of_bodyS (code := cc) (maxLocals := maxL) (ret := ret) hy ?_ ?_
  · intro args s m h hn
    obtain ⟨meth, c, h1, h2, h3, h4, h5, h6, -, -⟩ := Cond.code_spec hn (atoms_spec (ws := ws) h _ (by rw [hw]; exact List.mem_cons_self))
    exact ⟨meth, c, h1, h2, h3, h4, h5, h6⟩
  · intro p e s m args below meth c s₁ B hml hP _
    have hh0 : s₁.heap = s.heap := by rw [B.state]; rfl
    have ht : ∀ x ∈ c.exceptionTable.toList, False := by
      obtain ⟨meth9, c9, h1, h2, -, -, -, -, h7, -⟩ := Cond.code_spec B.named (atoms_spec (ws := ws) B.pre _ (by rw [hw]; exact List.mem_cons_self))
      cases Option.some.inj (h1.symm.trans B.method)
      cases Option.some.inj (h2.symm.trans (Stand.of_body B).code)
      intro x hx
      rw [Array.isEmpty_iff.mp h7] at hx
      cases hx
    obtain ⟨t, a1, o, b1, b2, b3⟩ := body p e s m args below meth c s₁ B hml ht hP s₁ hh0 (Stand.of_body B)
    exact ⟨t, o, a1, b1, b2, b3⟩
/-- the table of a body with handlers -/
theorem vx_table {p : Program} {x y : MethodName} {S : Spec} {cc bytes : ByteArray} {maxL maxL' : Nat} {ret ret' : Option FieldType} {e : Env} {s s₁ : State} {m : MethodId} {args : Array Value} {below : List Frame} {meth : Method} {c : Code} {hh : List (Nat × Nat × Nat × Nat)}
    (B : BodyLoose p l y S cc maxL ret e s m args below meth c s₁) (h : (Cond.codeWith y bytes maxL' ret' hh).before args s = true) : c.exceptionTable.toList = tableOf hh := by
  obtain ⟨m9, meth9, c9, hn9, h1, h2, -, -, h6, -⟩ := Cond.codeWith_spec h
  cases Option.some.inj (hn9.symm.trans B.named)
  cases Option.some.inj (h1.symm.trans B.method)
  cases Option.some.inj (h2.symm.trans (Stand.of_body B).code)
  rw [← h6, table_eq]
end Bodies
end VXA
/-! ===== END ===== -/
/-! ===== BEGIN a static call of a method with an exception table ===== -/
section VXS
variable {p : Program} {l : Launch} {e : Env} {R : Room} {s : State} {m : MethodId} {args : Array Value} {below : List Frame} {meth : Method} {c : Code} {T : State} {H : Heap} {locs : List Loc} {cells slots : Nat}
abbrev vx_CSW (R : Room) (s : State) (args : Array Value) (own : String) (index : Nat) (y : MethodName) (bytes : ByteArray) (maxL : Nat) (ret : Option FieldType) (hh : List (Nat × Nat × Nat × Nat)) (ws : List Cond) (rm : Room) (mc ms n : Nat) : Prop :=
  (rm.cells = mc ∧ rm.slots = ms ∧ rm.frames + 1 ≤ R.frames ∧ 8 + (maxL + 11) + rm.locals ≤ R.locals ∧ (∀ w ∈ ws, ∀ (a' : Array Value) (U : State), s.WarmedH U.vm → w.before a' U = true) ∧ Cond.codeWith y bytes maxL ret hh ∈ ws) ∧
  (Cond.codeWith y bytes maxL ret hh).before args s = true ∧ (Cond.initialized y.cls).before args s = true ∧ (y.cls ≠ "java/lang/invoke/MethodHandle" ∧ y.cls ≠ "java/lang/invoke/VarHandle") ∧
  (∀ sig, parseMethodDescriptor y.desc = some sig → n = sig.parameters.length) ∧ (Cond.methodLink own index y).before args s = true ∧ (Cond.static y).before args s = true
theorem vx_cwSW {own : String} {index maxL mc ms : Nat} {y : MethodName} {bytes : ByteArray} {ret : Option FieldType} {hh : List (Nat × Nat × Nat × Nat)} {Ts ws ws' : List Cond} {rm : Room} (n : Nat) (ht : ∀ w ∈ Ts, w.before args s = true) (hT : GoodIn Ts (va_wsS own index y ws)) (hw : ws = Cond.codeWith y bytes maxL ret hh :: ws') (hrc : rm.cells = mc) (hrs : rm.slots = ms)
    (hd : y.cls ≠ "java/lang/invoke/MethodHandle" ∧ y.cls ≠ "java/lang/invoke/VarHandle" ∧ (parseMethodDescriptor y.desc).map (fun d => d.parameters.length) = some n) (hR : rm.frames + 1 ≤ R.frames ∧ 8 + (maxL + 11) + rm.locals ≤ R.locals) :
    vx_CSW R s args own index y bytes maxL ret hh ws rm mc ms n := by
  have ok : ∀ w ∈ va_wsS own index y ws, w.before args s = true := fun w h => ht w (hT w h).1
  have hG : GoodIn Ts ws := fun w h => hT w (by unfold va_wsS; exact List.mem_append_right _ h)
  have hc : Cond.codeWith y bytes maxL ret hh ∈ ws := by rw [hw]; exact List.mem_cons_self
  refine ⟨⟨hrc, hrs, hR.1, hR.2, pay_in ht hG, hc⟩, ht _ (hG _ hc).1, ok _ (by simp [va_wsS]), ⟨hd.1, hd.2.1⟩, fun sig h => ?_, ok _ (by simp [va_wsS]), ok _ (by simp [va_wsS])⟩
  have h2 := hd.2.2
  rw [h] at h2
  exact (Option.some.inj h2).symm
theorem vx_callSW (X : Stand p l e R s m args below meth c T locs cells slots) (hexec : p.tables.exec = Jvm.exec) {own : String} {index : Nat} {y : MethodName} {bytes : ByteArray} {maxL : Nat} {ret : Option FieldType} {hh : List (Nat × Nat × Nat × Nat)}
    (hown : s.vm.findClass own = some m.cls) (hlink : (Cond.methodLink own index y).before args s = true) (hstat : (Cond.static y).before args s = true) (hinit : (Cond.initialized y.cls).before args s = true)
    (hcode : (Cond.codeWith y bytes maxL ret hh).before args s = true) (hy : y.cls ≠ "java/lang/invoke/MethodHandle" ∧ y.cls ≠ "java/lang/invoke/VarHandle")
    {W9 : Nat} {Pre : Pt → Array Value → Prop} {Post : Pt → Array Value → Option Value → Pt → Prop} (hK : Back l R p e below s args y 3 W9 Pre Post)
    {g : JFrame} (hg : g.method = m) (hsize : g.locals.size = c.maxLocals) {argsL rest : List Value} (hlen : ∀ sig, parseMethodDescriptor y.desc = some sig → argsL.length = sig.parameters.length)
    (hstack : g.stack = argsL.reverse ++ rest) (hW : 2 * g.monitorRoom + (rest.map fun v => v.category).sum ≤ W9) (hdg : decode c.code g.pc = .ok (.invokestatic index, 3))
    (hpre : ∀ vm₁, s.WarmedH vm₁ → Pre ⟨T.setVm vm₁, locs, cells, slots⟩ argsL.toArray) :
    ∃ (v : Option Value) (vm₁ : Vm) (B : Pt), s.WarmedH vm₁ ∧ Stand p l e R s m args below meth c B.U B.locs B.cells B.slots ∧ Post ⟨T.setVm vm₁, locs, cells, slots⟩ argsL.toArray v B ∧
      ∀ target, Steps p.tables e below (B.U.setTop { g with pc := g.pc + 3, stack := v.toList ++ rest }) target → Steps p.tables e below (T.setTop g) target := by
  obtain ⟨mk, methM, cM, hnamed, hmethM, -, -, -, -, -, -, hsigM⟩ := Cond.codeWith_spec hcode
  have hstatic : methM.isStatic = true := Cond.static_spec hnamed hmethM hstat
  obtain ⟨kP, hkP, -⟩ := className_of_methodNamed hnamed
  have hinitP : kP.init = .initialized := Cond.initialized_spec (findClass_of_methodNamed hnamed) hkP hinit
  obtain ⟨vm₁, X₁, hstep₁⟩ := X.invokestatic hexec hown hlink hnamed hmethM hstatic hkP hinitP hy (g := g) hg (argsL := argsL) (rest := rest) (hlen _ hsigM) hstack hdg
  obtain ⟨v, B, X', hpost, hsteps⟩ := hK m meth c ⟨T.setVm vm₁, locs, cells, slots⟩ { g with stack := rest } (.invokestatic index) mk argsL.toArray X₁ hg hsize hdg hW (X₁.named hnamed) (hpre vm₁ X₁.warmed)
  exact ⟨v, vm₁, B, X₁.warmed, X', hpost, fun target h => hstep₁ _ fun acts => by rw [doInvoke_state]; exact hsteps.trans h⟩
theorem vx_runSW {y : MethodName} {bytes cc : ByteArray} {maxL nL mc ms n index : Nat} {ret : Option FieldType} {hh : List (Nat × Nat × Nat × Nat)} {ws : List Cond} {rm : Room} {Pc : Array Value → State → Prop} {Qc : Array Value → State → Outcome → State → Prop} {free : Addr → Prop} {Ts : List Cond} {own : String} {As rest : List Value} {g : JFrame}
    (S : CallFix p m c cc nL s args Ts own) (hM : Met l y ws rm Pc Qc mc ms free) (cw : vx_CSW R s args own index y bytes maxL ret hh ws rm mc ms n) (hp : PreS s H Pc As)
    (hg : g.method = m) (hn : As.length = n) (hsize : g.locals.size = nL) (hstack : g.stack = As.reverse ++ rest) (hW : 2 * g.monitorRoom + (rest.map fun v => v.category).sum ≤ 8) (hdg : decode cc g.pc = .ok (.invokestatic index, 3)) (hf : cells + mc ≤ R.cells ∧ slots + ms ≤ R.slots) :
    va_Run p l e R s m args below meth c H locs cells slots mc ms g rest (Qc As.toArray) (free) := by
  obtain ⟨⟨hrc, hrs, hfr, hlo, hws, hcw⟩, hcode, hini, hy, hlen, hl, hstt⟩ := cw
  have hK : Back l R p e below s args y 3 8 (PreOf R mc ms Pc) (PostOf Qc mc ms free) := va_backW (hh := hh) (bytes := bytes) (maxL := maxL) (ret := ret) hM hp.1 hrc hrs hfr hlo hws hcw (fun a' U hW => word_at hW (Or.inl (by first | rfl | simp [Cond.onTables, Cond.keeps, Cond.steady])) hini)
  obtain ⟨hx, hb, hml, ho, -⟩ := S
  intro T hT X
  obtain ⟨v, vm₁, ⟨U', l2, c2, s2⟩, hW₁, X', ⟨g', mk, t, L, e1, e2, hq, h1, hL, h2, h3⟩, st⟩ := vx_callSW X hx (hh := hh) (bytes := bytes) (maxL := maxL) (ret := ret) ho hl hstt hini hcode hy hK hg (hsize.trans hml.symm) (argsL := As) (rest := rest) (fun sig h => hn.trans (hlen sig h)) hstack hW (by rw [hb]; exact hdg)
    (fun vm₁ hW₁ => ⟨hf.1, hf.2, hp.2 (T.setVm vm₁) hT hW₁⟩)
  dsimp only [Pt.U, Pt.locs, Pt.cells, Pt.slots] at X' e1 e2 h1 h2 h3 st
  subst h1; subst h2; subst h3
  exact ⟨v, (T.setVm vm₁).calling g' mk As.toArray, t, U', L, hT, X', hL, e1, e2, hq, st⟩
/-- a thing of a world lies in the heap -/
theorem vx_lt {D : va_G} {cl : List vw_C} {ws : va_W} {H1 : Heap} (h : va_P D cl ws H1) {k : Nat} {q : Nat × va_E} (hk : ws[k]? = some q) : q.1 < H1.size := (h k q hk).lt
end VXS
/-! ===== END ===== -/
/-! ===== BEGIN methods with a table of their own: called by a name, returning or throwing ===== -/
section VXH
/-! vx_backW, vx_callVX, vx_callSX, vx_callVW, vx_runVW, vx_runVX, vx_runSX, vx_ofWH follow the same proofs as their sisters above (Free/Laws.lean, Shelf42/LK1.lean); vx_outP calls Shelf42/NT130.lean (outThrough). -/
section
variable {l : Launch} {R : Room} {p : Program} {e : Env} {below : List Frame} {s : State} {sargs : Array Value} {y : MethodName} {len W9 : Nat}
theorem vx_backW {ws : List Cond} {rm : Room} {Pc : Array Value → State → Prop} {Qc : Array Value → State → Outcome → State → Prop} {XC : String → State → State → Prop} {mc ms : Nat} {free : Addr → Prop} {bytes : ByteArray} {maxL : Nat} {ret : Option FieldType} {hh : List (Nat × Nat × Nat × Nat)}
    (hM : vx_Met l y ws rm Pc Qc XC mc ms free) (hblind : FrameBlind Pc) (hrc : rm.cells = mc) (hrs : rm.slots = ms)
    (hframes : rm.frames + 1 ≤ R.frames) (hlocals : W9 + (maxL + 11) + rm.locals ≤ R.locals)
    (hws : ∀ w ∈ ws, ∀ a' U, s.WarmedH U.vm → w.before a' U = true) (hcode : Cond.codeWith y bytes maxL ret hh ∈ ws) (hinit : ∀ a' U, s.WarmedH U.vm → (Cond.initialized y.cls).before a' U = true) :
    vx_Back l R p e below s sargs y len W9 (PreOf R mc ms Pc) (PostOf Qc mc ms free) (vx_Post XC mc ms free) := by
  intro m meth c A g ig mk a X hg hsize hdg hW hn hp
  have h1 : (headSpec ws rm).pre.before a A.U = true := atoms_intro fun w hw => hws w hw _ _ X.warmed
  have h2 : (Cond.codeWith y bytes maxL ret hh).before a A.U = true := hws _ hcode _ _ X.warmed
  have h3 : (Cond.initialized y.cls).before a A.U = true := hinit _ _ X.warmed
  have h4 : A.cells + (headSpec ws rm).room.cells ≤ R.cells := by rw [show (headSpec ws rm).room.cells = mc from hrc]; exact hp.1
  have h5 : A.slots + (headSpec ws rm).room.slots ≤ R.slots := by rw [show (headSpec ws rm).room.slots = ms from hrs]; exact hp.2.1
  have hPc : Pc a (A.U.calling g mk a) := hblind _ _ _ _ hp.2.2
  obtain ⟨U, Ls, c0, s0⟩ := A
  dsimp only [Pt.U, Pt.locs, Pt.cells, Pt.slots] at h1 h2 h3 h4 h5 X hn hPc ⊢
  obtain ⟨m9, methY, cY, hn9, hmY, hcY, -, hlY, -⟩ := Cond.codeWith_spec h2
  cases Option.some.inj (hn9.symm.trans hn)
  obtain ⟨kY, hkY, -⟩ := className_of_methodNamed hn
  have hinitY : kY.init = .initialized := Cond.initialized_spec (findClass_of_methodNamed hn) hkY h3
  have h : At U g.method c below := by rw [hg]; exact X.here
  have hlocals9 : W9 + (maxL + 11) + (headSpec ws rm).room.locals ≤ R.locals := hlocals
  have happ : (headSpec ws rm).appliesLoose y e.platform (U.calling g mk a) = true :=
    Spec.appliesLoose_calling (g := g) h hdg hn hkY hinitY
      (X.room_calling (g := g) (R' := (headSpec ws rm).room) hsize hmY hcY hframes (by rw [hlY]; omega) h4 h5) h1
  obtain ⟨mid, hmid⟩ := h.above
  have hfr : (U.setTop g).frames = (.java g :: mid) ++ below := by rw [State.frames_setTop' g h.top, hmid]; rfl
  obtain ⟨o, s₂, hsteps, -, hend, hq⟩ := Steps.callFree hM p X.admits X.cas X.clock (acts := []) hfr happ hPc trivial
  have hq' : vx_Q Qc XC mc ms free a (U.calling g mk a) o s₂ := hq
  rw [State.frames_setTop' g h.top] at hend
  obtain ⟨g₀, hg0⟩ := Option.isSome_iff_exists.mp h.top
  obtain ⟨r, hr⟩ := State.topJava?_eq_some.mp hg0
  have hr' : (({ U with heap := s₂.heap, slotsUsed := s₂.slotsUsed } : State).setVm s₂.vm).frames = .java g₀ :: r := hr
  rcases hq' with ⟨hqc, L, hfe, hL⟩ | ⟨q, rfl, E, ce, L, hx, hce, hcv, hcl, hW₂, hsm, hL⟩
  · obtain ⟨⟨v, rfl⟩, hW₂, e2, q2, q3, q4, q5, q6⟩ := id hfe
    have e3 : s₂ = ({ (U.calling g mk a).setFrames s₂.frames with heap := s₂.heap, slotsUsed := s₂.slotsUsed } : State).setVm s₂.vm := by
      have : s₂ = ({ s₂ with vm := (U.calling g mk a).vm } : State).setVm s₂.vm := rfl
      rw [e2] at this
      exact this
    obtain ⟨c₂, i₂, len₂, hc₂, hd₂, hf₂⟩ := hend
    have hW' : U.WarmedH s₂.vm := hW₂
    have hcc : c₂ = c := by
      have h1 : s₂.code? g.method = U.code? g.method := by
        rw [State.code?_eq, State.code?_eq, hW'.alike.method?]
      exact Option.some.inj (hc₂.symm.trans (h1.trans h.code))
    subst hcc
    have hlen : len₂ = len := by rw [hdg] at hd₂; cases hd₂; rfl
    subst hlen
    have hs₂ : s₂ = (({ U with heap := s₂.heap, slotsUsed := s₂.slotsUsed } : State).setVm s₂.vm).setTop { g with pc := g.pc + len₂, stack := v.toList ++ g.stack } := by
      refine e3.trans ?_
      rw [hf₂, State.calling_eq h.top, State.setFrames_setFrames, State.setTop_of_frames _ hr', hr]
      rfl
    have hsame : U.sameButNew ({ U with heap := s₂.heap, slotsUsed := s₂.slotsUsed } : State) L mc ms := by
      refine ⟨?_, q2, q3, q4, q5, q6⟩
      obtain ⟨t, ht, -⟩ := State.frames_cons hr
      show ({ U with heap := s₂.heap, slotsUsed := s₂.slotsUsed } : State) = { U.setFrames U.frames with heap := s₂.heap, slotsUsed := s₂.slotsUsed }
      rw [State.setFrames_self ht]
    subst hg
    refine Or.inl ⟨v, ⟨(({ U with heap := s₂.heap, slotsUsed := s₂.slotsUsed } : State).setVm s₂.vm), Ls ++ L, c0 + mc, s0 + ms⟩,
      ⟨X.admits, X.cas, X.clock, X.frames, X.room, X.hears, X.method, X.code, (X.here.setHeapUsed s₂.heap s₂.slotsUsed).setVm hW'.alike, X.tail, State.WarmedH.trans X.warmed hW', X.limits, X.bytes, X.same.trans (hsame.setVm s.vm)⟩,
      ⟨g, mk, s₂, L, rfl, rfl, hqc, rfl, hL, rfl, rfl⟩, ?_⟩
    show Steps p.tables e below _ ((({ U with heap := s₂.heap, slotsUsed := s₂.slotsUsed } : State).setVm s₂.vm).setTop { g with pc := g.pc + len₂, stack := v.toList ++ g.stack })
    rw [← hs₂]
    exact hsteps
  · obtain ⟨e2, q2, q3, q4, q5, q6⟩ := id hsm
    have e3 : s₂ = ({ (U.calling g mk a).setFrames s₂.frames with heap := s₂.heap, slotsUsed := s₂.slotsUsed } : State).setVm s₂.vm := by
      have : s₂ = ({ s₂ with vm := (U.calling g mk a).vm } : State).setVm s₂.vm := rfl
      rw [e2] at this
      exact this
    have hf₂ : s₂.frames = .throwing q :: .java g :: U.frames.tail := hend
    have hW' : U.WarmedH s₂.vm := hW₂
    have hs₂ : s₂ = ((({ U with heap := s₂.heap, slotsUsed := s₂.slotsUsed } : State).setVm s₂.vm).setTop g).pushFrame (.throwing q) := by
      refine e3.trans ?_
      rw [hf₂, State.calling_eq h.top, State.setFrames_setFrames, State.pushFrame, State.frames_setTop _ hr', State.setTop_of_frames _ hr', State.setFrames_setFrames, hr]
      rfl
    have hsame : U.sameButNew ({ U with heap := s₂.heap, slotsUsed := s₂.slotsUsed } : State) L mc ms := by
      refine ⟨?_, q2, q3, q4, q5, q6⟩
      obtain ⟨t, ht, -⟩ := State.frames_cons hr
      show ({ U with heap := s₂.heap, slotsUsed := s₂.slotsUsed } : State) = { U.setFrames U.frames with heap := s₂.heap, slotsUsed := s₂.slotsUsed }
      rw [State.setFrames_self ht]
    subst hg
    refine Or.inr ⟨q, ⟨(({ U with heap := s₂.heap, slotsUsed := s₂.slotsUsed } : State).setVm s₂.vm), Ls ++ L, c0 + mc, s0 + ms⟩,
      ⟨X.admits, X.cas, X.clock, X.frames, X.room, X.hears, X.method, X.code, (X.here.setHeapUsed s₂.heap s₂.slotsUsed).setVm hW'.alike, X.tail, State.WarmedH.trans X.warmed hW', X.limits, X.bytes, X.same.trans (hsame.setVm s.vm)⟩,
      ⟨g, mk, s₂, L, E, ce, rfl, rfl, hx, hce, hcv, hcl, rfl, hL, rfl, rfl⟩, ?_⟩
    show Steps p.tables e below _ (((({ U with heap := s₂.heap, slotsUsed := s₂.slotsUsed } : State).setVm s₂.vm).setTop g).pushFrame (.throwing q))
    rw [← hs₂]
    exact hsteps
end
variable {p : Program} {l : Launch} {e : Env} {R : Room} {s : State} {m : MethodId} {args : Array Value} {below : List Frame} {meth : Method} {c : Code} {T : State} {H : Heap} {locs : List Loc} {cells slots : Nat}
theorem vx_callVX (X : Stand p l e R s m args below meth c T locs cells slots) (hexec : p.tables.exec = Jvm.exec) {own C : String} {index : Nat} {y : MethodName} {bytes : ByteArray} {maxL : Nat} {ret : Option FieldType} {hh : List (Nat × Nat × Nat × Nat)}
    (hown : s.vm.findClass own = some m.cls) (hlink : (Cond.methodLink own index y).before args s = true) (hinst : (Cond.instanceMethod y).before args s = true) (hsel : (Cond.selects C y y).before args s = true)
    (hcode : (Cond.codeWith y bytes maxL ret hh).before args s = true) (hy : y.cls ≠ "java/lang/invoke/MethodHandle" ∧ y.cls ≠ "java/lang/invoke/VarHandle")
    {W9 : Nat} {Pre : Pt → Array Value → Prop} {Post : Pt → Array Value → Option Value → Pt → Prop} {PostX : Pt → Array Value → Addr → Pt → Prop} (hK : vx_Back l R p e below s args y 3 W9 Pre Post PostX)
    {b : Addr} {cellB : Cell} (hcell : T.heap[b]? = some cellB) (hobj : cellB.vm.isStatics = false) (hcls : s.vm.findClass C = some cellB.cls)
    {g : JFrame} (hg : g.method = m) (hsize : g.locals.size = c.maxLocals) {argsL rest : List Value} (hlen : ∀ sig, parseMethodDescriptor y.desc = some sig → argsL.length = sig.parameters.length)
    (hstack : g.stack = argsL.reverse ++ .ref b :: rest) (hW : 2 * g.monitorRoom + (rest.map fun v => v.category).sum ≤ W9) (hdg : decode c.code g.pc = .ok (.invokevirtual index, 3))
    (hpre : ∀ vm₁, s.WarmedH vm₁ → Pre ⟨T.setVm vm₁, locs, cells, slots⟩ (Value.ref b :: argsL).toArray) :
    (∃ (v : Option Value) (vm₁ : Vm) (B : Pt), s.WarmedH vm₁ ∧ Stand p l e R s m args below meth c B.U B.locs B.cells B.slots ∧ Post ⟨T.setVm vm₁, locs, cells, slots⟩ (Value.ref b :: argsL).toArray v B ∧
      ∀ target, Steps p.tables e below (B.U.setTop { g with pc := g.pc + 3, stack := v.toList ++ rest }) target → Steps p.tables e below (T.setTop g) target) ∨
    (∃ (q : Addr) (vm₁ : Vm) (B : Pt), s.WarmedH vm₁ ∧ Stand p l e R s m args below meth c B.U B.locs B.cells B.slots ∧ PostX ⟨T.setVm vm₁, locs, cells, slots⟩ (Value.ref b :: argsL).toArray q B ∧
      Steps p.tables e below (T.setTop g) ((B.U.setTop { g with stack := rest }).pushFrame (.throwing q))) := by
  obtain ⟨mk, methM, hnamed, hmethM, hstM, habM⟩ := Cond.instanceMethod_spec hinst
  obtain ⟨m8, methM', cM, hn8, hmethM', -, -, -, -, -, -, hsigM⟩ := Cond.codeWith_spec hcode
  cases Option.some.inj (hn8.symm.trans hnamed)
  cases hmethM.symm.trans hmethM'
  obtain ⟨c2, r2, m2, q1, q2, q3, q4, kP, hkP, hkPi⟩ := Cond.selects_spec hsel
  cases hcls.symm.trans q1
  cases (State.methodFound?_of_named hnamed hy).symm.trans q2
  cases hnamed.symm.trans q3
  have hselP : selectMethod e.platform s.vm cellB.cls mk = .method mk := by rw [Launch.admits_selectMethod X.admits]; exact q4
  obtain ⟨vm₁, X₁, hstep₁⟩ := X.invokevirtual hexec hown hlink hnamed hmethM hstM hkP hkPi hy (a := b) (cell := cellB) hcell
    (fun z h => by rw [h] at hobj; cases hobj) hselP hmethM habM hkP hkPi (g := g) hg (argsL := argsL) (rest := rest) (hlen _ hsigM) hstack hdg
  rcases hK m meth c ⟨T.setVm vm₁, locs, cells, slots⟩ { g with stack := rest } (.invokevirtual index) mk (Value.ref b :: argsL).toArray X₁ hg hsize hdg hW (X₁.named hnamed) (hpre vm₁ X₁.warmed) with ⟨v, B, X', hpost, hsteps⟩ | ⟨q, B, X', hpost, hsteps⟩
  · exact Or.inl ⟨v, vm₁, B, X₁.warmed, X', hpost, fun target h => hstep₁ _ fun acts => by rw [doInvoke_state]; exact hsteps.trans h⟩
  · exact Or.inr ⟨q, vm₁, B, X₁.warmed, X', hpost, hstep₁ _ fun acts => by rw [doInvoke_state]; exact hsteps⟩
theorem vx_callSX (X : Stand p l e R s m args below meth c T locs cells slots) (hexec : p.tables.exec = Jvm.exec) {own : String} {index : Nat} {y : MethodName} {bytes : ByteArray} {maxL : Nat} {ret : Option FieldType} {hh : List (Nat × Nat × Nat × Nat)}
    (hown : s.vm.findClass own = some m.cls) (hlink : (Cond.methodLink own index y).before args s = true) (hstat : (Cond.static y).before args s = true) (hinit : (Cond.initialized y.cls).before args s = true)
    (hcode : (Cond.codeWith y bytes maxL ret hh).before args s = true) (hy : y.cls ≠ "java/lang/invoke/MethodHandle" ∧ y.cls ≠ "java/lang/invoke/VarHandle")
    {W9 : Nat} {Pre : Pt → Array Value → Prop} {Post : Pt → Array Value → Option Value → Pt → Prop} {PostX : Pt → Array Value → Addr → Pt → Prop} (hK : vx_Back l R p e below s args y 3 W9 Pre Post PostX)
    {g : JFrame} (hg : g.method = m) (hsize : g.locals.size = c.maxLocals) {argsL rest : List Value} (hlen : ∀ sig, parseMethodDescriptor y.desc = some sig → argsL.length = sig.parameters.length)
    (hstack : g.stack = argsL.reverse ++ rest) (hW : 2 * g.monitorRoom + (rest.map fun v => v.category).sum ≤ W9) (hdg : decode c.code g.pc = .ok (.invokestatic index, 3))
    (hpre : ∀ vm₁, s.WarmedH vm₁ → Pre ⟨T.setVm vm₁, locs, cells, slots⟩ argsL.toArray) :
    (∃ (v : Option Value) (vm₁ : Vm) (B : Pt), s.WarmedH vm₁ ∧ Stand p l e R s m args below meth c B.U B.locs B.cells B.slots ∧ Post ⟨T.setVm vm₁, locs, cells, slots⟩ argsL.toArray v B ∧
      ∀ target, Steps p.tables e below (B.U.setTop { g with pc := g.pc + 3, stack := v.toList ++ rest }) target → Steps p.tables e below (T.setTop g) target) ∨
    (∃ (q : Addr) (vm₁ : Vm) (B : Pt), s.WarmedH vm₁ ∧ Stand p l e R s m args below meth c B.U B.locs B.cells B.slots ∧ PostX ⟨T.setVm vm₁, locs, cells, slots⟩ argsL.toArray q B ∧
      Steps p.tables e below (T.setTop g) ((B.U.setTop { g with stack := rest }).pushFrame (.throwing q))) := by
  obtain ⟨mk, methM, cM, hnamed, hmethM, -, -, -, -, -, -, hsigM⟩ := Cond.codeWith_spec hcode
  have hstatic : methM.isStatic = true := Cond.static_spec hnamed hmethM hstat
  obtain ⟨kP, hkP, -⟩ := className_of_methodNamed hnamed
  have hinitP : kP.init = .initialized := Cond.initialized_spec (findClass_of_methodNamed hnamed) hkP hinit
  obtain ⟨vm₁, X₁, hstep₁⟩ := X.invokestatic hexec hown hlink hnamed hmethM hstatic hkP hinitP hy (g := g) hg (argsL := argsL) (rest := rest) (hlen _ hsigM) hstack hdg
  rcases hK m meth c ⟨T.setVm vm₁, locs, cells, slots⟩ { g with stack := rest } (.invokestatic index) mk argsL.toArray X₁ hg hsize hdg hW (X₁.named hnamed) (hpre vm₁ X₁.warmed) with ⟨v, B, X', hpost, hsteps⟩ | ⟨q, B, X', hpost, hsteps⟩
  · exact Or.inl ⟨v, vm₁, B, X₁.warmed, X', hpost, fun target h => hstep₁ _ fun acts => by rw [doInvoke_state]; exact hsteps.trans h⟩
  · exact Or.inr ⟨q, vm₁, B, X₁.warmed, X', hpost, hstep₁ _ fun acts => by rw [doInvoke_state]; exact hsteps⟩
theorem vx_callVW (X : Stand p l e R s m args below meth c T locs cells slots) (hexec : p.tables.exec = Jvm.exec) {own C : String} {index : Nat} {y : MethodName} {bytes : ByteArray} {maxL : Nat} {ret : Option FieldType} {hh : List (Nat × Nat × Nat × Nat)}
    (hown : s.vm.findClass own = some m.cls) (hlink : (Cond.methodLink own index y).before args s = true) (hinst : (Cond.instanceMethod y).before args s = true) (hsel : (Cond.selects C y y).before args s = true)
    (hcode : (Cond.codeWith y bytes maxL ret hh).before args s = true) (hy : y.cls ≠ "java/lang/invoke/MethodHandle" ∧ y.cls ≠ "java/lang/invoke/VarHandle")
    {W9 : Nat} {Pre : Pt → Array Value → Prop} {Post : Pt → Array Value → Option Value → Pt → Prop} (hK : Back l R p e below s args y 3 W9 Pre Post)
    {b : Addr} {cellB : Cell} (hcell : T.heap[b]? = some cellB) (hobj : cellB.vm.isStatics = false) (hcls : s.vm.findClass C = some cellB.cls)
    {g : JFrame} (hg : g.method = m) (hsize : g.locals.size = c.maxLocals) {argsL rest : List Value} (hlen : ∀ sig, parseMethodDescriptor y.desc = some sig → argsL.length = sig.parameters.length)
    (hstack : g.stack = argsL.reverse ++ .ref b :: rest) (hW : 2 * g.monitorRoom + (rest.map fun v => v.category).sum ≤ W9) (hdg : decode c.code g.pc = .ok (.invokevirtual index, 3))
    (hpre : ∀ vm₁, s.WarmedH vm₁ → Pre ⟨T.setVm vm₁, locs, cells, slots⟩ (Value.ref b :: argsL).toArray) :
    ∃ (v : Option Value) (vm₁ : Vm) (B : Pt), s.WarmedH vm₁ ∧ Stand p l e R s m args below meth c B.U B.locs B.cells B.slots ∧ Post ⟨T.setVm vm₁, locs, cells, slots⟩ (Value.ref b :: argsL).toArray v B ∧
      ∀ target, Steps p.tables e below (B.U.setTop { g with pc := g.pc + 3, stack := v.toList ++ rest }) target → Steps p.tables e below (T.setTop g) target := by
  obtain ⟨mk, methM, hnamed, hmethM, hstM, habM⟩ := Cond.instanceMethod_spec hinst
  obtain ⟨m8, methM', cM, hn8, hmethM', -, -, -, -, -, -, hsigM⟩ := Cond.codeWith_spec hcode
  cases Option.some.inj (hn8.symm.trans hnamed)
  cases hmethM.symm.trans hmethM'
  obtain ⟨c2, r2, m2, q1, q2, q3, q4, kP, hkP, hkPi⟩ := Cond.selects_spec hsel
  cases hcls.symm.trans q1
  cases (State.methodFound?_of_named hnamed hy).symm.trans q2
  cases hnamed.symm.trans q3
  have hselP : selectMethod e.platform s.vm cellB.cls mk = .method mk := by rw [Launch.admits_selectMethod X.admits]; exact q4
  obtain ⟨vm₁, X₁, hstep₁⟩ := X.invokevirtual hexec hown hlink hnamed hmethM hstM hkP hkPi hy (a := b) (cell := cellB) hcell
    (fun z h => by rw [h] at hobj; cases hobj) hselP hmethM habM hkP hkPi (g := g) hg (argsL := argsL) (rest := rest) (hlen _ hsigM) hstack hdg
  obtain ⟨v, B, X', hpost, hsteps⟩ := hK m meth c ⟨T.setVm vm₁, locs, cells, slots⟩ { g with stack := rest } (.invokevirtual index) mk (Value.ref b :: argsL).toArray X₁ hg hsize hdg hW (X₁.named hnamed) (hpre vm₁ X₁.warmed)
  exact ⟨v, vm₁, B, X₁.warmed, X', hpost, fun target h => hstep₁ _ fun acts => by rw [doInvoke_state]; exact hsteps.trans h⟩
abbrev vx_CVW (R : Room) (s : State) (args : Array Value) (own C : String) (index : Nat) (y : MethodName) (bytes : ByteArray) (maxL : Nat) (ret : Option FieldType) (hh : List (Nat × Nat × Nat × Nat)) (ws : List Cond) (rm : Room) (mc ms n : Nat) : Prop :=
  (rm.cells = mc ∧ rm.slots = ms ∧ rm.frames + 1 ≤ R.frames ∧ 8 + (maxL + 11) + rm.locals ≤ R.locals ∧ (∀ w ∈ ws, ∀ (a' : Array Value) (U : State), s.WarmedH U.vm → w.before a' U = true) ∧ Cond.codeWith y bytes maxL ret hh ∈ ws) ∧
  (Cond.codeWith y bytes maxL ret hh).before args s = true ∧ (Cond.initialized y.cls).before args s = true ∧ (y.cls ≠ "java/lang/invoke/MethodHandle" ∧ y.cls ≠ "java/lang/invoke/VarHandle") ∧
  (∀ sig, parseMethodDescriptor y.desc = some sig → n = sig.parameters.length) ∧ (Cond.methodLink own index y).before args s = true ∧ (Cond.instanceMethod y).before args s = true ∧ (Cond.selects C y y).before args s = true
theorem vx_cwVW {own C : String} {index maxL mc ms : Nat} {y : MethodName} {bytes : ByteArray} {ret : Option FieldType} {hh : List (Nat × Nat × Nat × Nat)} {Ts ws ws' : List Cond} {rm : Room} (n : Nat) (ht : ∀ w ∈ Ts, w.before args s = true) (hT : GoodIn Ts (wsV own index C y ws)) (hw : ws = Cond.codeWith y bytes maxL ret hh :: ws') (hrc : rm.cells = mc) (hrs : rm.slots = ms)
    (hd : y.cls = C ∧ y.cls ≠ "java/lang/invoke/MethodHandle" ∧ y.cls ≠ "java/lang/invoke/VarHandle" ∧ (parseMethodDescriptor y.desc).map (fun d => d.parameters.length) = some n) (hR : rm.frames + 1 ≤ R.frames ∧ 8 + (maxL + 11) + rm.locals ≤ R.locals) :
    vx_CVW R s args own C index y bytes maxL ret hh ws rm mc ms n := by
  obtain ⟨hC, hd⟩ := hd
  subst hC
  have ok : ∀ w ∈ wsV own index y.cls y ws, w.before args s = true := fun w h => ht w (hT w h).1
  have hG : GoodIn Ts ws := fun w h => hT w (by unfold wsV; exact List.mem_append_right _ h)
  have hc : Cond.codeWith y bytes maxL ret hh ∈ ws := by rw [hw]; exact List.mem_cons_self
  refine ⟨⟨hrc, hrs, hR.1, hR.2, pay_in ht hG, hc⟩, ht _ (hG _ hc).1, ok _ (by simp [wsV]), ⟨hd.1, hd.2.1⟩, fun sig h => ?_, ok _ (by simp [wsV]), ok _ (by simp [wsV]), ok _ (by simp [wsV])⟩
  have h2 := hd.2.2
  rw [h] at h2
  exact (Option.some.inj h2).symm
theorem vx_runVW {y : MethodName} {bytes cc : ByteArray} {maxL nL mc ms n index : Nat} {ret : Option FieldType} {hh : List (Nat × Nat × Nat × Nat)} {ws : List Cond} {rm : Room} {Pc : Array Value → State → Prop} {Qc : Array Value → State → Outcome → State → Prop} {free : Addr → Prop} {Ts : List Cond} {own C : String} {b : Addr} {As rest : List Value} {g : JFrame}
    (S : CallFix p m c cc nL s args Ts own) (hM : Met l y ws rm Pc Qc mc ms free) (cw : vx_CVW R s args own C index y bytes maxL ret hh ws rm mc ms n) (hp : PreV s H C b Pc As)
    (hg : g.method = m) (hn : As.length = n) (hsize : g.locals.size = nL) (hstack : g.stack = As.reverse ++ .ref b :: rest) (hW : 2 * g.monitorRoom + (rest.map fun v => v.category).sum ≤ 8) (hdg : decode cc g.pc = .ok (.invokevirtual index, 3)) (hf : cells + mc ≤ R.cells ∧ slots + ms ≤ R.slots) :
    va_Run p l e R s m args below meth c H locs cells slots mc ms g rest (Qc (Value.ref b :: As).toArray) free := by
  obtain ⟨⟨hrc, hrs, hfr, hlo, hws, hcw⟩, hcode, hini, hy, hlen, hl, hin, hse⟩ := cw
  have hK : Back l R p e below s args y 3 8 (PreOf R mc ms Pc) (PostOf Qc mc ms free) := va_backW (hh := hh) (bytes := bytes) (maxL := maxL) (ret := ret) hM hp.1 hrc hrs hfr hlo hws hcw (fun a' U hW => word_at hW (Or.inl (by first | rfl | simp [Cond.onTables, Cond.keeps, Cond.steady])) hini)
  obtain ⟨hx, hb, hml, ho, -⟩ := S
  obtain ⟨-, ⟨cellB, hcB, hoB, hclB⟩, hPc⟩ := hp
  intro T hT X
  obtain ⟨v, vm₁, ⟨U', l2, c2, s2⟩, hW₁, X', ⟨g', mk, t, L, e1, e2, hq, h1, hL, h2, h3⟩, st⟩ := vx_callVW X hx (C := C) (hh := hh) (bytes := bytes) (maxL := maxL) (ret := ret) ho hl hin hse hcode hy hK (by rw [hT]; exact hcB) hoB hclB hg (hsize.trans hml.symm) (argsL := As) (rest := rest) (fun sig h => hn.trans (hlen sig h)) hstack hW (by rw [hb]; exact hdg)
    (fun vm₁ hW₁ => ⟨hf.1, hf.2, hPc (T.setVm vm₁) hT hW₁⟩)
  dsimp only [Pt.U, Pt.locs, Pt.cells, Pt.slots] at X' e1 e2 h1 h2 h3 st
  subst h1; subst h2; subst h3
  exact ⟨v, (T.setVm vm₁).calling g' mk (Value.ref b :: As).toArray, t, U', L, hT, X', hL, e1, e2, hq, st⟩
section
variable {y : MethodName} {bytes cc : ByteArray} {maxL nL mc ms n index : Nat} {ret : Option FieldType} {ws : List Cond} {rm : Room} {Pc : Array Value → State → Prop} {Qc : Array Value → State → Outcome → State → Prop} {XC : String → State → State → Prop} {free : Addr → Prop} {Ts : List Cond} {own C : String} {b : Addr} {As rest : List Value} {g : JFrame}
theorem vx_runVX {hh : List (Nat × Nat × Nat × Nat)} (S : CallFix p m c cc nL s args Ts own) (hM : vx_Met l y ws rm Pc Qc XC mc ms free) (cw : vx_CVW R s args own C index y bytes maxL ret hh ws rm mc ms n) (hp : PreV s H C b Pc As)
    (hg : g.method = m) (hn : As.length = n) (hsize : g.locals.size = nL) (hstack : g.stack = As.reverse ++ .ref b :: rest) (hW : 2 * g.monitorRoom + (rest.map fun v => v.category).sum ≤ 8) (hdg : decode cc g.pc = .ok (.invokevirtual index, 3)) (hf : cells + mc ≤ R.cells ∧ slots + ms ≤ R.slots) :
    vx_Run p l e R s m args below meth c H locs cells slots mc ms g rest (Qc (Value.ref b :: As).toArray) XC free := by
  obtain ⟨⟨hrc, hrs, hfr, hlo, hws, hcw⟩, hcode, hini, hy, hlen, hl, hin, hse⟩ := cw
  have hK : vx_Back l R p e below s args y 3 8 (PreOf R mc ms Pc) (PostOf Qc mc ms free) (vx_Post XC mc ms free) := vx_backW (hh := hh) (bytes := bytes) (maxL := maxL) (ret := ret) hM hp.1 hrc hrs hfr hlo hws hcw (fun a' U hW => word_at hW (Or.inl (by first | rfl | simp [Cond.onTables, Cond.keeps, Cond.steady])) hini)
  obtain ⟨hx, hb, hml, ho, -⟩ := S
  obtain ⟨-, ⟨cellB, hcB, hoB, hclB⟩, hPc⟩ := hp
  intro T hT X
  rcases vx_callVX X hx (C := C) (hh := hh) (bytes := bytes) (maxL := maxL) (ret := ret) ho hl hin hse hcode hy hK (by rw [hT]; exact hcB) hoB hclB hg (hsize.trans hml.symm) (argsL := As) (rest := rest) (fun sig h => hn.trans (hlen sig h)) hstack hW (by rw [hb]; exact hdg)
    (fun vm₁ hW₁ => ⟨hf.1, hf.2, hPc (T.setVm vm₁) hT hW₁⟩) with ⟨v, vm₁, ⟨U', l2, c2, s2⟩, hW₁, X', ⟨g', mk, t, L, e1, e2, hq, h1, hL, h2, h3⟩, st⟩ | ⟨q, vm₁, ⟨U', l2, c2, s2⟩, hW₁, X', ⟨g', mk, t, L, E, ce, e1, e2, hq, hce, hcv, hcl, h1, hL, h2, h3⟩, st⟩
  · dsimp only [Pt.U, Pt.locs, Pt.cells, Pt.slots] at X' e1 e2 h1 h2 h3 st
    subst h1; subst h2; subst h3
    exact Or.inl ⟨v, (T.setVm vm₁).calling g' mk (Value.ref b :: As).toArray, t, U', L, hT, X', hL, e1, e2, hq, st⟩
  · dsimp only [Pt.U, Pt.locs, Pt.cells, Pt.slots] at X' e1 e2 h1 h2 h3 st hcl
    subst h1; subst h2; subst h3
    exact Or.inr ⟨q, (T.setVm vm₁).calling g' mk (Value.ref b :: As).toArray, t, U', L, E, ce, hT, X', hL, e1, e2, hq, hce, hcv, vx_cls hW₁ hcl, st⟩
theorem vx_runSX {hh : List (Nat × Nat × Nat × Nat)} (S : CallFix p m c cc nL s args Ts own) (hM : vx_Met l y ws rm Pc Qc XC mc ms free) (cw : vx_CSW R s args own index y bytes maxL ret hh ws rm mc ms n) (hp : PreS s H Pc As)
    (hg : g.method = m) (hn : As.length = n) (hsize : g.locals.size = nL) (hstack : g.stack = As.reverse ++ rest) (hW : 2 * g.monitorRoom + (rest.map fun v => v.category).sum ≤ 8) (hdg : decode cc g.pc = .ok (.invokestatic index, 3)) (hf : cells + mc ≤ R.cells ∧ slots + ms ≤ R.slots) :
    vx_Run p l e R s m args below meth c H locs cells slots mc ms g rest (Qc As.toArray) XC free := by
  obtain ⟨⟨hrc, hrs, hfr, hlo, hws, hcw⟩, hcode, hini, hy, hlen, hl, hstt⟩ := cw
  have hK : vx_Back l R p e below s args y 3 8 (PreOf R mc ms Pc) (PostOf Qc mc ms free) (vx_Post XC mc ms free) := vx_backW (hh := hh) (bytes := bytes) (maxL := maxL) (ret := ret) hM hp.1 hrc hrs hfr hlo hws hcw (fun a' U hW => word_at hW (Or.inl (by first | rfl | simp [Cond.onTables, Cond.keeps, Cond.steady])) hini)
  obtain ⟨hx, hb, hml, ho, -⟩ := S
  intro T hT X
  rcases vx_callSX X hx (hh := hh) (bytes := bytes) (maxL := maxL) (ret := ret) ho hl hstt hini hcode hy hK hg (hsize.trans hml.symm) (argsL := As) (rest := rest) (fun sig h => hn.trans (hlen sig h)) hstack hW (by rw [hb]; exact hdg)
    (fun vm₁ hW₁ => ⟨hf.1, hf.2, hp.2 (T.setVm vm₁) hT hW₁⟩) with ⟨v, vm₁, ⟨U', l2, c2, s2⟩, hW₁, X', ⟨g', mk, t, L, e1, e2, hq, h1, hL, h2, h3⟩, st⟩ | ⟨q, vm₁, ⟨U', l2, c2, s2⟩, hW₁, X', ⟨g', mk, t, L, E, ce, e1, e2, hq, hce, hcv, hcl, h1, hL, h2, h3⟩, st⟩
  · dsimp only [Pt.U, Pt.locs, Pt.cells, Pt.slots] at X' e1 e2 h1 h2 h3 st
    subst h1; subst h2; subst h3
    exact Or.inl ⟨v, (T.setVm vm₁).calling g' mk As.toArray, t, U', L, hT, X', hL, e1, e2, hq, st⟩
  · dsimp only [Pt.U, Pt.locs, Pt.cells, Pt.slots] at X' e1 e2 h1 h2 h3 st hcl
    subst h1; subst h2; subst h3
    exact Or.inr ⟨q, (T.setVm vm₁).calling g' mk As.toArray, t, U', L, E, ce, hT, X', hL, e1, e2, hq, hce, hcv, vx_cls hW₁ hcl, st⟩
end
end VXH
theorem vx_ofWH {l : Launch} {y : MethodName} {ws ws' : List Cond} {rm : Room} {Pc : Array Value → State → Prop} {Qc : Array Value → State → Outcome → State → Prop} {XC : String → State → State → Prop} {mc ms : Nat} {free : Addr → Prop} {cc : ByteArray} {maxL : Nat} {ret : Option FieldType} {hh : List (Nat × Nat × Nat × Nat)}
    (hy : plainName y.cls = true) (hw : ws = Cond.codeWith y cc maxL ret hh :: ws')
    (body : ∀ p e s m args below meth c s₁, BodyLoose p l y (headSpec ws rm) cc maxL ret e s m args below meth c s₁ → c.maxLocals = maxL → Pc args s →
      W p l e (headSpec ws rm).room s m args below meth c s.heap [] 0 0 (vx_MQ below Qc XC args s mc ms free) (entryFrame m args maxL)) : vx_Met l y ws rm Pc Qc XC mc ms free := by
  refine MetFree.of_bodyS (code := cc) (maxLocals := maxL) (ret := ret) hy ?_ ?_
  · intro args s m h hn
    obtain ⟨m9, meth, c, hn9, h1, h2, h3, h4, -, h5, h6, -⟩ := Cond.codeWith_spec (atoms_spec (ws := ws) h _ (by rw [hw]; exact List.mem_cons_self))
    cases hn.symm.trans hn9
    exact ⟨meth, c, h1, h2, h3, h4, h5, h6⟩
  · intro p e s m args below meth c s₁ B hml hP _
    have hh0 : s₁.heap = s.heap := by rw [B.state]; rfl
    obtain ⟨t, a1, o, b1, b2, b3⟩ := body p e s m args below meth c s₁ B hml hP s₁ hh0 (Stand.of_body B)
    exact ⟨t, o, a1, b1, b2, b3⟩
/-! ===== END ===== -/
end
section
def RX0 : String := "CalendarOrders$Civil"
def TX0 : u_T := fun k => match k with
  | 0 => ("CalendarOrders$Civil", "year", "I", false)
  | 1 => ("CalendarOrders$Civil", "month", "I", false)
  | 2 => ("CalendarOrders$Civil", "day", "I", false)
  | 3 => ("CalendarOrders$Civil", "monthStart", "I", false)
  | 4 => ("CalendarOrders$Civil", "monthDays", "I", false)
  | _ => ("CalendarOrders$Civil", "firstWeekday", "I", false)
def tyX0 : Nat → FieldType := fun k => match k with
  | 0 => .int
  | 1 => .int
  | 2 => .int
  | 3 => .int
  | 4 => .int
  | _ => .int
theorem nmX0 : ∀ a, a < 6 → ∀ b, b < 6 → a ≠ b → (TX0 a).2.1 ≠ (TX0 b).2.1 := by decide +kernel
theorem tyX0_ok : ∀ k, k < 6 → parseFieldDescriptor (TX0 k).2.2.1 = some (tyX0 k) := by decide +kernel
abbrev cX0_init : ByteArray := prog_2_method_1_code
def yX0_init : MethodName := ⟨RX0, "<init>", "()V"⟩
abbrev cX0_goToDay : ByteArray := prog_2_method_2_code
def yX0_goToDay : MethodName := ⟨RX0, "goToDay", "(I)V"⟩
abbrev cX0_goToMonth : ByteArray := prog_2_method_3_code
def yX0_goToMonth : MethodName := ⟨RX0, "goToMonth", "(II)V"⟩
abbrev cX0_goToNextMonth : ByteArray := prog_2_method_4_code
def yX0_goToNextMonth : MethodName := ⟨RX0, "goToNextMonth", "()V"⟩
abbrev cX0_goToMonthBefore : ByteArray := prog_2_method_5_code
def yX0_goToMonthBefore : MethodName := ⟨RX0, "goToMonthBefore", "()V"⟩
abbrev cX0_lookAtMonth : ByteArray := prog_2_method_6_code
def yX0_lookAtMonth : MethodName := ⟨RX0, "lookAtMonth", "()V"⟩
abbrev cX0_daysWithin : ByteArray := prog_2_method_7_code
def yX0_daysWithin : MethodName := ⟨RX0, "daysWithin", "(II)J"⟩
def RX1 : String := "CalendarOrders$Log"
def TX1 : u_T := fun k => match k with
  | 0 => ("CalendarOrders$Log", "kinds", "[I", true)
  | 1 => ("CalendarOrders$Log", "numbers", "[I", true)
  | 2 => ("CalendarOrders$Log", "minutes", "[I", true)
  | 3 => ("CalendarOrders$Log", "matched", "[I", true)
  | _ => ("CalendarOrders$Log", "count", "I", false)
def tyX1 : Nat → FieldType := fun k => match k with
  | 0 => .array .int
  | 1 => .array .int
  | 2 => .array .int
  | 3 => .array .int
  | _ => .int
theorem nmX1 : ∀ a, a < 5 → ∀ b, b < 5 → a ≠ b → (TX1 a).2.1 ≠ (TX1 b).2.1 := by decide +kernel
theorem tyX1_ok : ∀ k, k < 5 → parseFieldDescriptor (TX1 k).2.2.1 = some (tyX1 k) := by decide +kernel
abbrev cX1_init : ByteArray := prog_3_method_1_code
def yX1_init : MethodName := ⟨RX1, "<init>", "()V"⟩
abbrev cX1_kept : ByteArray := prog_3_method_2_code
def yX1_kept : MethodName := ⟨RX1, "kept", "()I"⟩
abbrev cX1_add : ByteArray := prog_3_method_3_code
def yX1_add : MethodName := ⟨RX1, "add", "(IIII)V"⟩
def RX2 : String := "CalendarOrders$Order"
def TX2 : u_T := fun k => match k with
  | 0 => ("CalendarOrders$Order", "number", "I", true)
  | 1 => ("CalendarOrders$Order", "rule", "LCalendarOrders$Rule;", true)
  | 2 => ("CalendarOrders$Order", "began", "[I", true)
  | 3 => ("CalendarOrders$Order", "matched", "[I", true)
  | 4 => ("CalendarOrders$Order", "used", "Z", false)
  | 5 => ("CalendarOrders$Order", "zone", "LCalendarOrders$Zone;", false)
  | 6 => ("CalendarOrders$Order", "zoneNumber", "I", false)
  | 7 => ("CalendarOrders$Order", "way", "I", false)
  | 8 => ("CalendarOrders$Order", "grace", "I", false)
  | 9 => ("CalendarOrders$Order", "overlap", "I", false)
  | 10 => ("CalendarOrders$Order", "takes", "I", false)
  | 11 => ("CalendarOrders$Order", "running", "I", false)
  | 12 => ("CalendarOrders$Order", "waits", "Z", false)
  | 13 => ("CalendarOrders$Order", "waiting", "I", false)
  | 14 => ("CalendarOrders$Order", "begun", "I", false)
  | 15 => ("CalendarOrders$Order", "dropped", "I", false)
  | _ => ("CalendarOrders$Order", "nextDue", "I", false)
def tyX2 : Nat → FieldType := fun k => match k with
  | 0 => .int
  | 1 => .object "CalendarOrders$Rule"
  | 2 => .array .int
  | 3 => .array .int
  | 4 => .boolean
  | 5 => .object "CalendarOrders$Zone"
  | 6 => .int
  | 7 => .int
  | 8 => .int
  | 9 => .int
  | 10 => .int
  | 11 => .int
  | 12 => .boolean
  | 13 => .int
  | 14 => .int
  | 15 => .int
  | _ => .int
theorem nmX2 : ∀ a, a < 17 → ∀ b, b < 17 → a ≠ b → (TX2 a).2.1 ≠ (TX2 b).2.1 := by decide +kernel
theorem tyX2_ok : ∀ k, k < 17 → parseFieldDescriptor (TX2 k).2.2.1 = some (tyX2 k) := by decide +kernel
abbrev cX2_init : ByteArray := prog_4_method_1_code
def yX2_init : MethodName := ⟨RX2, "<init>", "(I)V"⟩
abbrev cX2_begin : ByteArray := prog_4_method_2_code
def yX2_begin : MethodName := ⟨RX2, "begin", "(ILCalendarOrders$Zone;)V"⟩
abbrev cX2_settle : ByteArray := prog_4_method_3_code
def yX2_settle : MethodName := ⟨RX2, "settle", "(IIII)V"⟩
abbrev cX2_clearRuns : ByteArray := prog_4_method_4_code
def yX2_clearRuns : MethodName := ⟨RX2, "clearRuns", "()V"⟩
abbrev cX2_mayBegin : ByteArray := prog_4_method_5_code
def yX2_mayBegin : MethodName := ⟨RX2, "mayBegin", "()Z"⟩
abbrev cX2_mayWait : ByteArray := prog_4_method_6_code
def yX2_mayWait : MethodName := ⟨RX2, "mayWait", "()Z"⟩
abbrev cX2_addRun : ByteArray := prog_4_method_7_code
def yX2_addRun : MethodName := ⟨RX2, "addRun", "(II)V"⟩
abbrev cX2_removeFirstRun : ByteArray := prog_4_method_8_code
def yX2_removeFirstRun : MethodName := ⟨RX2, "removeFirstRun", "()V"⟩
abbrev cX2_firstEnd : ByteArray := prog_4_method_9_code
def yX2_firstEnd : MethodName := ⟨RX2, "firstEnd", "()I"⟩
abbrev cX2_leastMatch : ByteArray := prog_4_method_10_code
def yX2_leastMatch : MethodName := ⟨RX2, "leastMatch", "(II)I"⟩
abbrev cX2_greatestMatch : ByteArray := prog_4_method_11_code
def yX2_greatestMatch : MethodName := ⟨RX2, "greatestMatch", "(II)I"⟩
abbrev cX2_matchesIn : ByteArray := prog_4_method_12_code
def yX2_matchesIn : MethodName := ⟨RX2, "matchesIn", "(II)I"⟩
def RX3 : String := "CalendarOrders$Rule"
def TX3 : u_T := fun k => match k with
  | 0 => ("CalendarOrders$Rule", "civil", "LCalendarOrders$Civil;", true)
  | 1 => ("CalendarOrders$Rule", "numbers", "[J", true)
  | 2 => ("CalendarOrders$Rule", "years", "[J", true)
  | 3 => ("CalendarOrders$Rule", "yearTold", "Z", false)
  | 4 => ("CalendarOrders$Rule", "dayStar", "Z", false)
  | 5 => ("CalendarOrders$Rule", "weekdayStar", "Z", false)
  | 6 => ("CalendarOrders$Rule", "daysBeforeLast", "J", false)
  | 7 => ("CalendarOrders$Rule", "lastWorkday", "Z", false)
  | 8 => ("CalendarOrders$Rule", "nearWorkdays", "J", false)
  | 9 => ("CalendarOrders$Rule", "lastWeekdays", "J", false)
  | 10 => ("CalendarOrders$Rule", "kthWeekdays", "J", false)
  | 11 => ("CalendarOrders$Rule", "knownDay", "I", false)
  | _ => ("CalendarOrders$Rule", "knownRight", "Z", false)
def tyX3 : Nat → FieldType := fun k => match k with
  | 0 => .object "CalendarOrders$Civil"
  | 1 => .array .long
  | 2 => .array .long
  | 3 => .boolean
  | 4 => .boolean
  | 5 => .boolean
  | 6 => .long
  | 7 => .boolean
  | 8 => .long
  | 9 => .long
  | 10 => .long
  | 11 => .int
  | _ => .boolean
theorem nmX3 : ∀ a, a < 13 → ∀ b, b < 13 → a ≠ b → (TX3 a).2.1 ≠ (TX3 b).2.1 := by decide +kernel
theorem tyX3_ok : ∀ k, k < 13 → parseFieldDescriptor (TX3 k).2.2.1 = some (tyX3 k) := by decide +kernel
abbrev cX3_init : ByteArray := prog_5_method_1_code
def yX3_init : MethodName := ⟨RX3, "<init>", "()V"⟩
abbrev cX3_clear : ByteArray := prog_5_method_2_code
def yX3_clear : MethodName := ⟨RX3, "clear", "()V"⟩
abbrev cX3_beginField : ByteArray := prog_5_method_3_code
def yX3_beginField : MethodName := ⟨RX3, "beginField", "(IZ)V"⟩
abbrev cX3_add : ByteArray := prog_5_method_4_code
def yX3_add : MethodName := ⟨RX3, "add", "(IIII)V"⟩
abbrev cX3_holdsYear : ByteArray := prog_5_method_5_code
def yX3_holdsYear : MethodName := ⟨RX3, "holdsYear", "(I)Z"⟩
abbrev cX3_rightDays : ByteArray := prog_5_method_6_code
def yX3_rightDays : MethodName := ⟨RX3, "rightDays", "(I)J"⟩
abbrev cX3_daysByDay : ByteArray := prog_5_method_7_code
def yX3_daysByDay : MethodName := ⟨RX3, "daysByDay", "()J"⟩
abbrev cX3_daysByWeekday : ByteArray := prog_5_method_8_code
def yX3_daysByWeekday : MethodName := ⟨RX3, "daysByWeekday", "()J"⟩
abbrev cX3_weekFrom : ByteArray := prog_5_method_9_code
def yX3_weekFrom : MethodName := ⟨RX3, "weekFrom", "(IJ)J"⟩
abbrev cX3_isRight : ByteArray := prog_5_method_10_code
def yX3_isRight : MethodName := ⟨RX3, "isRight", "(I)Z"⟩
abbrev cX3_firstRightDay : ByteArray := prog_5_method_11_code
def yX3_firstRightDay : MethodName := ⟨RX3, "firstRightDay", "(II)I"⟩
abbrev cX3_lastRightDay : ByteArray := prog_5_method_12_code
def yX3_lastRightDay : MethodName := ⟨RX3, "lastRightDay", "(II)I"⟩
abbrev cX3_rightDaysIn : ByteArray := prog_5_method_13_code
def yX3_rightDaysIn : MethodName := ⟨RX3, "rightDaysIn", "(II)I"⟩
abbrev cX3_timeFrom : ByteArray := prog_5_method_14_code
def yX3_timeFrom : MethodName := ⟨RX3, "timeFrom", "(I)I"⟩
abbrev cX3_timeUpTo : ByteArray := prog_5_method_15_code
def yX3_timeUpTo : MethodName := ⟨RX3, "timeUpTo", "(I)I"⟩
abbrev cX3_timesBefore : ByteArray := prog_5_method_16_code
def yX3_timesBefore : MethodName := ⟨RX3, "timesBefore", "(I)I"⟩
abbrev cX3_firstIn : ByteArray := prog_5_method_17_code
def yX3_firstIn : MethodName := ⟨RX3, "firstIn", "(II)I"⟩
abbrev cX3_lastIn : ByteArray := prog_5_method_18_code
def yX3_lastIn : MethodName := ⟨RX3, "lastIn", "(II)I"⟩
abbrev cX3_countIn : ByteArray := prog_5_method_19_code
def yX3_countIn : MethodName := ⟨RX3, "countIn", "(II)I"⟩
def RX4 : String := "CalendarOrders$Tape"
def TX4 : u_T := fun k => match k with
  | 0 => ("CalendarOrders$Tape", "bytes", "[I", true)
  | 1 => ("CalendarOrders$Tape", "length", "I", false)
  | 2 => ("CalendarOrders$Tape", "at", "I", false)
  | 3 => ("CalendarOrders$Tape", "code", "I", false)
  | 4 => ("CalendarOrders$Tape", "place", "I", false)
  | _ => ("CalendarOrders$Tape", "rule", "LCalendarOrders$Rule;", false)
def tyX4 : Nat → FieldType := fun k => match k with
  | 0 => .array .int
  | 1 => .int
  | 2 => .int
  | 3 => .int
  | 4 => .int
  | _ => .object "CalendarOrders$Rule"
theorem nmX4 : ∀ a, a < 6 → ∀ b, b < 6 → a ≠ b → (TX4 a).2.1 ≠ (TX4 b).2.1 := by decide +kernel
theorem tyX4_ok : ∀ k, k < 6 → parseFieldDescriptor (TX4 k).2.2.1 = some (tyX4 k) := by decide +kernel
abbrev cX4_init : ByteArray := prog_6_method_1_code
def yX4_init : MethodName := ⟨RX4, "<init>", "()V"⟩
abbrev cX4_add : ByteArray := prog_6_method_2_code
def yX4_add : MethodName := ⟨RX4, "add", "(I)V"⟩
abbrev cX4_read : ByteArray := prog_6_method_3_code
def yX4_read : MethodName := ⟨RX4, "read", "(LCalendarOrders$Rule;)I"⟩
abbrev cX4_look : ByteArray := prog_6_method_4_code
def yX4_look : MethodName := ⟨RX4, "look", "()I"⟩
abbrev cX4_fail : ByteArray := prog_6_method_5_code
def yX4_fail : MethodName := ⟨RX4, "fail", "(II)V"⟩
abbrev cX4_skipBlanks : ByteArray := prog_6_method_6_code
def yX4_skipBlanks : MethodName := ⟨RX4, "skipBlanks", "()V"⟩
abbrev cX4_readWord : ByteArray := prog_6_method_7_code
def yX4_readWord : MethodName := ⟨RX4, "readWord", "()V"⟩
abbrev cX4_wordWith : ByteArray := prog_6_method_8_code
def yX4_wordWith : MethodName := ⟨RX4, "wordWith", "(I)Ljava/lang/String;"⟩
abbrev cX4_readField : ByteArray := prog_6_method_9_code
def yX4_readField : MethodName := ⟨RX4, "readField", "(I)V"⟩
abbrev cX4_readItem : ByteArray := prog_6_method_10_code
def yX4_readItem : MethodName := ⟨RX4, "readItem", "(I)V"⟩
abbrev cX4_readWhichWeekday : ByteArray := prog_6_method_11_code
def yX4_readWhichWeekday : MethodName := ⟨RX4, "readWhichWeekday", "(I)V"⟩
abbrev cX4_readLastDay : ByteArray := prog_6_method_12_code
def yX4_readLastDay : MethodName := ⟨RX4, "readLastDay", "()V"⟩
abbrev cX4_addStretch : ByteArray := prog_6_method_13_code
def yX4_addStretch : MethodName := ⟨RX4, "addStretch", "(III)V"⟩
abbrev cX4_readValue : ByteArray := prog_6_method_14_code
def yX4_readValue : MethodName := ⟨RX4, "readValue", "(I)I"⟩
abbrev cX4_readNumber : ByteArray := prog_6_method_15_code
def yX4_readNumber : MethodName := ⟨RX4, "readNumber", "(III)I"⟩
abbrev cX4_readName : ByteArray := prog_6_method_16_code
def yX4_readName : MethodName := ⟨RX4, "readName", "(Ljava/lang/String;)I"⟩
abbrev cX4_nameLike : ByteArray := prog_6_method_17_code
def yX4_nameLike : MethodName := ⟨RX4, "nameLike", "(Ljava/lang/String;II)I"⟩
def RX5 : String := "CalendarOrders$Zone"
def TX5 : u_T := fun k => match k with
  | 0 => ("CalendarOrders$Zone", "starts", "[I", true)
  | 1 => ("CalendarOrders$Zone", "offsets", "[I", true)
  | _ => ("CalendarOrders$Zone", "changes", "I", false)
def tyX5 : Nat → FieldType := fun k => match k with
  | 0 => .array .int
  | 1 => .array .int
  | _ => .int
theorem nmX5 : ∀ a, a < 3 → ∀ b, b < 3 → a ≠ b → (TX5 a).2.1 ≠ (TX5 b).2.1 := by decide +kernel
theorem tyX5_ok : ∀ k, k < 3 → parseFieldDescriptor (TX5 k).2.2.1 = some (tyX5 k) := by decide +kernel
abbrev cX5_init : ByteArray := prog_7_method_1_code
def yX5_init : MethodName := ⟨RX5, "<init>", "()V"⟩
abbrev cX5_begin : ByteArray := prog_7_method_2_code
def yX5_begin : MethodName := ⟨RX5, "begin", "(I)V"⟩
abbrev cX5_isBehindLatest : ByteArray := prog_7_method_3_code
def yX5_isBehindLatest : MethodName := ⟨RX5, "isBehindLatest", "(I)Z"⟩
abbrev cX5_add : ByteArray := prog_7_method_4_code
def yX5_add : MethodName := ⟨RX5, "add", "(II)V"⟩
abbrev cX5_lastMinuteOf : ByteArray := prog_7_method_5_code
def yX5_lastMinuteOf : MethodName := ⟨RX5, "lastMinuteOf", "(I)I"⟩
abbrev cX5_offsetAt : ByteArray := prog_7_method_6_code
def yX5_offsetAt : MethodName := ⟨RX5, "offsetAt", "(I)I"⟩
abbrev cX5_leastMinuteOf : ByteArray := prog_7_method_7_code
def yX5_leastMinuteOf : MethodName := ⟨RX5, "leastMinuteOf", "(I)I"⟩
def RX6 : String := "CalendarOrders"
def TX6 : u_T := fun k => match k with
  | 0 => ("CalendarOrders", "civil", "LCalendarOrders$Civil;", true)
  | 1 => ("CalendarOrders", "zones", "[LCalendarOrders$Zone;", true)
  | 2 => ("CalendarOrders", "orders", "[LCalendarOrders$Order;", true)
  | 3 => ("CalendarOrders", "tape", "LCalendarOrders$Tape;", true)
  | 4 => ("CalendarOrders", "lines", "LCalendarOrders$Log;", true)
  | 5 => ("CalendarOrders", "faultCode", "I", false)
  | 6 => ("CalendarOrders", "clock", "I", false)
  | 7 => ("CalendarOrders", "asleepSince", "I", false)
  | _ => ("CalendarOrders", "awake", "Z", false)
def tyX6 : Nat → FieldType := fun k => match k with
  | 0 => .object "CalendarOrders$Civil"
  | 1 => .array (.object "CalendarOrders$Zone")
  | 2 => .array (.object "CalendarOrders$Order")
  | 3 => .object "CalendarOrders$Tape"
  | 4 => .object "CalendarOrders$Log"
  | 5 => .int
  | 6 => .int
  | 7 => .int
  | _ => .boolean
theorem nmX6 : ∀ a, a < 9 → ∀ b, b < 9 → a ≠ b → (TX6 a).2.1 ≠ (TX6 b).2.1 := by decide +kernel
theorem tyX6_ok : ∀ k, k < 9 → parseFieldDescriptor (TX6 k).2.2.1 = some (tyX6 k) := by decide +kernel
abbrev cX6_init : ByteArray := prog_1_method_1_code
def yX6_init : MethodName := ⟨RX6, "<init>", "()V"⟩
abbrev cX6_zone : ByteArray := prog_1_method_2_code
def yX6_zone : MethodName := ⟨RX6, "zone", "(II)V"⟩
abbrev cX6_change : ByteArray := prog_1_method_3_code
def yX6_change : MethodName := ⟨RX6, "change", "(III)I"⟩
abbrev cX6_civil : ByteArray := prog_1_method_4_code
def yX6_civil : MethodName := ⟨RX6, "civil", "(III)I"⟩
abbrev cX6_minute : ByteArray := prog_1_method_5_code
def yX6_minute : MethodName := ⟨RX6, "minute", "(IIIIII)I"⟩
abbrev cX6_feed : ByteArray := prog_1_method_6_code
def yX6_feed : MethodName := ⟨RX6, "feed", "(JI)I"⟩
abbrev cX6_order : ByteArray := prog_1_method_7_code
def yX6_order : MethodName := ⟨RX6, "order", "(IIIII)I"⟩
abbrev cX6_fault : ByteArray := prog_1_method_8_code
def yX6_fault : MethodName := ⟨RX6, "fault", "()I"⟩
abbrev cX6_cancel : ByteArray := prog_1_method_9_code
def yX6_cancel : MethodName := ⟨RX6, "cancel", "(I)I"⟩
abbrev cX6_told : ByteArray := prog_1_method_10_code
def yX6_told : MethodName := ⟨RX6, "told", "(II)I"⟩
abbrev cX6_field : ByteArray := prog_1_method_11_code
def yX6_field : MethodName := ⟨RX6, "field", "(II)J"⟩
abbrev cX6_day : ByteArray := prog_1_method_12_code
def yX6_day : MethodName := ⟨RX6, "day", "(IIIII)Z"⟩
abbrev cX6_matches : ByteArray := prog_1_method_13_code
def yX6_matches : MethodName := ⟨RX6, "matches", "(II)Z"⟩
abbrev cX6_next : ByteArray := prog_1_method_14_code
def yX6_next : MethodName := ⟨RX6, "next", "(III)I"⟩
abbrev cX6_before : ByteArray := prog_1_method_15_code
def yX6_before : MethodName := ⟨RX6, "before", "(III)I"⟩
abbrev cX6_between : ByteArray := prog_1_method_16_code
def yX6_between : MethodName := ⟨RX6, "between", "(III)I"⟩
abbrev cX6_put : ByteArray := prog_1_method_17_code
def yX6_put : MethodName := ⟨RX6, "put", "(I)V"⟩
abbrev cX6_pass : ByteArray := prog_1_method_18_code
def yX6_pass : MethodName := ⟨RX6, "pass", "(I)I"⟩
abbrev cX6_sleep : ByteArray := prog_1_method_19_code
def yX6_sleep : MethodName := ⟨RX6, "sleep", "()V"⟩
abbrev cX6_wake : ByteArray := prog_1_method_20_code
def yX6_wake : MethodName := ⟨RX6, "wake", "()I"⟩
abbrev cX6_log : ByteArray := prog_1_method_21_code
def yX6_log : MethodName := ⟨RX6, "log", "(II)I"⟩
abbrev cX6_tear : ByteArray := prog_1_method_22_code
def yX6_tear : MethodName := ⟨RX6, "tear", "()I"⟩
abbrev cX6_count : ByteArray := prog_1_method_23_code
def yX6_count : MethodName := ⟨RX6, "count", "(I)I"⟩
abbrev cX6_zoneOf : ByteArray := prog_1_method_24_code
def yX6_zoneOf : MethodName := ⟨RX6, "zoneOf", "(I)LCalendarOrders$Zone;"⟩
abbrev cX6_orderOf : ByteArray := prog_1_method_25_code
def yX6_orderOf : MethodName := ⟨RX6, "orderOf", "(I)LCalendarOrders$Order;"⟩
abbrev cX6_checkOffset : ByteArray := prog_1_method_26_code
def yX6_checkOffset : MethodName := ⟨RX6, "checkOffset", "(I)V"⟩
abbrev cX6_checkMinute : ByteArray := prog_1_method_27_code
def yX6_checkMinute : MethodName := ⟨RX6, "checkMinute", "(I)V"⟩
abbrev cX6_checkDays : ByteArray := prog_1_method_28_code
def yX6_checkDays : MethodName := ⟨RX6, "checkDays", "(I)V"⟩
abbrev cX6_checkWhat : ByteArray := prog_1_method_29_code
def yX6_checkWhat : MethodName := ⟨RX6, "checkWhat", "(II)V"⟩
abbrev cX6_checkDate : ByteArray := prog_1_method_30_code
def yX6_checkDate : MethodName := ⟨RX6, "checkDate", "(III)V"⟩
abbrev cX6_leastFreeNumber : ByteArray := prog_1_method_31_code
def yX6_leastFreeNumber : MethodName := ⟨RX6, "leastFreeNumber", "()I"⟩
abbrev cX6_ordersInUse : ByteArray := prog_1_method_32_code
def yX6_ordersInUse : MethodName := ⟨RX6, "ordersInUse", "()I"⟩
abbrev cX6_runsUnderWay : ByteArray := prog_1_method_33_code
def yX6_runsUnderWay : MethodName := ⟨RX6, "runsUnderWay", "()I"⟩
abbrev cX6_workUntil : ByteArray := prog_1_method_34_code
def yX6_workUntil : MethodName := ⟨RX6, "workUntil", "(I)V"⟩
abbrev cX6_leastDue : ByteArray := prog_1_method_35_code
def yX6_leastDue : MethodName := ⟨RX6, "leastDue", "(I)I"⟩
abbrev cX6_endRuns : ByteArray := prog_1_method_36_code
def yX6_endRuns : MethodName := ⟨RX6, "endRuns", "()V"⟩
abbrev cX6_firstToEnd : ByteArray := prog_1_method_37_code
def yX6_firstToEnd : MethodName := ⟨RX6, "firstToEnd", "()LCalendarOrders$Order;"⟩
abbrev cX6_becomeDue : ByteArray := prog_1_method_38_code
def yX6_becomeDue : MethodName := ⟨RX6, "becomeDue", "(LCalendarOrders$Order;I)V"⟩
abbrev cX6_begin : ByteArray := prog_1_method_39_code
def yX6_begin : MethodName := ⟨RX6, "begin", "(LCalendarOrders$Order;II)V"⟩
abbrev cX6_firstMissed : ByteArray := prog_1_method_40_code
def yX6_firstMissed : MethodName := ⟨RX6, "firstMissed", "(LCalendarOrders$Order;)I"⟩
abbrev cX6_makeUpLatest : ByteArray := prog_1_method_41_code
def yX6_makeUpLatest : MethodName := ⟨RX6, "makeUpLatest", "(LCalendarOrders$Order;)V"⟩
abbrev cX6_makeUpAll : ByteArray := prog_1_method_42_code
def yX6_makeUpAll : MethodName := ⟨RX6, "makeUpAll", "(LCalendarOrders$Order;)V"⟩
abbrev cX6_daysOfMonth : ByteArray := prog_1_method_43_code
def yX6_daysOfMonth : MethodName := ⟨RX6, "daysOfMonth", "(II)I"⟩
abbrev cX6_yearStart : ByteArray := prog_1_method_44_code
def yX6_yearStart : MethodName := ⟨RX6, "yearStart", "(I)I"⟩
abbrev cX6_monthStart : ByteArray := prog_1_method_45_code
def yX6_monthStart : MethodName := ⟨RX6, "monthStart", "(II)I"⟩
abbrev cX6_holds : ByteArray := prog_1_method_46_code
def yX6_holds : MethodName := ⟨RX6, "holds", "(JI)Z"⟩
abbrev cX6_lowest : ByteArray := prog_1_method_47_code
def yX6_lowest : MethodName := ⟨RX6, "lowest", "(J)I"⟩
abbrev cX6_highest : ByteArray := prog_1_method_48_code
def yX6_highest : MethodName := ⟨RX6, "highest", "(J)I"⟩
abbrev cX6_below : ByteArray := prog_1_method_49_code
def yX6_below : MethodName := ⟨RX6, "below", "(I)J"⟩
def RX7 : String := "CalendarOrdersModel"
def TX7 : u_T := fun k => match k with
  | 0 => ("CalendarOrdersModel", "code", "I", false)
  | 1 => ("CalendarOrdersModel", "base", "[I", true)
  | 2 => ("CalendarOrdersModel", "changes", "[I", true)
  | 3 => ("CalendarOrdersModel", "cMinute", "[I", true)
  | 4 => ("CalendarOrdersModel", "cOffset", "[I", true)
  | 5 => ("CalendarOrdersModel", "dYear", "I", false)
  | 6 => ("CalendarOrdersModel", "dMonth", "I", false)
  | 7 => ("CalendarOrdersModel", "dDay", "I", false)
  | 8 => ("CalendarOrdersModel", "dWeek", "I", false)
  | 9 => ("CalendarOrdersModel", "dOf", "I", false)
  | 10 => ("CalendarOrdersModel", "tape", "[B", true)
  | 11 => ("CalendarOrdersModel", "size", "I", false)
  | 12 => ("CalendarOrdersModel", "at", "I", false)
  | 13 => ("CalendarOrdersModel", "fault", "I", false)
  | 14 => ("CalendarOrdersModel", "place", "I", false)
  | 15 => ("CalendarOrdersModel", "toldFault", "I", false)
  | 16 => ("CalendarOrdersModel", "bits", "[J", true)
  | 17 => ("CalendarOrdersModel", "years", "[Z", true)
  | 18 => ("CalendarOrdersModel", "allYears", "Z", false)
  | 19 => ("CalendarOrdersModel", "lasts", "J", false)
  | 20 => ("CalendarOrdersModel", "lastWorking", "Z", false)
  | 21 => ("CalendarOrdersModel", "nears", "J", false)
  | 22 => ("CalendarOrdersModel", "lastWeeks", "J", false)
  | 23 => ("CalendarOrdersModel", "weeks", "J", false)
  | 24 => ("CalendarOrdersModel", "starDay", "Z", false)
  | 25 => ("CalendarOrdersModel", "starWeek", "Z", false)
  | 26 => ("CalendarOrdersModel", "there", "[Z", true)
  | 27 => ("CalendarOrdersModel", "zoneOf", "[I", true)
  | 28 => ("CalendarOrdersModel", "way", "[I", true)
  | 29 => ("CalendarOrdersModel", "grace", "[I", true)
  | 30 => ("CalendarOrdersModel", "overlap", "[I", true)
  | 31 => ("CalendarOrdersModel", "takes", "[I", true)
  | 32 => ("CalendarOrdersModel", "oBits", "[J", true)
  | 33 => ("CalendarOrdersModel", "oYears", "[Z", true)
  | 34 => ("CalendarOrdersModel", "oAllYears", "[Z", true)
  | 35 => ("CalendarOrdersModel", "oLasts", "[J", true)
  | 36 => ("CalendarOrdersModel", "oLastWorking", "[Z", true)
  | 37 => ("CalendarOrdersModel", "oNears", "[J", true)
  | 38 => ("CalendarOrdersModel", "oLastWeeks", "[J", true)
  | 39 => ("CalendarOrdersModel", "oWeeks", "[J", true)
  | 40 => ("CalendarOrdersModel", "oStarDay", "[Z", true)
  | 41 => ("CalendarOrdersModel", "oStarWeek", "[Z", true)
  | 42 => ("CalendarOrdersModel", "begun", "[I", true)
  | 43 => ("CalendarOrdersModel", "dropped", "[I", true)
  | 44 => ("CalendarOrdersModel", "waits", "[I", true)
  | 45 => ("CalendarOrdersModel", "runs", "I", false)
  | 46 => ("CalendarOrdersModel", "rOrder", "[I", true)
  | 47 => ("CalendarOrdersModel", "rEnd", "[I", true)
  | 48 => ("CalendarOrdersModel", "rMatched", "[I", true)
  | 49 => ("CalendarOrdersModel", "found", "I", false)
  | 50 => ("CalendarOrdersModel", "first", "I", false)
  | 51 => ("CalendarOrdersModel", "latest", "I", false)
  | 52 => ("CalendarOrdersModel", "now", "I", false)
  | 53 => ("CalendarOrdersModel", "asleep", "Z", false)
  | 54 => ("CalendarOrdersModel", "since", "I", false)
  | 55 => ("CalendarOrdersModel", "lines", "I", false)
  | 56 => ("CalendarOrdersModel", "lKind", "[I", true)
  | 57 => ("CalendarOrdersModel", "lOrder", "[I", true)
  | 58 => ("CalendarOrdersModel", "lMinute", "[I", true)
  | _ => ("CalendarOrdersModel", "lMatched", "[I", true)
def tyX7 : Nat → FieldType := fun k => match k with
  | 0 => .int
  | 1 => .array .int
  | 2 => .array .int
  | 3 => .array .int
  | 4 => .array .int
  | 5 => .int
  | 6 => .int
  | 7 => .int
  | 8 => .int
  | 9 => .int
  | 10 => .array .byte
  | 11 => .int
  | 12 => .int
  | 13 => .int
  | 14 => .int
  | 15 => .int
  | 16 => .array .long
  | 17 => .array .boolean
  | 18 => .boolean
  | 19 => .long
  | 20 => .boolean
  | 21 => .long
  | 22 => .long
  | 23 => .long
  | 24 => .boolean
  | 25 => .boolean
  | 26 => .array .boolean
  | 27 => .array .int
  | 28 => .array .int
  | 29 => .array .int
  | 30 => .array .int
  | 31 => .array .int
  | 32 => .array .long
  | 33 => .array .boolean
  | 34 => .array .boolean
  | 35 => .array .long
  | 36 => .array .boolean
  | 37 => .array .long
  | 38 => .array .long
  | 39 => .array .long
  | 40 => .array .boolean
  | 41 => .array .boolean
  | 42 => .array .int
  | 43 => .array .int
  | 44 => .array .int
  | 45 => .int
  | 46 => .array .int
  | 47 => .array .int
  | 48 => .array .int
  | 49 => .int
  | 50 => .int
  | 51 => .int
  | 52 => .int
  | 53 => .boolean
  | 54 => .int
  | 55 => .int
  | 56 => .array .int
  | 57 => .array .int
  | 58 => .array .int
  | _ => .array .int
theorem nmX7 : ∀ a, a < 60 → ∀ b, b < 60 → a ≠ b → (TX7 a).2.1 ≠ (TX7 b).2.1 := by decide +kernel
theorem tyX7_ok : ∀ k, k < 60 → parseFieldDescriptor (TX7 k).2.2.1 = some (tyX7 k) := by decide +kernel
abbrev cX7_init : ByteArray := prog_9_method_1_code
def yX7_init : MethodName := ⟨RX7, "<init>", "()V"⟩
abbrev cX7_thrown : ByteArray := prog_9_method_2_code
def yX7_thrown : MethodName := ⟨RX7, "thrown", "()I"⟩
abbrev cX7_in : ByteArray := prog_9_method_3_code
def yX7_in : MethodName := ⟨RX7, "in", "(JJJ)Z"⟩
abbrev cX7_wrong : ByteArray := prog_9_method_4_code
def yX7_wrong : MethodName := ⟨RX7, "wrong", "(I)I"⟩
abbrev cX7_isLeap : ByteArray := prog_9_method_5_code
def yX7_isLeap : MethodName := ⟨RX7, "isLeap", "(I)Z"⟩
abbrev cX7_daysOf : ByteArray := prog_9_method_6_code
def yX7_daysOf : MethodName := ⟨RX7, "daysOf", "(II)I"⟩
abbrev cX7_daysTo : ByteArray := prog_9_method_7_code
def yX7_daysTo : MethodName := ⟨RX7, "daysTo", "(I)I"⟩
abbrev cX7_floor : ByteArray := prog_9_method_8_code
def yX7_floor : MethodName := ⟨RX7, "floor", "(II)I"⟩
abbrev cX7_date : ByteArray := prog_9_method_9_code
def yX7_date : MethodName := ⟨RX7, "date", "(I)V"⟩
abbrev cX7_dayNumber : ByteArray := prog_9_method_10_code
def yX7_dayNumber : MethodName := ⟨RX7, "dayNumber", "(III)I"⟩
abbrev cX7_isDate : ByteArray := prog_9_method_11_code
def yX7_isDate : MethodName := ⟨RX7, "isDate", "(III)Z"⟩
abbrev cX7_zone : ByteArray := prog_9_method_12_code
def yX7_zone : MethodName := ⟨RX7, "zone", "(II)V"⟩
abbrev cX7_change : ByteArray := prog_9_method_13_code
def yX7_change : MethodName := ⟨RX7, "change", "(III)I"⟩
abbrev cX7_stretch : ByteArray := prog_9_method_14_code
def yX7_stretch : MethodName := ⟨RX7, "stretch", "(II)I"⟩
abbrev cX7_offsetOf : ByteArray := prog_9_method_15_code
def yX7_offsetOf : MethodName := ⟨RX7, "offsetOf", "(II)I"⟩
abbrev cX7_beginOf : ByteArray := prog_9_method_16_code
def yX7_beginOf : MethodName := ⟨RX7, "beginOf", "(II)I"⟩
abbrev cX7_endOf : ByteArray := prog_9_method_17_code
def yX7_endOf : MethodName := ⟨RX7, "endOf", "(II)I"⟩
abbrev cX7_civil : ByteArray := prog_9_method_18_code
def yX7_civil : MethodName := ⟨RX7, "civil", "(III)I"⟩
abbrev cX7_minute : ByteArray := prog_9_method_19_code
def yX7_minute : MethodName := ⟨RX7, "minute", "(IIIIII)I"⟩
abbrev cX7_feed : ByteArray := prog_9_method_20_code
def yX7_feed : MethodName := ⟨RX7, "feed", "(JI)I"⟩
abbrev cX7_fail : ByteArray := prog_9_method_21_code
def yX7_fail : MethodName := ⟨RX7, "fail", "(II)V"⟩
abbrev cX7_sign : ByteArray := prog_9_method_22_code
def yX7_sign : MethodName := ⟨RX7, "sign", "()I"⟩
abbrev cX7_isFigure : ByteArray := prog_9_method_23_code
def yX7_isFigure : MethodName := ⟨RX7, "isFigure", "()Z"⟩
abbrev cX7_figures : ByteArray := prog_9_method_24_code
def yX7_figures : MethodName := ⟨RX7, "figures", "(I)I"⟩
abbrev cX7_bounded : ByteArray := prog_9_method_25_code
def yX7_bounded : MethodName := ⟨RX7, "bounded", "(III)I"⟩
abbrev cX7_letter : ByteArray := prog_9_method_26_code
def yX7_letter : MethodName := ⟨RX7, "letter", "(II)I"⟩
abbrev cX7_named : ByteArray := prog_9_method_27_code
def yX7_named : MethodName := ⟨RX7, "named", "(III)I"⟩
abbrev cX7_least : ByteArray := prog_9_method_28_code
def yX7_least : MethodName := ⟨RX7, "least", "(I)I"⟩
abbrev cX7_greatest : ByteArray := prog_9_method_29_code
def yX7_greatest : MethodName := ⟨RX7, "greatest", "(I)I"⟩
abbrev cX7_valueOf : ByteArray := prog_9_method_30_code
def yX7_valueOf : MethodName := ⟨RX7, "valueOf", "(I)I"⟩
abbrev cX7_mark : ByteArray := prog_9_method_31_code
def yX7_mark : MethodName := ⟨RX7, "mark", "(II)V"⟩
abbrev cX7_range : ByteArray := prog_9_method_32_code
def yX7_range : MethodName := ⟨RX7, "range", "(IIII)V"⟩
abbrev cX7_step : ByteArray := prog_9_method_33_code
def yX7_step : MethodName := ⟨RX7, "step", "()I"⟩
abbrev cX7_item : ByteArray := prog_9_method_34_code
def yX7_item : MethodName := ⟨RX7, "item", "(I)V"⟩
abbrev cX7_lastDay : ByteArray := prog_9_method_35_code
def yX7_lastDay : MethodName := ⟨RX7, "lastDay", "()V"⟩
abbrev cX7_readField : ByteArray := prog_9_method_36_code
def yX7_readField : MethodName := ⟨RX7, "readField", "(I)V"⟩
abbrev cX7_blanks : ByteArray := prog_9_method_37_code
def yX7_blanks : MethodName := ⟨RX7, "blanks", "()V"⟩
abbrev cX7_word : ByteArray := prog_9_method_38_code
def yX7_word : MethodName := ⟨RX7, "word", "(JI)Z"⟩
abbrev cX7_short0 : ByteArray := prog_9_method_39_code
def yX7_short0 : MethodName := ⟨RX7, "short0", "()V"⟩
abbrev cX7_readText : ByteArray := prog_9_method_40_code
def yX7_readText : MethodName := ⟨RX7, "readText", "()V"⟩
abbrev cX7_order : ByteArray := prog_9_method_41_code
def yX7_order : MethodName := ⟨RX7, "order", "(IIIII)I"⟩
abbrev cX7_fault : ByteArray := prog_9_method_42_code
def yX7_fault : MethodName := ⟨RX7, "fault", "()I"⟩
abbrev cX7_none : ByteArray := prog_9_method_43_code
def yX7_none : MethodName := ⟨RX7, "none", "(I)Z"⟩
abbrev cX7_orders : ByteArray := prog_9_method_44_code
def yX7_orders : MethodName := ⟨RX7, "orders", "()I"⟩
abbrev cX7_dropRun : ByteArray := prog_9_method_45_code
def yX7_dropRun : MethodName := ⟨RX7, "dropRun", "(I)V"⟩
abbrev cX7_cancel : ByteArray := prog_9_method_46_code
def yX7_cancel : MethodName := ⟨RX7, "cancel", "(I)I"⟩
abbrev cX7_runsOf : ByteArray := prog_9_method_47_code
def yX7_runsOf : MethodName := ⟨RX7, "runsOf", "(I)I"⟩
abbrev cX7_told : ByteArray := prog_9_method_48_code
def yX7_told : MethodName := ⟨RX7, "told", "(II)I"⟩
abbrev cX7_field : ByteArray := prog_9_method_49_code
def yX7_field : MethodName := ⟨RX7, "field", "(II)J"⟩
abbrev cX7_weekOf : ByteArray := prog_9_method_50_code
def yX7_weekOf : MethodName := ⟨RX7, "weekOf", "(III)I"⟩
abbrev cX7_nearest : ByteArray := prog_9_method_51_code
def yX7_nearest : MethodName := ⟨RX7, "nearest", "(III)I"⟩
abbrev cX7_dayAlone : ByteArray := prog_9_method_52_code
def yX7_dayAlone : MethodName := ⟨RX7, "dayAlone", "(IIII)Z"⟩
abbrev cX7_weekAlone : ByteArray := prog_9_method_53_code
def yX7_weekAlone : MethodName := ⟨RX7, "weekAlone", "(IIII)Z"⟩
abbrev cX7_bothDay : ByteArray := prog_9_method_54_code
def yX7_bothDay : MethodName := ⟨RX7, "bothDay", "(IIII)Z"⟩
abbrev cX7_whole : ByteArray := prog_9_method_55_code
def yX7_whole : MethodName := ⟨RX7, "whole", "(IIII)Z"⟩
abbrev cX7_day : ByteArray := prog_9_method_56_code
def yX7_day : MethodName := ⟨RX7, "day", "(IIIII)Z"⟩
abbrev cX7_isTime : ByteArray := prog_9_method_57_code
def yX7_isTime : MethodName := ⟨RX7, "isTime", "(II)Z"⟩
abbrev cX7_isMatch : ByteArray := prog_9_method_58_code
def yX7_isMatch : MethodName := ⟨RX7, "isMatch", "(II)Z"⟩
abbrev cX7_matches : ByteArray := prog_9_method_59_code
def yX7_matches : MethodName := ⟨RX7, "matches", "(II)Z"⟩
abbrev cX7_walk : ByteArray := prog_9_method_60_code
def yX7_walk : MethodName := ⟨RX7, "walk", "(IIII)V"⟩
abbrev cX7_look : ByteArray := prog_9_method_61_code
def yX7_look : MethodName := ⟨RX7, "look", "(IIIII)V"⟩
abbrev cX7_next : ByteArray := prog_9_method_62_code
def yX7_next : MethodName := ⟨RX7, "next", "(III)I"⟩
abbrev cX7_before : ByteArray := prog_9_method_63_code
def yX7_before : MethodName := ⟨RX7, "before", "(III)I"⟩
abbrev cX7_between : ByteArray := prog_9_method_64_code
def yX7_between : MethodName := ⟨RX7, "between", "(III)I"⟩
abbrev cX7_line : ByteArray := prog_9_method_65_code
def yX7_line : MethodName := ⟨RX7, "line", "(IIII)V"⟩
abbrev cX7_begin : ByteArray := prog_9_method_66_code
def yX7_begin : MethodName := ⟨RX7, "begin", "(III)V"⟩
abbrev cX7_end : ByteArray := prog_9_method_67_code
def yX7_end : MethodName := ⟨RX7, "end", "(II)V"⟩
abbrev cX7_due : ByteArray := prog_9_method_68_code
def yX7_due : MethodName := ⟨RX7, "due", "(II)V"⟩
abbrev cX7_ending : ByteArray := prog_9_method_69_code
def yX7_ending : MethodName := ⟨RX7, "ending", "(I)I"⟩
abbrev cX7_put : ByteArray := prog_9_method_70_code
def yX7_put : MethodName := ⟨RX7, "put", "(I)V"⟩
abbrev cX7_pass : ByteArray := prog_9_method_71_code
def yX7_pass : MethodName := ⟨RX7, "pass", "(I)I"⟩
abbrev cX7_sleep : ByteArray := prog_9_method_72_code
def yX7_sleep : MethodName := ⟨RX7, "sleep", "()V"⟩
abbrev cX7_wake : ByteArray := prog_9_method_73_code
def yX7_wake : MethodName := ⟨RX7, "wake", "()I"⟩
abbrev cX7_missed : ByteArray := prog_9_method_74_code
def yX7_missed : MethodName := ⟨RX7, "missed", "(I)V"⟩
abbrev cX7_log : ByteArray := prog_9_method_75_code
def yX7_log : MethodName := ⟨RX7, "log", "(II)I"⟩
abbrev cX7_tear : ByteArray := prog_9_method_76_code
def yX7_tear : MethodName := ⟨RX7, "tear", "()I"⟩
abbrev cX7_count : ByteArray := prog_9_method_77_code
def yX7_count : MethodName := ⟨RX7, "count", "(I)I"⟩
def RJ13 : String := "java/lang/Long"
def TJ13 : u_T := fun k => match k with
  | _ => ("", "", "", false)
def tyJ13 : Nat → FieldType := fun k => match k with
  | _ => .int
abbrev cJ13_bitCount_95d88 : ByteArray := prog_14_method_50_code
def yJ13_bitCount_95d88 : MethodName := ⟨RJ13, "bitCount", "(J)I"⟩
def RJ9 : String := "java/lang/Math"
def TJ9 : u_T := fun k => match k with
  | _ => ("", "", "", false)
def tyJ9 : Nat → FieldType := fun k => match k with
  | _ => .int
abbrev cJ9_floorDiv_7cf53 : ByteArray := prog_15_method_47_code
def yJ9_floorDiv_7cf53 : MethodName := ⟨RJ9, "floorDiv", "(II)I"⟩
abbrev cJ9_floorMod_7cf53 : ByteArray := prog_15_method_50_code
def yJ9_floorMod_7cf53 : MethodName := ⟨RJ9, "floorMod", "(II)I"⟩
abbrev cJ9_max_7cf53 : ByteArray := prog_15_method_65_code
def yJ9_max_7cf53 : MethodName := ⟨RJ9, "max", "(II)I"⟩
abbrev cJ9_min_7cf53 : ByteArray := prog_15_method_69_code
def yJ9_min_7cf53 : MethodName := ⟨RJ9, "min", "(II)I"⟩
def RJ0 : String := "java/lang/String"
def TJ0 : u_T := fun k => match k with
  | _ => ("", "", "", false)
def tyJ0 : Nat → FieldType := fun k => match k with
  | _ => .int
abbrev cJ0_length_8abf5 : ByteArray := prog_17_method_54_code
def yJ0_length_8abf5 : MethodName := ⟨RJ0, "length", "()I"⟩
abbrev cJ0_charAt_5068e : ByteArray := prog_17_method_56_code
def yJ0_charAt_5068e : MethodName := ⟨RJ0, "charAt", "(I)C"⟩
abbrev cJ0_coder_7d493 : ByteArray := prog_17_method_152_code
def yJ0_coder_7d493 : MethodName := ⟨RJ0, "coder", "()B"⟩
abbrev cJ0_isLatin1_aae02 : ByteArray := prog_17_method_154_code
def yJ0_isLatin1_aae02 : MethodName := ⟨RJ0, "isLatin1", "()Z"⟩
abbrev cJ0_checkIndex_df160 : ByteArray := prog_17_method_155_code
def yJ0_checkIndex_df160 : MethodName := ⟨RJ0, "checkIndex", "(II)V"⟩
def RJ1 : String := "java/lang/StringLatin1"
def TJ1 : u_T := fun k => match k with
  | _ => ("", "", "", false)
def tyJ1 : Nat → FieldType := fun k => match k with
  | _ => .int
abbrev cJ1_charAt_3b067 : ByteArray := prog_18_method_2_code
def yJ1_charAt_3b067 : MethodName := ⟨RJ1, "charAt", "([BI)C"⟩
def RJ2 : String := "java/lang/StringUTF16"
def TJ2 : u_T := fun k => match k with
  | _ => ("", "", "", false)
def tyJ2 : Nat → FieldType := fun k => match k with
  | _ => .int
abbrev cJ2_getChar_3b067 : ByteArray := prog_19_method_5_code
def yJ2_getChar_3b067 : MethodName := ⟨RJ2, "getChar", "([BI)C"⟩
abbrev cJ2_length_9d52b : ByteArray := prog_19_method_6_code
def yJ2_length_9d52b : MethodName := ⟨RJ2, "length", "([B)I"⟩
abbrev cJ2_charAt_3b067 : ByteArray := prog_19_method_83_code
def yJ2_charAt_3b067 : MethodName := ⟨RJ2, "charAt", "([BI)C"⟩
abbrev cJ2_checkIndex_2214a : ByteArray := prog_19_method_91_code
def yJ2_checkIndex_2214a : MethodName := ⟨RJ2, "checkIndex", "(I[B)V"⟩
def RJ3 : String := "jdk/internal/util/Preconditions"
def TJ3 : u_T := fun k => match k with
  | _ => ("", "", "", false)
def tyJ3 : Nat → FieldType := fun k => match k with
  | _ => .int
abbrev cJ3_checkIndex_8e157 : ByteArray := prog_21_method_11_code
def yJ3_checkIndex_8e157 : MethodName := ⟨RJ3, "checkIndex", "(IILjava/util/function/BiFunction;)I"⟩
def RL : String := "CalendarOrdersLaw"
abbrev cL_zone : ByteArray := method_3_code
def yL_zone : MethodName := ⟨RL, "zone", "(LCalendarOrders;II)I"⟩
abbrev cL_change : ByteArray := method_4_code
def yL_change : MethodName := ⟨RL, "change", "(LCalendarOrders;III[J)I"⟩
abbrev cL_civil : ByteArray := method_5_code
def yL_civil : MethodName := ⟨RL, "civil", "(LCalendarOrders;III[J)I"⟩
abbrev cL_minute : ByteArray := method_6_code
def yL_minute : MethodName := ⟨RL, "minute", "(LCalendarOrders;IIIIII[J)I"⟩
abbrev cL_feed : ByteArray := method_7_code
def yL_feed : MethodName := ⟨RL, "feed", "(LCalendarOrders;JI[J)I"⟩
abbrev cL_order : ByteArray := method_8_code
def yL_order : MethodName := ⟨RL, "order", "(LCalendarOrders;IIIII[J)I"⟩
abbrev cL_cancel : ByteArray := method_9_code
def yL_cancel : MethodName := ⟨RL, "cancel", "(LCalendarOrders;I[J)I"⟩
abbrev cL_told : ByteArray := method_10_code
def yL_told : MethodName := ⟨RL, "told", "(LCalendarOrders;II[J)I"⟩
abbrev cL_field : ByteArray := method_11_code
def yL_field : MethodName := ⟨RL, "field", "(LCalendarOrders;II[J)I"⟩
abbrev cL_day : ByteArray := method_12_code
def yL_day : MethodName := ⟨RL, "day", "(LCalendarOrders;IIIII[J)I"⟩
abbrev cL_matches : ByteArray := method_13_code
def yL_matches : MethodName := ⟨RL, "matches", "(LCalendarOrders;II[J)I"⟩
abbrev cL_next : ByteArray := method_14_code
def yL_next : MethodName := ⟨RL, "next", "(LCalendarOrders;III[J)I"⟩
abbrev cL_before : ByteArray := method_15_code
def yL_before : MethodName := ⟨RL, "before", "(LCalendarOrders;III[J)I"⟩
abbrev cL_between : ByteArray := method_16_code
def yL_between : MethodName := ⟨RL, "between", "(LCalendarOrders;III[J)I"⟩
abbrev cL_put : ByteArray := method_17_code
def yL_put : MethodName := ⟨RL, "put", "(LCalendarOrders;I)I"⟩
abbrev cL_pass : ByteArray := method_18_code
def yL_pass : MethodName := ⟨RL, "pass", "(LCalendarOrders;I[J)I"⟩
abbrev cL_sleep : ByteArray := method_19_code
def yL_sleep : MethodName := ⟨RL, "sleep", "(LCalendarOrders;)I"⟩
abbrev cL_wake : ByteArray := method_20_code
def yL_wake : MethodName := ⟨RL, "wake", "(LCalendarOrders;[J)I"⟩
abbrev cL_log : ByteArray := method_21_code
def yL_log : MethodName := ⟨RL, "log", "(LCalendarOrders;II[J)I"⟩
abbrev cL_count : ByteArray := method_22_code
def yL_count : MethodName := ⟨RL, "count", "(LCalendarOrders;I[J)I"⟩
abbrev cL_law : ByteArray := code
def yL_law : MethodName := ⟨RL, "law", "([I)Z"⟩
abbrev vwCl : List vw_C := [(RX0, TX0, 6), (RX1, TX1, 5), (RX2, TX2, 17), (RX3, TX3, 13), (RX4, TX4, 6), (RX5, TX5, 3), (RX6, TX6, 9), (RX7, TX7, 60)]
end
section
/-! what a method's table does with what is thrown over its frame; entries cold or warm -/
section CX1
variable {Q : Handler → Pre} {E : CtlPost} {e : Env} {d : Bool} {acts : List Action} {s : State} {f : JFrame} {a : Addr}
/-- a row that covers the place: its class is linked; then it takes the object, or the search goes on -/
theorem cx_row {x : ExceptionTableEntry} {t : List ExceptionTableEntry} {c : ClassId} {cell : Cell} (hx : covers x f.pc = true) (h0 : x.catchType ≠ 0)
    (hl : s.vm.ClassLinks e.platform f.method.cls x.catchType c) (hcell : s.heap[a]? = some cell) (hobj : ∀ k, cell.vm ≠ .statics k)
    (hk : ∃ k, s.vm.classes[cell.cls]? = some k) (hc : ∃ k, s.vm.classes[c]? = some k) (b : Bool) (hb : s.vm.assignable cell.cls c = b) :
    wp (findHandler.go f a (x :: t)) Q E e d acts s ↔ (if b = true then Q (.found x.handlerPc) d acts (s.setVm (s.vm.noted f.method.cls x.catchType (.cls c))) else wp (findHandler.go f a t) Q E e d acts (s.setVm (s.vm.noted f.method.cls x.catchType (.cls c)))) := by
  have hal : s.vm.Alike (s.vm.noted f.method.cls x.catchType (.cls c)) := (Vm.Alike.refl s.vm).noted _ _ _
  obtain ⟨ha, ht⟩ := (resolveClass_links e.toSetting hl).op (op := VmOp.resolveClass f.method.cls x.catchType) rfl
  obtain ⟨k1, hk1⟩ := hk
  obtain ⟨k2, hk2⟩ := hc
  obtain ⟨k3, hk3, -⟩ := hal.2.2 _ _ hk1
  obtain ⟨k4, hk4, -⟩ := hal.2.2 _ _ hk2
  have hb' : (s.vm.noted f.method.cls x.catchType (.cls c)).assignable cell.cls c = b := by rw [hal.assignable]; exact hb
  simp only [covers] at hx
  cases b <;> simp [findHandler.go, hx, h0, ha, ht, hcell, hobj, hk3, hk4, hb', VmOp.dirties, VmOp.acts]
end CX1
/-- the rows ahead are passed, the row x takes it -/
theorem cx_rows {e : Env} {s₀ : State} {f : JFrame} {a : Addr} {cell : Cell} (hobj : ∀ k, cell.vm ≠ .statics k) (hk0 : ∃ k, s₀.vm.classes[cell.cls]? = some k)
    (x : ExceptionTableEntry) (rest : List ExceptionTableEntry) (hx : covers x f.pc = true) (h0 : x.catchType ≠ 0) {cx : ClassId} (hlx : s₀.vm.ClassLinks e.platform f.method.cls x.catchType cx) (hfx : s₀.vm.assignable cell.cls cx = true) :
    ∀ (pre : List ExceptionTableEntry) (S : State), s₀.WarmedH S.vm → S.heap[a]? = some cell →
      (∀ y ∈ pre, covers y f.pc = false ∨ (y.catchType ≠ 0 ∧ ∃ c, s₀.vm.ClassLinks e.platform f.method.cls y.catchType c ∧ s₀.vm.assignable cell.cls c = false)) →
      ∃ vm', s₀.WarmedH vm' ∧ ∀ (Q : Handler → Pre) (E : CtlPost) (d : Bool) (acts : List Action), wp (findHandler.go f a (pre ++ x :: rest)) Q E e d acts S ↔ Q (.found x.handlerPc) d acts (S.setVm vm') := by
  obtain ⟨k0, hk0⟩ := hk0
  intro pre
  induction pre with
  | nil =>
    intro S hW hcell _
    obtain ⟨k0', hk0', -⟩ := hW.alike.2.2 _ _ hk0
    obtain ⟨dk, _, _, kt, hd, _, _, _, _, hkt, _, hopen⟩ := hlx.here
    obtain ⟨kt', hkt', -⟩ := hW.alike.2.2 _ _ hkt
    refine ⟨_, hW.noted hd hopen (State.rightAt_cls hlx), fun Q E d acts => ?_⟩
    rw [List.nil_append, cx_row hx h0 (hW.classLinks hlx) hcell hobj ⟨k0', hk0'⟩ ⟨kt', hkt'⟩ true (by rw [hW.alike.assignable]; exact hfx), if_pos rfl]
  | cons y ys ih =>
    intro S hW hcell hpass
    obtain ⟨k0', hk0', -⟩ := hW.alike.2.2 _ _ hk0
    have hys := fun z (hz : z ∈ ys) => hpass z (List.mem_cons_of_mem _ hz)
    cases hcov : covers y f.pc with
    | false =>
      obtain ⟨vm', hW', hq⟩ := ih S hW hcell hys
      exact ⟨vm', hW', fun Q E d acts => by rw [List.cons_append, W.findHandler_go_skip hcov]; exact hq Q E d acts⟩
    | true =>
      rcases hpass y List.mem_cons_self with h | ⟨hy0, c, hl, hno⟩
      · rw [hcov] at h; cases h
      · obtain ⟨dk, _, _, kt, hd, _, _, _, _, hkt, _, hopen⟩ := hl.here
        obtain ⟨kt', hkt', -⟩ := hW.alike.2.2 _ _ hkt
        obtain ⟨vm', hW', hq⟩ := ih (S.setVm (S.vm.noted f.method.cls y.catchType (.cls c))) (hW.noted hd hopen (State.rightAt_cls hl)) hcell hys
        refine ⟨vm', hW', fun Q E d acts => ?_⟩
        rw [List.cons_append, cx_row hcov hy0 (hW.classLinks hl) hcell hobj ⟨k0', hk0'⟩ ⟨kt', hkt'⟩ false (by rw [hW.alike.assignable]; exact hno), if_neg (by decide)]
        exact hq Q E d acts
section CX2
variable {p : Program} {l : Launch} {e : Env} {R : Room} {s : State} {m : MethodId} {args : Array Value} {below : List Frame} {meth : Method} {c : Code} {H : Heap} {locs : List Loc} {cells slots : Nat} {Q : State → Prop} {pc : Nat} {ls : Array Slot} {rest : List Value}
/-- caught by the row x of this method's table; the rows ahead do not take it -/
theorem cx_catch {own name : String} {E : String} {ce : Cell} {q : Addr} (hown : s.vm.findClass own = some m.cls) (pre : List ExceptionTableEntry) (x : ExceptionTableEntry) (suf : List ExceptionTableEntry) (hsplit : c.exceptionTable.toList = pre ++ x :: suf)
    (hpass : ∀ z ∈ pre, covers z pc = false ∨ (z.catchType ≠ 0 ∧ ∃ nm : String, (Cond.classLink own z.catchType nm).before args s = true ∧ va_Nc E nm s)) (hx : covers x pc = true) (h0 : x.catchType ≠ 0)
    (hlink : (Cond.classLink own x.catchType name).before args s = true) (hcast : (Cond.castable E name).before args s = true) (hcell : H[q]? = some ce) (hv : ce.vm = .none) (hcl : s.vm.findClass E = some ce.cls)
    (kk : W p l e R s m args below meth c H locs cells slots Q (F0 m x.handlerPc ls [.ref q])) : vx_W p l e R s m args below meth c H locs cells slots Q (F0 m pc ls rest) q := by
  intro T hT X
  have hpl : e.platform.magicAccessors = ({} : Platform).magicAccessors := by rw [X.admits.platform]
  obtain ⟨c3, c4, hc3, hc4, hasg⟩ := Cond.castable_spec hcast
  cases Option.some.inj (hc3.symm.trans hcl)
  obtain ⟨c5, hc5, hcl5⟩ := Cond.classLink_spec hown hlink e.platform hpl
  cases Option.some.inj (hc4.symm.trans hc5)
  have hobj : ∀ k, ce.vm ≠ .statics k := fun k h => by rw [hv] at h; cases h
  obtain ⟨vm', hW', hq⟩ := cx_rows (e := e) (s₀ := s) (f := F0 m pc ls rest) (a := q) (cell := ce) hobj (by obtain ⟨k9, h9, -⟩ := Vm.findClass_spec hcl; exact ⟨k9, h9⟩) x suf hx h0 hcl5 hasg pre ((T.setTop (F0 m pc ls rest)).pushFrame (.throwing q)) X.warmed (by show T.heap[q]? = some ce; rw [hT]; exact hcell)
    (fun z hz => by
      rcases hpass z hz with h | ⟨hz0, nm, hl1, hn1⟩
      · exact Or.inl h
      · obtain ⟨c6, hc6, hcl6⟩ := Cond.classLink_spec hown hl1 e.platform hpl
        obtain ⟨a8, b8, h1, h2, h3⟩ := hn1
        cases Option.some.inj (h1.symm.trans hcl)
        cases Option.some.inj (h2.symm.trans hc6)
        exact Or.inr ⟨hz0, _, hcl6, h3⟩)
  obtain ⟨t, a1, b1⟩ := kk (T.setVm vm') hT (X.noted hW')
  refine ⟨t, ?_, b1⟩
  have hh : At T (F0 m pc ls rest).method c below := X.here
  obtain ⟨hgo, hw⟩ := hh.throwing q
  refine Steps.head hgo hw ?_
  have hfind : ∀ (Q : Handler → Pre) (E : CtlPost) (d : Bool) (acts : List Action), wp (findHandler (F0 m pc ls rest) q) Q E e d acts ((T.setTop (F0 m pc ls rest)).pushFrame (.throwing q)) ↔ Q (.found x.handlerPc) d acts (((T.setTop (F0 m pc ls rest)).pushFrame (.throwing q)).setVm vm') := by
    intro Q E d acts
    rw [W.findHandler_eq (meth := meth) (code := c) X.method' X.code, hsplit]
    exact hq Q E d acts
  have hstep : (stepThrowing e ((T.setTop (F0 m pc ls rest)).pushFrame (.throwing q)) q (.java (F0 m pc ls rest) :: T.frames.tail)).Is ((((T.setTop (F0 m pc ls rest)).pushFrame (.throwing q)).setVm vm').setFrames (.java { (F0 m pc ls rest) with pc := x.handlerPc, stack := [.ref q] } :: T.frames.tail)) [] := by
    simp only [stepThrowing, searchFrame, vmDo]
    generalize hr : Sem.go _ e false [] ((T.setTop (F0 m pc ls rest)).pushFrame (.throwing q)) = res
    obtain ⟨as, rfl, ha⟩ := Sem.eq_ok_of hr (a := Handler.found x.handlerPc) (s' := ((T.setTop (F0 m pc ls rest)).pushFrame (.throwing q)).setVm vm') (acts' := []) (by simp [hfind _ _ _ _])
    exact ⟨rfl, ha⟩
  rw [stepThread_throwing (frames_entered hh.top _), hstep.1]
  obtain ⟨g₀, hg⟩ := Option.isSome_iff_exists.mp hh.top
  obtain ⟨r, hr⟩ := State.topJava?_eq_some.mp hg
  have hr' : (T.setVm vm').frames = .java g₀ :: r := hr
  rw [State.setTop_of_frames _ hr'] at a1
  have hsw : ∀ (u : State) (F G : List Frame), ((u.setFrames F).setVm vm').setFrames G = (u.setVm vm').setFrames G := fun u F G => by
    have h1 : (u.setFrames F).setVm vm' = (u.setVm vm').setFrames F := rfl
    rw [h1, State.setFrames_setFrames]
  rw [hr, List.tail_cons, State.pushFrame, hsw, State.setTop_of_frames _ hr, hsw]
  exact a1
end CX2
end
section
/-! locals as a list by their places; simple instructions run by a function -/
def xa (L : List (Option Value)) : List (Nat × Value) := L.zipIdx.filterMap (fun q => q.1.map (fun v => (q.2, v)))
theorem xa_mem {L : List (Option Value)} {i : Nat} {v : Value} : (i, v) ∈ xa L ↔ L[i]? = some (some v) := by
  unfold xa
  rw [List.mem_filterMap]
  constructor
  · rintro ⟨⟨o, j⟩, hq, he⟩
    cases o with
    | none => simp at he
    | some w =>
      simp only [Option.map_some, Option.some.injEq, Prod.mk.injEq] at he
      obtain ⟨rfl, rfl⟩ := he
      exact (List.mem_zipIdx_iff_getElem?).mp hq
  · intro h
    exact ⟨(some v, i), (List.mem_zipIdx_iff_getElem?).mpr h, rfl⟩
/-- the locals: as many as told, each told value held -/
def xl (ls : Array Slot) (n : Nat) (L : List (Option Value)) : Prop := lv_has ls n (xa L)
theorem xl.at {ls : Array Slot} {n : Nat} {L : List (Option Value)} (h : xl ls n L) {i : Nat} {v : Value} (hi : L[i]? = some (some v)) : ls[i]? = some (.val v) := h.2.2 (i, v) (xa_mem.mpr hi)
def xclr (L : List (Option Value)) (k : Nat) : List (Option Value) := match k with
  | 0 => L
  | j + 1 => match L[j]? with
    | some (some v) => bif Nat.beq v.category 2 then L.set j none else L
    | _ => L
def xst (L : List (Option Value)) (k : Nat) (v : Value) : List (Option Value) := bif Nat.beq v.category 2 then ((xclr L k).set k (some v)).set (k + 1) none else (xclr L k).set k (some v)
theorem xclr_at {L : List (Option Value)} {k j : Nat} {w : Value} (h : (xclr L k)[j]? = some (some w)) : L[j]? = some (some w) ∧ (j + 1 = k → w.category ≠ 2) := by
  unfold xclr at h
  split at h
  · exact ⟨h, fun e => by omega⟩
  · rename_i i
    split at h
    · rename_i v hv
      by_cases hc : Nat.beq v.category 2 = true
      · rw [hc] at h
        simp only [cond_true] at h
        by_cases hj : i = j
        · subst hj
          have hl := (List.getElem?_eq_some_iff.mp hv).1
          rw [List.getElem?_set_self hl] at h
          cases h
        · rw [List.getElem?_set_ne hj] at h
          exact ⟨h, fun e => by omega⟩
      · rw [Bool.not_eq_true] at hc
        rw [hc] at h
        simp only [cond_false] at h
        refine ⟨h, fun e e2 => ?_⟩
        have : i = j := by omega
        subst this
        rw [h] at hv
        cases hv
        rw [e2] at hc
        exact absurd hc (by decide)
    · rename_i hno
      refine ⟨h, fun e e2 => ?_⟩
      have : i = j := by omega
      subst this
      exact hno w h
theorem xl.st1 {ls' : Array Slot} {n i : Nat} {L : List (Option Value)} {v : Value} (hc : v.category = 1) (h : lv_has ls' n ((i, v) :: (xa L).filter (fun q => !(q.1 == i) && !(q.1 + 1 == i && q.2.category == 2)))) : xl ls' n (xst L i v) := by
  refine ⟨h.1, h.2.1, fun q hq => ?_⟩
  obtain ⟨j, w⟩ := q
  have h1 := xa_mem.mp hq
  have hb : Nat.beq v.category 2 = false := by rw [hc]; rfl
  unfold xst at h1
  rw [hb, cond_false] at h1
  by_cases hj : i = j
  · subst hj
    rw [List.getElem?_set] at h1
    simp only [if_true] at h1
    split at h1
    · cases h1
      exact h.2.2 _ List.mem_cons_self
    · cases h1
  · rw [List.getElem?_set_ne hj] at h1
    obtain ⟨h2, h3⟩ := xclr_at h1
    refine h.2.2 _ (List.mem_cons_of_mem _ (List.mem_filter.mpr ⟨xa_mem.mpr h2, ?_⟩))
    have e1 : (j == i) = false := by simp; omega
    simp only [e1, Bool.not_false, Bool.true_and, Bool.not_eq_true', Bool.and_eq_false_iff, beq_eq_false_iff_ne, ne_eq]
    by_cases he : j + 1 = i
    · exact Or.inr (h3 he)
    · exact Or.inl he
theorem xl.st2 {ls' : Array Slot} {n i : Nat} {L : List (Option Value)} {v : Value} (hc : v.category = 2) (h : lv_has ls' n ((i, v) :: (xa L).filter (fun q => !(q.1 == i) && (!(q.1 == i + 1) && !(q.1 + 1 == i && q.2.category == 2))))) : xl ls' n (xst L i v) := by
  refine ⟨h.1, h.2.1, fun q hq => ?_⟩
  obtain ⟨j, w⟩ := q
  have h1 := xa_mem.mp hq
  have hb : Nat.beq v.category 2 = true := by rw [hc]; rfl
  unfold xst at h1
  rw [hb, cond_true] at h1
  by_cases hj2 : i + 1 = j
  · subst hj2
    rw [List.getElem?_set] at h1
    simp only [if_true] at h1
    split at h1 <;> cases h1
  rw [List.getElem?_set_ne hj2] at h1
  by_cases hj : i = j
  · subst hj
    rw [List.getElem?_set] at h1
    simp only [if_true] at h1
    split at h1
    · cases h1
      exact h.2.2 _ List.mem_cons_self
    · cases h1
  · rw [List.getElem?_set_ne hj] at h1
    obtain ⟨h2, h3⟩ := xclr_at h1
    refine h.2.2 _ (List.mem_cons_of_mem _ (List.mem_filter.mpr ⟨xa_mem.mpr h2, ?_⟩))
    have e1 : (j == i) = false := by simp; omega
    have e2 : (j == i + 1) = false := by simp; omega
    simp only [e1, e2, Bool.not_false, Bool.true_and, Bool.not_eq_true', Bool.and_eq_false_iff, beq_eq_false_iff_ne, ne_eq]
    by_cases he : j + 1 = i
    · exact Or.inr (h3 he)
    · exact Or.inl he
/-- a method's locals at its entry -/
def xe (vs : List Value) : List (Option Value) := vs.flatMap fun v => bif Nat.beq v.category 2 then [some v, none] else [some v]
theorem xe_cons (v : Value) (vs : List Value) : xe (v :: vs) = (bif Nat.beq v.category 2 then [some v, none] else [some v]) ++ xe vs := rfl
theorem xe_at : ∀ (vs : List Value) (b i : Nat) (w : Value), (xe vs)[i]? = some (some w) → (b + i, w) ∈ lv_args b vs
  | [], b, i, w, h => by simp [xe] at h
  | v :: vs, b, i, w, h => by
    rw [xe_cons] at h
    have hv : v.category = 1 ∨ v.category = 2 := lv_cat v
    rcases hv with hv | hv
    · have hb : Nat.beq v.category 2 = false := by rw [hv]; rfl
      rw [hb, cond_false] at h
      cases i with
      | zero =>
        simp at h
        subst h
        simp [lv_args]
      | succ i =>
        have h2 : (xe vs)[i]? = some (some w) := by simpa using h
        have := xe_at vs (b + 1) i w h2
        simp only [lv_args, hv]
        refine List.mem_cons_of_mem _ ?_
        have e : b + 1 + i = b + (i + 1) := by omega
        rw [← e]
        simpa using this
    · have hb : Nat.beq v.category 2 = true := by rw [hv]; rfl
      rw [hb, cond_true] at h
      cases i with
      | zero =>
        simp at h
        subst h
        simp [lv_args]
      | succ i =>
        cases i with
        | zero => simp at h
        | succ i =>
          have h2 : (xe vs)[i]? = some (some w) := by simpa using h
          have := xe_at vs (b + 2) i w h2
          simp only [lv_args, hv]
          refine List.mem_cons_of_mem _ ?_
          have e : b + 2 + i = b + (i + 1 + 1) := by omega
          rw [← e]
          simpa using this
theorem xl_entry (vs : List Value) {n k : Nat} (h : (lg_sl vs).length ≤ n) : xl ((lg_sl vs ++ List.replicate (n - (lg_sl vs).length) Slot.unset).toArray) n (xe vs ++ List.replicate k none) := by
  have h1 := lv_entry vs h
  refine ⟨h1.1, h1.2.1, fun q hq => ?_⟩
  obtain ⟨i, w⟩ := q
  have h2 := xa_mem.mp hq
  by_cases hi : i < (xe vs).length
  · rw [List.getElem?_append_left hi] at h2
    have := xe_at vs 0 i w h2
    rw [Nat.zero_add] at this
    exact h1.2.2 _ this
  · rw [List.getElem?_append_right (by omega), List.getElem?_replicate] at h2
    split at h2 <;> cases h2
/-! the instructions that touch neither heap nor calls -/
def opC : Instr → Option Value
  | .iconst n => some (.int (Int32.ofInt n))
  | .bipush n => some (.int (Int8.ofInt n).toInt32)
  | .sipush n => some (.int (Int16.ofInt n).toInt32)
  | .lconst n => some (.long (Int64.ofNat (n : Nat)))
  | .aconst_null => some .null
  | _ => none
def opL : Instr → Option (Nat × Nat)
  | .iload_n k => some (0, k)
  | .iload i => some (0, i)
  | .lload_n k => some (1, k)
  | .lload i => some (1, i)
  | .aload_n k => some (2, k)
  | .aload i => some (2, i)
  | _ => none
def opS : Instr → Option (Nat × Nat)
  | .istore_n k => some (0, k)
  | .istore i => some (0, i)
  | .lstore_n k => some (1, k)
  | .lstore i => some (1, i)
  | .astore_n k => some (2, k)
  | .astore i => some (2, i)
  | _ => none
def okV (k : Nat) : Value → Bool
  | .int _ => Nat.beq k 0
  | .long _ => Nat.beq k 1
  | .ref _ => Nat.beq k 2
  | .null => Nat.beq k 2
  | _ => false
def opI : Instr → Option (Int32 → Int32 → Int32)
  | .iadd => some (fun x y => x + y)
  | .isub => some (fun x y => x - y)
  | .imul => some (fun x y => x * y)
  | .iand => some (fun x y => x &&& y)
  | .ior => some (fun x y => x ||| y)
  | .ixor => some (fun x y => x ^^^ y)
  | .ishl => some (fun x y => x <<< (y &&& 31))
  | .ishr => some (fun x y => x >>> (y &&& 31))
  | _ => none
def opJ : Instr → Option (Int64 → Int64 → Int64)
  | .ladd => some (fun x y => x + y)
  | .lsub => some (fun x y => x - y)
  | .lmul => some (fun x y => x * y)
  | .land => some (fun x y => x &&& y)
  | .lor => some (fun x y => x ||| y)
  | .lxor => some (fun x y => x ^^^ y)
  | _ => none
def opH : Instr → Option (Int64 → Int32 → Int64)
  | .lshl => some (fun x y => x <<< (y.toInt64 &&& 63))
  | .lshr => some (fun x y => x >>> (y.toInt64 &&& 63))
  | .lushr => some (fun x y => (x.toUInt64 >>> (y.toInt64.toUInt64 &&& Int64.toUInt64 63)).toInt64)
  | _ => none
def opU : Instr → List Value → Option (List Value)
  | .i2l, .int x :: r => some (.long x.toInt64 :: r)
  | .l2i, .long x :: r => some (.int x.toInt32 :: r)
  | .i2b, .int x :: r => some (.int x.toInt8.toInt32 :: r)
  | .i2c, .int x :: r => some (.int (x.toUInt32 % 65536).toInt32 :: r)
  | .lneg, .long x :: r => some (.long (-x) :: r)
  | .lcmp, .long y :: .long x :: r => some (.int (lg_cmp x y) :: r)
  | .dup, v :: r => bif Nat.beq v.category 1 then some (v :: v :: r) else none
  | .pop, v :: r => bif Nat.beq v.category 1 then some r else none
  | .dup2, v :: r => bif Nat.beq v.category 2 then some (v :: v :: r) else (match r with
    | w :: r2 => bif Nat.beq w.category 1 then some (v :: w :: v :: w :: r2) else none
    | [] => none)
  | _, _ => none
def smp (i : Instr) (L : List (Option Value)) (st : List Value) : Option (List (Option Value) × List Value) :=
  match opC i with
  | some v => some (L, v :: st)
  | none => match opL i with
    | some (k, j) => (match L[j]? with
      | some (some v) => bif okV k v then some (L, v :: st) else none
      | _ => none)
    | none => match opS i with
      | some (k, j) => (match st with
        | v :: r => bif okV k v && Nat.ble (j + v.category) L.length then some (xst L j v, r) else none
        | [] => none)
      | none => match opI i, st with
        | some f, .int y :: .int x :: r => some (L, .int (f x y) :: r)
        | some _, _ => none
        | none, st => match opJ i, st with
          | some f, .long y :: .long x :: r => some (L, .long (f x y) :: r)
          | some _, _ => none
          | none, st => match opH i, st with
            | some f, .int y :: .long x :: r => some (L, .long (f x y) :: r)
            | some _, _ => none
            | none, st => (match i with
              | .iinc j n => (match L[j]? with
                | some (some (.int x)) => some (xst L j (.int (x + Int32.ofInt n)), st)
                | _ => none)
              | _ => (opU i st).map (fun st' => (L, st')))
end
section
/-! the simple instructions over the machine -/
def opN : Instr → Nat
  | .bipush _ => 2
  | .sipush _ => 3
  | .iload _ => 2
  | .lload _ => 2
  | .aload _ => 2
  | .istore _ => 2
  | .lstore _ => 2
  | .astore _ => 2
  | .iinc _ _ => 3
  | _ => 1
def xL (ls : Array Slot) (n : Nat) (L : List (Option Value)) : Prop := xl ls n L ∧ L.length ≤ n
theorem xclr_len (L : List (Option Value)) (k : Nat) : (xclr L k).length = L.length := by
  unfold xclr
  split
  · rfl
  · split
    · rename_i v hv
      cases Nat.beq v.category 2 <;> simp
    · rfl
theorem xst_len (L : List (Option Value)) (k : Nat) (v : Value) : (xst L k v).length = L.length := by
  unfold xst
  cases Nat.beq v.category 2 <;> simp [xclr_len]
section SMP
variable {p : Program} {l : Launch} {e : Env} {R : Room} {s : State} {m : MethodId} {args : Array Value} {below : List Frame} {meth : Method} {c : Code} {H : Heap} {locs : List Loc} {cells slots : Nat} {Q : State → Prop}
variable {cc : ByteArray} {pc nL : Nat} {ls : Array Slot} {i : Instr} {L L' : List (Option Value)} {st st' : List Value}
theorem w_opC (hexec : p.tables.exec = Jvm.exec) (hb : c.code = cc) {v : Value} (h : opC i = some v) (hdg : decode cc pc = .ok (i, opN i))
    (k : W p l e R s m args below meth c H locs cells slots Q (F0 m (pc + opN i) ls (v :: st))) : W p l e R s m args below meth c H locs cells slots Q (F0 m pc ls st) := by
  unfold opC at h
  split at h
  · cases h; exact lv_iconst hexec hb hdg rfl k
  · cases h; exact lv_bipush hexec hb hdg rfl k
  · cases h; exact lv_sipush hexec hb hdg rfl k
  · cases h; exact lv_lconst hexec hb hdg rfl k
  · cases h; exact lv_null hexec hb hdg k
  · cases h
theorem w_opL (hexec : p.tables.exec = Jvm.exec) (hb : c.code = cc) {z j : Nat} {v : Value} (h : opL i = some (z, j)) (hv : okV z v = true) (hl : ls[j]? = some (.val v)) (hdg : decode cc pc = .ok (i, opN i))
    (k : W p l e R s m args below meth c H locs cells slots Q (F0 m (pc + opN i) ls (v :: st))) : W p l e R s m args below meth c H locs cells slots Q (F0 m pc ls st) := by
  unfold opL at h
  split at h <;> first | (cases h; done) | (cases h; cases v <;> first | (cases hv; done) | (exact lv_iload_n hexec hb hdg rfl hl k) | (exact lv_iload hexec hb hdg hl k) | (exact lv_lload_n hexec hb hdg rfl hl k) | (exact lv_lload hexec hb hdg hl k) | (exact lv_aload_n hexec hb hdg rfl hl k) | (exact lv_aload hexec hb hdg hl k) | (exact lv_aload_nN hexec hb hdg rfl hl k) | (exact lv_aloadN hexec hb hdg hl k))
theorem w_opS (hexec : p.tables.exec = Jvm.exec) (hb : c.code = cc) {z j : Nat} {v : Value} (h : opS i = some (z, j)) (hv : okV z v = true) (hl : xl ls nL L) (hj : j + v.category ≤ nL) (hdg : decode cc pc = .ok (i, opN i))
    (k : ∀ ls' : Array Slot, xl ls' nL (xst L j v) → W p l e R s m args below meth c H locs cells slots Q (F0 m (pc + opN i) ls' st)) : W p l e R s m args below meth c H locs cells slots Q (F0 m pc ls (v :: st)) := by
  unfold opS at h
  split at h <;> first | (cases h; done) | (cases h; cases v <;> first | (cases hv; done) | (exact lv_istore_n hexec hb hdg rfl hl hj rfl (fun ls' h' => k ls' (xl.st1 rfl h'))) | (exact lv_istore hexec hb hdg hl hj rfl (fun ls' h' => k ls' (xl.st1 rfl h'))) | (exact lv_lstore_n hexec hb hdg rfl hl hj rfl (fun ls' h' => k ls' (xl.st2 rfl h'))) | (exact lv_lstore hexec hb hdg hl hj rfl (fun ls' h' => k ls' (xl.st2 rfl h'))) | (exact lv_astore_n hexec hb hdg rfl hl hj rfl (fun ls' h' => k ls' (xl.st1 rfl h'))) | (exact lv_astore hexec hb hdg hl hj rfl (fun ls' h' => k ls' (xl.st1 rfl h'))) | (exact lv_astore_nN hexec hb hdg rfl hl hj rfl (fun ls' h' => k ls' (xl.st1 rfl h'))) | (exact lv_astoreN hexec hb hdg hl hj rfl (fun ls' h' => k ls' (xl.st1 rfl h'))))
theorem w_opI (hexec : p.tables.exec = Jvm.exec) (hb : c.code = cc) {f : Int32 → Int32 → Int32} {x y : Int32} (h : opI i = some f) (hdg : decode cc pc = .ok (i, opN i))
    (k : W p l e R s m args below meth c H locs cells slots Q (F0 m (pc + opN i) ls (.int (f x y) :: st))) : W p l e R s m args below meth c H locs cells slots Q (F0 m pc ls (.int y :: .int x :: st)) := by
  unfold opI at h
  split at h <;> first | (cases h; done) | (cases h; first | exact lv_iadd hexec hb hdg k | exact lv_isub hexec hb hdg k | exact lv_imul hexec hb hdg k | exact lv_iand hexec hb hdg k | exact lv_ior hexec hb hdg k | exact lv_ixor hexec hb hdg k | exact lv_ishl hexec hb hdg k | exact lv_ishr hexec hb hdg k)
theorem w_opJ (hexec : p.tables.exec = Jvm.exec) (hb : c.code = cc) {f : Int64 → Int64 → Int64} {x y : Int64} (h : opJ i = some f) (hdg : decode cc pc = .ok (i, opN i))
    (k : W p l e R s m args below meth c H locs cells slots Q (F0 m (pc + opN i) ls (.long (f x y) :: st))) : W p l e R s m args below meth c H locs cells slots Q (F0 m pc ls (.long y :: .long x :: st)) := by
  unfold opJ at h
  split at h <;> first | (cases h; done) | (cases h; first | exact lv_ladd hexec hb hdg k | exact lv_lsub hexec hb hdg k | exact lv_lmul hexec hb hdg k | exact lv_land hexec hb hdg k | exact lv_lor hexec hb hdg k | exact lv_lxor hexec hb hdg k)
theorem w_opH (hexec : p.tables.exec = Jvm.exec) (hb : c.code = cc) {f : Int64 → Int32 → Int64} {x : Int64} {y : Int32} (h : opH i = some f) (hdg : decode cc pc = .ok (i, opN i))
    (k : W p l e R s m args below meth c H locs cells slots Q (F0 m (pc + opN i) ls (.long (f x y) :: st))) : W p l e R s m args below meth c H locs cells slots Q (F0 m pc ls (.int y :: .long x :: st)) := by
  unfold opH at h
  split at h <;> first | (cases h; done) | (cases h; first | exact lv_lshl hexec hb hdg rfl k | exact lv_lshr hexec hb hdg rfl k | exact lv_lushr hexec hb hdg rfl k)
theorem nbeq {a b : Nat} (h : Nat.beq a b = true) : a = b := Nat.eq_of_beq_eq_true h
theorem w_opU (hexec : p.tables.exec = Jvm.exec) (hb : c.code = cc) (h : opU i st = some st') (hdg : decode cc pc = .ok (i, opN i))
    (k : W p l e R s m args below meth c H locs cells slots Q (F0 m (pc + opN i) ls st')) : W p l e R s m args below meth c H locs cells slots Q (F0 m pc ls st) := by
  unfold opU at h
  split at h
  · cases h; exact lv_i2l hexec hb hdg rfl k
  · cases h; exact lv_l2i hexec hb hdg rfl k
  · cases h; exact lv_i2b hexec hb hdg rfl k
  · cases h; exact lv_i2c hexec hb hdg rfl k
  · cases h; exact lv_lneg hexec hb hdg k
  · cases h; exact W.lcmp hexec hb hdg k
  · rename_i v r
    cases hc : Nat.beq v.category 1 with
    | false => rw [hc] at h; cases h
    | true => rw [hc] at h; cases h; exact lv_dup hexec hb hdg (nbeq hc) k
  · rename_i v r
    cases hc : Nat.beq v.category 1 with
    | false => rw [hc] at h; cases h
    | true => rw [hc] at h; cases h; exact lv_pop hexec hb hdg (nbeq hc) k
  · rename_i v r
    cases hc : Nat.beq v.category 2 with
    | true => rw [hc] at h; cases h; exact lv_dup2_2 hexec hb hdg (nbeq hc) k
    | false =>
      rw [hc, cond_false] at h
      split at h
      · rename_i w r2
        cases hw : Nat.beq w.category 1 with
        | false => rw [hw] at h; cases h
        | true =>
          rw [hw] at h
          cases h
          have hv : v.category = 1 := by
            rcases lv_cat v with h1 | h1
            · exact h1
            · rw [h1] at hc; cases hc
          first | exact lv_dup2_11 hexec hb hdg hv (nbeq hw) k | exact lv_dup2_11 hexec hb hdg (nbeq hw) hv k
      · cases h
  · cases h
theorem w_smp (hexec : p.tables.exec = Jvm.exec) (hb : c.code = cc) (hl : xL ls nL L) (hs : smp i L st = some (L', st')) (hdg : decode cc pc = .ok (i, opN i))
    (k : ∀ ls' : Array Slot, xL ls' nL L' → W p l e R s m args below meth c H locs cells slots Q (F0 m (pc + opN i) ls' st')) : W p l e R s m args below meth c H locs cells slots Q (F0 m pc ls st) := by
  unfold smp at hs
  split at hs
  · rename_i v hv
    cases hs
    exact w_opC hexec hb hv hdg (k ls hl)
  split at hs
  · rename_i z j hz
    split at hs
    · rename_i v hv
      cases ho : okV z v with
      | false => rw [ho] at hs; cases hs
      | true => rw [ho] at hs; cases hs; exact w_opL hexec hb hz ho (hl.1.at hv) hdg (k ls hl)
    · cases hs
  split at hs
  · rename_i z j hz
    split at hs
    · rename_i v r
      cases ho : okV z v && Nat.ble (j + v.category) L.length with
      | false => rw [ho] at hs; cases hs
      | true =>
        rw [ho] at hs
        cases hs
        rw [Bool.and_eq_true] at ho
        have h1 : j + v.category ≤ L.length := Nat.le_of_ble_eq_true ho.2
        exact w_opS hexec hb hz ho.1 hl.1 (Nat.le_trans h1 hl.2) hdg (fun ls' h' => k ls' ⟨h', by rw [xst_len]; exact hl.2⟩)
    · cases hs
  split at hs
  · rename_i f y x r hf
    cases hs
    exact w_opI hexec hb hf hdg (k ls hl)
  · cases hs
  split at hs
  · rename_i f y x r hf
    cases hs
    exact w_opJ hexec hb hf hdg (k ls hl)
  · cases hs
  split at hs
  · rename_i f y x r hf
    cases hs
    exact w_opH hexec hb hf hdg (k ls hl)
  · cases hs
  split at hs
  · rename_i j n _ _ _ _ _ _
    split at hs
    · rename_i x hx
      cases hs
      have hj : j < L.length := (List.getElem?_eq_some_iff.mp hx).1
      obtain ⟨q, hq⟩ := List.getElem?_of_mem (xa_mem.mpr hx)
      exact lv_iinc hexec hb hdg hl.1 hq rfl (Nat.lt_of_lt_of_le hj hl.2) rfl (fun ls' h' => k ls' ⟨xl.st1 rfl h', by rw [xst_len]; exact hl.2⟩)
    · cases hs
  · cases ho : opU i _ with
    | none => rw [ho] at hs; cases hs
    | some w => rw [ho] at hs; cases hs; exact w_opU hexec hb ho hdg (k ls hl)
end SMP
end
section
/-! the memory: addresses, kinds, lengths, and what the places hold, by sort -/
abbrev Mm : Type := List Nat × (Nat → Nat) × (Nat → Nat) × (Nat → Nat → Int32) × (Nat → Nat → Int64) × (Nat → Nat → Option Nat)
def mL (M : Mm) : List Nat := M.1
def mK (M : Mm) : Nat → Nat := M.2.1
def mN (M : Mm) : Nat → Nat := M.2.2.1
def mI (M : Mm) : Nat → Nat → Int32 := M.2.2.2.1
def mJ (M : Mm) : Nat → Nat → Int64 := M.2.2.2.2.1
def mP (M : Mm) : Nat → Nat → Option Nat := M.2.2.2.2.2
def sI (M : Mm) (a k : Nat) (v : Int32) : Mm := (M.1, M.2.1, M.2.2.1, va_up M.2.2.2.1 a (va_up (M.2.2.2.1 a) k v), M.2.2.2.2.1, M.2.2.2.2.2)
def sJ (M : Mm) (a k : Nat) (v : Int64) : Mm := (M.1, M.2.1, M.2.2.1, M.2.2.2.1, va_up M.2.2.2.2.1 a (va_up (M.2.2.2.2.1 a) k v), M.2.2.2.2.2)
def sP (M : Mm) (a k : Nat) (v : Option Nat) : Mm := (M.1, M.2.1, M.2.2.1, M.2.2.2.1, M.2.2.2.2.1, va_up M.2.2.2.2.2 a (va_up (M.2.2.2.2.2 a) k v))
/-- a new thing at q, of kind c, of n places, all 0 -/
def nO (M : Mm) (q c n : Nat) : Mm := (M.1 ++ [q], va_up M.2.1 q c, va_up M.2.2.1 q n, va_up M.2.2.2.1 q (fun _ => 0), va_up M.2.2.2.2.1 q (fun _ => 0), va_up M.2.2.2.2.2 q (fun _ => none))
def nfC (c : Nat) : Nat := match c with
  | 0 => 6
  | 1 => 5
  | 2 => 17
  | 3 => 13
  | 4 => 6
  | 5 => 3
  | 6 => 9
  | _ => 60
def tyC (c : Nat) : Nat → FieldType := match c with
  | 0 => tyX0
  | 1 => tyX1
  | 2 => tyX2
  | 3 => tyX3
  | 4 => tyX4
  | 5 => tyX5
  | 6 => tyX6
  | _ => tyX7
/-- of which sort a place is: 0 a number of 32 bits, 1 of 64, 2 a reference -/
def srt (t : FieldType) : Nat := match t with
  | .long => 1
  | .object _ => 2
  | .array _ => 2
  | _ => 0
def fv (t : FieldType) (M : Mm) (a k : Nat) : Value := match srt t with
  | 0 => .int (mI M a k)
  | 1 => .long (mJ M a k)
  | _ => va_rf (mP M a k)
def fl (M : Mm) (a c : Nat) : List Value := (List.range (nfC c)).map (fun k => fv (tyC c k) M a k)
def ent (cy : Nat → ClassId) (M : Mm) (a : Nat) : va_E :=
  if mK M a < 8 then .inr (mK M a, fl M a (mK M a))
  else .inl (cy (mK M a), mN M a, if mK M a = 10 then .inr (.inl (mJ M a)) else if 12 ≤ mK M a then .inr (.inr (.inr (.inr (mP M a)))) else .inl (mI M a))
theorem fl_len (M : Mm) (a c : Nat) : (fl M a c).length = nfC c := by simp [fl]
theorem fl_at (M : Mm) (a c : Nat) {k : Nat} (h : k < nfC c) : (fl M a c)[k]? = some (fv (tyC c k) M a k) := by simp [fl, h]
theorem fl_set {M M' : Mm} {a c k : Nat} {v : Value} (h1 : k < nfC c) (h2 : fv (tyC c k) M' a k = v) (h3 : ∀ j, j ≠ k → fv (tyC c j) M' a j = fv (tyC c j) M a j) : fl M' a c = (fl M a c).set k v := by
  apply List.ext_getElem?
  intro j
  by_cases hj : k = j
  · subst hj
    rw [List.getElem?_set_self (by rw [fl_len]; exact h1), fl_at M' a c h1, h2]
  · rw [List.getElem?_set_ne hj]
    by_cases hl : j < nfC c
    · rw [fl_at M' a c hl, fl_at M a c hl, h3 j (fun q => hj q.symm)]
    · simp [fl, hl]
theorem ent_o {cy : Nat → ClassId} {M : Mm} {a c : Nat} (h : mK M a = c) (hc : c < 8) : ent cy M a = .inr (c, fl M a c) := by
  unfold ent; rw [h, if_pos hc]
theorem ent_i {cy : Nat → ClassId} {M : Mm} {a c : Nat} (h : mK M a = c) (h8 : ¬ c < 8) (h10 : c ≠ 10) (h12 : ¬ 12 ≤ c) : ent cy M a = .inl (cy c, mN M a, .inl (mI M a)) := by
  unfold ent; rw [h, if_neg h8, if_neg h10, if_neg h12]
theorem ent_j {cy : Nat → ClassId} {M : Mm} {a : Nat} (h : mK M a = 10) : ent cy M a = .inl (cy 10, mN M a, .inr (.inl (mJ M a))) := by
  unfold ent; rw [h, if_neg (by omega), if_pos rfl]
theorem ent_p {cy : Nat → ClassId} {M : Mm} {a c : Nat} (h : mK M a = c) (h12 : 12 ≤ c) : ent cy M a = .inl (cy c, mN M a, .inr (.inr (.inr (.inr (mP M a))))) := by
  unfold ent; rw [h, if_neg (by omega), if_neg (by omega), if_pos h12]
theorem ent_ne {cy : Nat → ClassId} {M M' : Mm} {b : Nat} (hK : mK M' b = mK M b) (hN : mN M' b = mN M b) (hI : mI M' b = mI M b) (hJ : mJ M' b = mJ M b) (hP : mP M' b = mP M b) : ent cy M' b = ent cy M b := by
  have hf : ∀ c, fl M' b c = fl M b c := fun c => by
    unfold fl
    apply List.map_congr_left
    intro k _
    unfold fv
    rw [hI, hJ, hP]
  unfold ent
  rw [hK, hN, hI, hJ, hP, hf]
theorem mI_sI (M : Mm) (a k : Nat) (v : Int32) (b j : Nat) : mI (sI M a k v) b j = if b = a ∧ j = k then v else mI M b j := by
  show va_up M.2.2.2.1 a (va_up (M.2.2.2.1 a) k v) b j = _
  unfold va_up
  by_cases h : b = a
  · subst h
    by_cases h2 : j = k <;> simp [h2, mI]
  · simp [h, mI]
theorem mJ_sJ (M : Mm) (a k : Nat) (v : Int64) (b j : Nat) : mJ (sJ M a k v) b j = if b = a ∧ j = k then v else mJ M b j := by
  show va_up M.2.2.2.2.1 a (va_up (M.2.2.2.2.1 a) k v) b j = _
  unfold va_up
  by_cases h : b = a
  · subst h
    by_cases h2 : j = k <;> simp [h2, mJ]
  · simp [h, mJ]
theorem mP_sP (M : Mm) (a k : Nat) (v : Option Nat) (b j : Nat) : mP (sP M a k v) b j = if b = a ∧ j = k then v else mP M b j := by
  show va_up M.2.2.2.2.2 a (va_up (M.2.2.2.2.2 a) k v) b j = _
  unfold va_up
  by_cases h : b = a
  · subst h
    by_cases h2 : j = k <;> simp [h2, mP]
  · simp [h, mP]
theorem up_row {α : Type} (f : Nat → α) (a b : Nat) (v : α) (h : b ≠ a) : va_up f a v b = f b := va_up_ne f v h
/-- a number is put into an object -/
theorem ent_sI {cy : Nat → ClassId} {M : Mm} {a c k : Nat} (v : Int32) (h : mK M a = c) (hc : c < 8) (hk : k < nfC c) (ht : srt (tyC c k) = 0) (b : Nat) : va_up (ent cy M) a (.inr (c, (fl M a c).set k (.int v))) b = ent cy (sI M a k v) b := by
  by_cases hb : b = a
  · subst hb
    rw [va_up_self, ent_o (M := sI M b k v) h hc]
    refine congrArg (fun l => (Sum.inr (c, l) : va_E)) (fl_set hk ?_ ?_).symm
    · unfold fv; rw [ht]; show Value.int (mI (sI M b k v) b k) = _; rw [mI_sI, if_pos ⟨rfl, rfl⟩]
    · intro j hj
      unfold fv
      rw [show mI (sI M b k v) b j = mI M b j by rw [mI_sI, if_neg (fun q => hj q.2)]]
      rfl
  · rw [va_up_ne _ _ hb]
    exact (ent_ne (M := M) (M' := sI M a k v) rfl rfl (up_row _ _ _ _ hb) rfl rfl).symm
theorem ent_sJ {cy : Nat → ClassId} {M : Mm} {a c k : Nat} (v : Int64) (h : mK M a = c) (hc : c < 8) (hk : k < nfC c) (ht : srt (tyC c k) = 1) (b : Nat) : va_up (ent cy M) a (.inr (c, (fl M a c).set k (.long v))) b = ent cy (sJ M a k v) b := by
  by_cases hb : b = a
  · subst hb
    rw [va_up_self, ent_o (M := sJ M b k v) h hc]
    refine congrArg (fun l => (Sum.inr (c, l) : va_E)) (fl_set hk ?_ ?_).symm
    · unfold fv; rw [ht]; show Value.long (mJ (sJ M b k v) b k) = _; rw [mJ_sJ, if_pos ⟨rfl, rfl⟩]
    · intro j hj
      unfold fv
      rw [show mJ (sJ M b k v) b j = mJ M b j by rw [mJ_sJ, if_neg (fun q => hj q.2)]]
      rfl
  · rw [va_up_ne _ _ hb]
    exact (ent_ne (M := M) (M' := sJ M a k v) rfl rfl rfl (up_row _ _ _ _ hb) rfl).symm
theorem ent_sP {cy : Nat → ClassId} {M : Mm} {a c k : Nat} (v : Option Nat) (h : mK M a = c) (hc : c < 8) (hk : k < nfC c) (ht : srt (tyC c k) = 2) (b : Nat) : va_up (ent cy M) a (.inr (c, (fl M a c).set k (va_rf v))) b = ent cy (sP M a k v) b := by
  by_cases hb : b = a
  · subst hb
    rw [va_up_self, ent_o (M := sP M b k v) h hc]
    refine congrArg (fun l => (Sum.inr (c, l) : va_E)) (fl_set hk ?_ ?_).symm
    · unfold fv; rw [ht]; show va_rf (mP (sP M b k v) b k) = _; rw [mP_sP, if_pos ⟨rfl, rfl⟩]
    · intro j hj
      unfold fv
      rw [show mP (sP M b k v) b j = mP M b j by rw [mP_sP, if_neg (fun q => hj q.2)]]
      rfl
  · rw [va_up_ne _ _ hb]
    exact (ent_ne (M := M) (M' := sP M a k v) rfl rfl rfl rfl (up_row _ _ _ _ hb)).symm
/-- .. and into an array -/
theorem ent_aI {cy : Nat → ClassId} {M : Mm} {a c k : Nat} (v : Int32) (h : mK M a = c) (h8 : ¬ c < 8) (h10 : c ≠ 10) (h12 : ¬ 12 ≤ c) (b : Nat) : va_up (ent cy M) a (.inl (cy c, mN M a, .inl (upd (mI M a) k v))) b = ent cy (sI M a k v) b := by
  by_cases hb : b = a
  · subst hb
    rw [va_up_self, ent_i (M := sI M b k v) h h8 h10 h12]
    refine congrArg (fun f => (Sum.inl (cy c, mN M b, Sum.inl f) : va_E)) (funext fun j => ?_)
    rw [mI_sI]
    unfold upd
    by_cases hj : j = k <;> simp [hj]
  · rw [va_up_ne _ _ hb]
    exact (ent_ne (M := M) (M' := sI M a k v) rfl rfl (up_row _ _ _ _ hb) rfl rfl).symm
theorem ent_aJ {cy : Nat → ClassId} {M : Mm} {a k : Nat} (v : Int64) (h : mK M a = 10) (b : Nat) : va_up (ent cy M) a (.inl (cy 10, mN M a, .inr (.inl (vp_updL (mJ M a) k v)))) b = ent cy (sJ M a k v) b := by
  by_cases hb : b = a
  · subst hb
    rw [va_up_self, ent_j (M := sJ M b k v) h]
    refine congrArg (fun f => (Sum.inl (cy 10, mN M b, Sum.inr (Sum.inl f)) : va_E)) (funext fun j => ?_)
    rw [mJ_sJ]
    unfold vp_updL
    by_cases hj : j = k <;> simp [hj]
  · rw [va_up_ne _ _ hb]
    exact (ent_ne (M := M) (M' := sJ M a k v) rfl rfl rfl (up_row _ _ _ _ hb) rfl).symm
theorem ent_aP {cy : Nat → ClassId} {M : Mm} {a c k : Nat} (v : Option Nat) (h : mK M a = c) (h12 : 12 ≤ c) (b : Nat) : va_up (ent cy M) a (.inl (cy c, mN M a, .inr (.inr (.inr (.inr (va_up (mP M a) k v)))))) b = ent cy (sP M a k v) b := by
  by_cases hb : b = a
  · subst hb
    rw [va_up_self, ent_p (M := sP M b k v) h h12]
    refine congrArg (fun f => (Sum.inl (cy c, mN M b, Sum.inr (Sum.inr (Sum.inr (Sum.inr f)))) : va_E)) (funext fun j => ?_)
    rw [mP_sP]
    unfold va_up
    by_cases hj : j = k <;> simp [hj]
  · rw [va_up_ne _ _ hb]
    exact (ent_ne (M := M) (M' := sP M a k v) rfl rfl rfl rfl (up_row _ _ _ _ hb)).symm
/-- a new thing -/
theorem ent_nO {cy : Nat → ClassId} {M : Mm} {q c n : Nat} {e : va_E} (he : ent cy (nO M q c n) q = e) (b : Nat) : va_up (ent cy M) q e b = ent cy (nO M q c n) b := by
  by_cases hb : b = q
  · subst hb
    rw [va_up_self, he]
  · rw [va_up_ne _ _ hb]
    exact (ent_ne (M := M) (M' := nO M q c n) (up_row _ _ _ _ hb) (up_row _ _ _ _ hb) (up_row _ _ _ _ hb) (up_row _ _ _ _ hb) (up_row _ _ _ _ hb)).symm
/-! the walk's fixed things: launch, the heap at the law's start, the classes' numbers and slots, the arrays' classes -/
abbrev Gx : Type := Launch × Heap × va_G × (Nat → ClassId) × (Nat → Nat)
def gl (G : Gx) : Launch := G.1
def gH (G : Gx) : Heap := G.2.1
def gD (G : Gx) : va_G := G.2.2.1
def gY (G : Gx) : Nat → ClassId := G.2.2.2.1
/-- where statics and texts lie -/
def gS (G : Gx) : Nat → Nat := G.2.2.2.2
def gA (G : Gx) : Nat → Prop := fun q => (gH G).size ≤ q
def gT (G : Gx) : List (ClassId × FieldType) := [(gY G 8, .byte), (gY G 9, .int), (gY G 10, .long), (gY G 11, .boolean), (gY G 12, .object "CalendarOrders$Order"), (gY G 13, .object "CalendarOrders$Zone")]
def xw (G : Gx) (M : Mm) : va_W := va_pl (mL M) (ent (gY G) M)
def xh (G : Gx) (M : Mm) (H : Heap) : Prop := va_P (gD G) vwCl (xw G M) H ∧ va_D (gA G) (xw G M)
/-- the old cells are as they were at the law's start -/
def xo (G : Gx) (H : Heap) : Prop := (gH G).size ≤ H.size ∧ ∀ q : Nat, q < (gH G).size → H[q]? = (gH G)[q]?
theorem xo.go {G : Gx} {H0 H : Heap} {locs : List Loc} (h : xo G H0) (hS : va_S (gA G) H0 H locs) : xo G H := ⟨Nat.le_trans h.1 hS.1, fun q hq => by rw [hS.2.1 q (Nat.lt_of_lt_of_le hq h.1) (Nat.not_le.mpr hq)]; exact h.2 q hq⟩
theorem xw_get {G : Gx} {M : Mm} {a : Nat} (h : a ∈ mL M) : ∃ k : Nat, (xw G M)[k]? = some (a, ent (gY G) M a) := va_pl_get (X := []) h
theorem xw_set {G : Gx} {M M' : Mm} {a k : Nat} {e : va_E} (hD : va_D (gA G) (xw G M)) (h : a ∈ mL M) (hk : (xw G M)[k]? = some (a, ent (gY G) M a)) (hL : mL M' = mL M) (he : ∀ b, va_up (ent (gY G) M) a e b = ent (gY G) M' b) : (xw G M).set k (a, e) = xw G M' := by
  have h1 := va_pl_set (X := []) (e := e) hD h hk
  have h2 : (xw G M).set k (a, e) = va_pl (mL M) (va_up (ent (gY G) M) a e) := h1
  rw [h2]
  unfold xw
  rw [hL]
  exact va_pl_congr he
theorem xw_push {G : Gx} {M M' : Mm} {q : Nat} {e : va_E} (h : q ∉ mL M) (hL : mL M' = mL M ++ [q]) (he : ∀ b, va_up (ent (gY G) M) q e b = ent (gY G) M' b) : xw G M ++ [(q, e)] = xw G M' := by
  unfold xw
  rw [va_pl_push h, hL]
  exact va_pl_congr he
end
section
/-! a method's judgement: E; a method's contract: MC -/
def lkp : List (Instr × Nat) → Nat → Nat → Option (Instr × Nat)
  | [], _, _ => none
  | x :: r, a, b => bif Nat.beq a b then some x else lkp r (a + x.2) b
def dcb (cc : ByteArray) : List (Instr × Nat) → Nat → Bool
  | [], _ => true
  | x :: r, a => decide (decode cc a = .ok x) && dcb cc r (a + x.2)
theorem lkp_ok {cc : ByteArray} {x : Instr × Nat} {b : Nat} : ∀ (is : List (Instr × Nat)) (a : Nat), dcb cc is a = true → lkp is a b = some x → decode cc b = .ok x
  | [], _, _, h => by cases h
  | y :: r, a, hd, h => by
    simp only [dcb, Bool.and_eq_true, decide_eq_true_eq] at hd
    unfold lkp at h
    cases hb : Nat.beq a b with
    | true =>
      rw [hb, cond_true] at h
      cases h
      rw [← nbeq hb]
      exact hd.1
    | false =>
      rw [hb, cond_false] at h
      exact lkp_ok r _ hd.2 h
abbrev MI : Type := MethodName × ByteArray × Nat × Option FieldType × List (Nat × Nat × Nat × Nat) × Room × List (Instr × Nat)
abbrev miY (mi : MI) : MethodName := mi.1
abbrev miC (mi : MI) : ByteArray := mi.2.1
abbrev miL (mi : MI) : Nat := mi.2.2.1
abbrev miR (mi : MI) : Option FieldType := mi.2.2.2.1
abbrev miH (mi : MI) : List (Nat × Nat × Nat × Nat) := mi.2.2.2.2.1
abbrev miM (mi : MI) : Room := mi.2.2.2.2.2.1
abbrev miI (mi : MI) : List (Instr × Nat) := mi.2.2.2.2.2.2
/-- the words that every method is given -/
def ALLW : List Cond := lw_tbl.filter goodWord
def othW : Cond → Bool
  | .castable .. => true
  | .declares _ => true
  | .methodLinkNest .. => true
  | .fieldLinkNest .. => true
  | _ => false
def OTHW : List Cond := lw_tbl.filter othW
theorem aw {i : Nat} {w : Cond} (h : lw_tbl[i]? = some w) (hg : goodWord w = true) : w ∈ ALLW := List.mem_filter.mpr ⟨List.mem_of_getElem? h, hg⟩
theorem ao {i : Nat} {w : Cond} (h : lw_tbl[i]? = some w) (hg : othW w = true) : w ∈ OTHW := List.mem_filter.mpr ⟨List.mem_of_getElem? h, hg⟩
theorem oth_warm {w : Cond} (hw : othW w = true) {s U : State} (hW : s.WarmedH U.vm) (h : va_Nw w s) : va_Nw w U := by
  cases w <;> first | (cases hw; done) | exact va_Nw.warmM hW h | exact va_Nw.warmF hW h | skip
  · refine va_tabs rfl (rfl : (s.setVm U.vm).vm = U.vm) (A := #[]) ?_
    have h1 : (Cond.declares _).before #[] s = true := h
    rw [Cond.declares_setVm hW.alike]
    exact h1
  · refine va_tabs rfl (rfl : (s.setVm U.vm).vm = U.vm) (A := #[]) ?_
    have h1 : (Cond.castable _ _).before #[] s = true := h
    rw [Cond.castable_setVm hW.alike]
    exact h1
/-- pairs of classes of which the one is not the other -/
def ncW : List (String × String) := [("java/lang/IllegalArgumentException", "java/lang/IndexOutOfBoundsException"), ("java/lang/IllegalStateException", "java/lang/IndexOutOfBoundsException"), ("java/lang/IllegalStateException", "java/lang/IllegalArgumentException")]
def stW : List (String × Nat × String × Nat) := [("CalendarOrders", 311, "no such zone", 2), ("CalendarOrders", 315, "no such offset", 3), ("CalendarOrders", 317, "no such minute", 4), ("CalendarOrders", 69, "not behind the latest change", 5), ("CalendarOrders", 80, "no more changes", 6), ("CalendarOrders", 321, "nothing is told by that number", 7), ("CalendarOrders", 326, "no such date", 8), ("CalendarOrders", 125, "no such time of a day", 9), ("CalendarOrders", 133, "not 1 to 8 bytes", 10), ("CalendarOrders", 138, "the tape is full", 11), ("CalendarOrders", 143, "no such way, grace, overlap or length", 12), ("CalendarOrders", 149, "no more orders", 13), ("CalendarOrders$Tape", 79, "hourly", 14), ("CalendarOrders$Tape", 81, "daily", 15), ("CalendarOrders$Tape", 83, "weekly", 16), ("CalendarOrders$Tape", 85, "monthly", 17), ("CalendarOrders$Tape", 87, "yearly", 18), ("CalendarOrders$Tape", 136, "janfebmaraprmayjunjulaugsepoctnovdec", 19), ("CalendarOrders$Tape", 142, "sunmontuewedthufrisat", 20), ("CalendarOrders", 313, "no such order", 21), ("CalendarOrders", 220, "no such field", 22), ("CalendarOrders", 319, "not so many days", 23), ("CalendarOrders", 255, "the second minute is less, or too far behind", 24), ("CalendarOrders", 260, "asleep", 25), ("CalendarOrders", 266, "not so many minutes", 26), ("CalendarOrders", 274, "awake", 27), ("CalendarOrders", 293, "no such line", 28)]
def tbL (j : Nat) : Int32 := ([0, 0, 1, 1, 0, 1900] : List Int32).getD j 0
def tbG (j : Nat) : Int32 := ([59, 23, 31, 12, 7, 2199] : List Int32).getD j 0
def txW : List (Nat × List Int32) := [(14, [104, 111, 117, 114, 108, 121]), (15, [100, 97, 105, 108, 121]), (16, [119, 101, 101, 107, 108, 121]), (17, [109, 111, 110, 116, 104, 108, 121]), (18, [121, 101, 97, 114, 108, 121]), (19, [106, 97, 110, 102, 101, 98, 109, 97, 114, 97, 112, 114, 109, 97, 121, 106, 117, 110, 106, 117, 108, 97, 117, 103, 115, 101, 112, 111, 99, 116, 110, 111, 118, 100, 101, 99]), (20, [115, 117, 110, 109, 111, 110, 116, 117, 101, 119, 101, 100, 116, 104, 117, 102, 114, 105, 115, 97, 116])]
def ST (G : Gx) (s : State) : Prop :=
  (gl G).stackTraces = false ∧ vx_Zq Bundle.tN "UNASSIGNED_STACK" Bundle.steD (gA G) s (gH G) ∧ vx_Zq Bundle.tN "SUPPRESSED_SENTINEL" Bundle.listD (gA G) s (gH G) ∧
  (∀ q ∈ ncW, va_Nc q.1 q.2 s) ∧ (∀ q ∈ stW, vk_R q.1 q.2.1 q.2.2.1 (gS G q.2.2.2) s) ∧
  va_Z "CalendarOrders" "LEAST" "[I" (.ref (gS G 0)) (gA G) s (gH G) ∧ va_T .int (gS G 0) 6 (fun j => .int (tbL j)) (gA G) s (gH G) ∧
  va_Z "CalendarOrders" "GREATEST" "[I" (.ref (gS G 1)) (gA G) s (gH G) ∧ va_T .int (gS G 1) 6 (fun j => .int (tbG j)) (gA G) s (gH G) ∧
  va_AO "CalendarOrders$Zone" s ∧ va_AO "CalendarOrders$Order" s ∧ va_Z "java/lang/String" "COMPACT_STRINGS" "Z" (.int 1) (gA G) s (gH G) ∧ va_Zq "jdk/internal/util/Preconditions" "SIOOBE_FORMATTER" "Ljava/util/function/BiFunction;" (gA G) s (gH G) ∧
  (∀ q ∈ txW, va_O "java/lang/String" (gS G q.1) (gA G) s (gH G) ∧ va_OF "java/lang/String" "coder" "B" (.int 0) (gS G q.1) (gA G) s (gH G) ∧ va_OF "java/lang/String" "value" "[B" (.ref (gS G (q.1 + 64))) (gS G q.1) (gA G) s (gH G) ∧ va_T .byte (gS G (q.1 + 64)) q.2.length (fun j => .int (q.2.getD j 0)) (gA G) s (gH G))
theorem ST.warm {G : Gx} {s U : State} (hW : s.WarmedH U.vm) (h : ST G s) : ST G U := by
  obtain ⟨h0, h1, h2, h3, h4, h5, h6, h7, h8, g1, g2, g3, g4, g5⟩ := h
  exact ⟨h0, h1.moved hW.alike, h2.moved hW.alike, fun q hq => (h3 q hq).moved hW.alike, fun q hq => (h4 q hq).warm hW, h5.moved hW.alike, h6.moved hW.alike, h7.moved hW.alike, h8.moved hW.alike, g1.moved hW.alike, g2.moved hW.alike, g3.moved hW.alike, g4.moved hW.alike, fun q hq => ⟨va_O.moved hW.alike (g5 q hq).1, va_OF.moved hW.alike (g5 q hq).2.1, va_OF.moved hW.alike (g5 q hq).2.2.1, va_T.moved hW.alike (g5 q hq).2.2.2⟩⟩
def xg (G : Gx) (s : State) : Prop := va_K (gD G) vwCl (gT G) s ∧ (∀ w ∈ OTHW, va_Nw w s) ∧ ST G s
theorem xg.warm {G : Gx} {s U : State} (hW : s.WarmedH U.vm) (h : xg G s) : xg G U :=
  ⟨h.1.moved hW.alike, fun w hw => oth_warm (List.mem_filter.mp hw).2 hW (h.2.1 w hw), h.2.2.warm hW⟩
abbrev Rs : Type := Option Value ⊕ String
def xq (G : Gx) (Q : Rs → Mm → Prop) : Array Value → State → Outcome → State → Prop := fun _ st o t => ∃ (v : Option Value) (M' : Mm), o = .returned v ∧ Q (.inl v) M' ∧ xh G M' t.heap ∧ va_F (gA G) st t
def xx (G : Gx) (Q : Rs → Mm → Prop) : String → State → State → Prop := fun E st t => ∃ M' : Mm, Q (.inr E) M' ∧ xh G M' t.heap ∧ va_F (gA G) st t
/-- what stays while a method runs -/
def Cn (G : Gx) (mi : MI) (p : Program) (s : State) (m : MethodId) (args : Array Value) (meth : Method) (c : Code) : Prop :=
  p.tables.exec = Jvm.exec ∧ c.code = miC mi ∧ c.maxLocals = miL mi ∧ meth.sig.returnType = miR mi ∧ meth.locks = false ∧ c.exceptionTable.toList = tableOf (miH mi) ∧ s.vm.findClass (miY mi).cls = some m.cls ∧ meth.name = (miY mi).name ∧
  (∀ w ∈ ALLW, w.before args s = true) ∧ xg G s ∧ xo G s.heap ∧ dcb (miC mi) (miI mi) 0 = true
theorem Cn.dec {G : Gx} {mi : MI} {p : Program} {s : State} {m : MethodId} {args : Array Value} {meth : Method} {c : Code} (h : Cn G mi p s m args meth c) {pc : Nat} {x : Instr × Nat} (hl : lkp (miI mi) 0 pc = some x) : decode (miC mi) pc = .ok x := lkp_ok _ _ h.2.2.2.2.2.2.2.2.2.2.2 hl
theorem Cn.own {G : Gx} {mi : MI} {p : Program} {s : State} {m : MethodId} {args : Array Value} {meth : Method} {c : Code} (h : Cn G mi p s m args meth c) : s.vm.findClass (miY mi).cls = some m.cls := h.2.2.2.2.2.2.1
theorem Cn.ws {G : Gx} {mi : MI} {p : Program} {s : State} {m : MethodId} {args : Array Value} {meth : Method} {c : Code} (h : Cn G mi p s m args meth c) {w : Cond} (hw : w ∈ ALLW) : w.before args s = true := h.2.2.2.2.2.2.2.2.1 w hw
theorem Cn.g {G : Gx} {mi : MI} {p : Program} {s : State} {m : MethodId} {args : Array Value} {meth : Method} {c : Code} (h : Cn G mi p s m args meth c) : xg G s := h.2.2.2.2.2.2.2.2.2.1
theorem Cn.o {G : Gx} {mi : MI} {p : Program} {s : State} {m : MethodId} {args : Array Value} {meth : Method} {c : Code} (h : Cn G mi p s m args meth c) : xo G s.heap := h.2.2.2.2.2.2.2.2.2.2.1
def E (G : Gx) (mi : MI) (Q : Rs → Mm → Prop) (M : Mm) (k n pc : Nat) (L : List (Option Value)) (st : List Value) : Prop :=
  ∀ (p : Program) (e : Env) (s : State) (m : MethodId) (args : Array Value) (below : List Frame) (meth : Method) (c : Code) (H : Heap) (locs : List Loc) (ls : Array Slot),
    Cn G mi p s m args meth c → va_S (gA G) s.heap H locs → xh G M H → xL ls (miL mi) L →
    W p (gl G) e (miM mi) s m args below meth c H locs k n (vx_MQ below (xq G Q) (xx G Q) args s (miM mi).cells (miM mi).slots (gA G)) (F0 m pc ls st)
/-- simple instructions and jumps, n of them -/
def blk (is : List (Instr × Nat)) : Nat → Nat → List (Option Value) → List Value → Option (Nat × List (Option Value) × List Value)
  | 0, pc, L, st => some (pc, L, st)
  | n + 1, pc, L, st => match lkp is 0 pc with
    | none => none
    | some (.goto off, len) => match (pc : Int) + off with
      | .ofNat t => bif Nat.beq len 3 then blk is n t L st else none
      | .negSucc _ => none
    | some (i, len) => match smp i L st with
      | none => none
      | some (L', st') => bif Nat.beq len (opN i) then blk is n (pc + len) L' st' else none
section ER
variable {G : Gx} {mi : MI} {Q : Rs → Mm → Prop} {M : Mm} {k n pc : Nat} {L : List (Option Value)} {st : List Value}
theorem e_smp {i : Instr} {L' : List (Option Value)} {st' : List Value} (hd : lkp (miI mi) 0 pc = some (i, opN i)) (hs : smp i L st = some (L', st')) (kk : E G mi Q M k n (pc + opN i) L' st') : E G mi Q M k n pc L st := by
  intro p e s m args below meth c H locs ls hC hS hM hl
  exact w_smp hC.1 hC.2.1 hl hs (hC.dec hd) (fun ls' h' => kk p e s m args below meth c H locs ls' hC hS hM h')
theorem e_goto {off : Int} (tgt : Nat) (hd : lkp (miI mi) 0 pc = some (.goto off, 3)) (ht : (pc : Int) + off = (tgt : Int)) (kk : E G mi Q M k n tgt L st) : E G mi Q M k n pc L st := by
  intro p e s m args below meth c H locs ls hC hS hM hl
  exact lv_goto hC.1 hC.2.1 (hC.dec hd) ht (kk p e s m args below meth c H locs ls hC hS hM hl)
theorem e_icmp_eq {x y : Int32} {off : Int} {rest : List Value} (tgt : Nat) (hd : lkp (miI mi) 0 pc = some (.if_icmp .eq off, 3)) (ht : (pc : Int) + off = (tgt : Int))
    (kt : x = y → E G mi Q M k n tgt L rest) (kf : ¬ x = y → E G mi Q M k n (pc + 3) L rest) : E G mi Q M k n pc L (.int y :: .int x :: rest) := by
  intro p e s m args below meth c H locs ls hC hS hM hl
  exact lv_icmp_eq hC.1 hC.2.1 (hC.dec hd) ht (fun h => kt h p e s m args below meth c H locs ls hC hS hM hl) (fun h => kf h p e s m args below meth c H locs ls hC hS hM hl)
theorem e_icmp_ne {x y : Int32} {off : Int} {rest : List Value} (tgt : Nat) (hd : lkp (miI mi) 0 pc = some (.if_icmp .ne off, 3)) (ht : (pc : Int) + off = (tgt : Int))
    (kt : ¬ x = y → E G mi Q M k n tgt L rest) (kf : x = y → E G mi Q M k n (pc + 3) L rest) : E G mi Q M k n pc L (.int y :: .int x :: rest) := by
  intro p e s m args below meth c H locs ls hC hS hM hl
  exact lv_icmp_ne hC.1 hC.2.1 (hC.dec hd) ht (fun h => kt h p e s m args below meth c H locs ls hC hS hM hl) (fun h => kf h p e s m args below meth c H locs ls hC hS hM hl)
theorem e_icmp_lt {x y : Int32} {off : Int} {rest : List Value} (tgt : Nat) (hd : lkp (miI mi) 0 pc = some (.if_icmp .lt off, 3)) (ht : (pc : Int) + off = (tgt : Int))
    (kt : x < y → E G mi Q M k n tgt L rest) (kf : ¬ x < y → E G mi Q M k n (pc + 3) L rest) : E G mi Q M k n pc L (.int y :: .int x :: rest) := by
  intro p e s m args below meth c H locs ls hC hS hM hl
  exact lv_icmp_lt hC.1 hC.2.1 (hC.dec hd) ht (fun h => kt h p e s m args below meth c H locs ls hC hS hM hl) (fun h => kf h p e s m args below meth c H locs ls hC hS hM hl)
theorem e_icmp_ge {x y : Int32} {off : Int} {rest : List Value} (tgt : Nat) (hd : lkp (miI mi) 0 pc = some (.if_icmp .ge off, 3)) (ht : (pc : Int) + off = (tgt : Int))
    (kt : y ≤ x → E G mi Q M k n tgt L rest) (kf : ¬ y ≤ x → E G mi Q M k n (pc + 3) L rest) : E G mi Q M k n pc L (.int y :: .int x :: rest) := by
  intro p e s m args below meth c H locs ls hC hS hM hl
  exact lv_icmp_ge hC.1 hC.2.1 (hC.dec hd) ht (fun h => kt h p e s m args below meth c H locs ls hC hS hM hl) (fun h => kf h p e s m args below meth c H locs ls hC hS hM hl)
theorem e_icmp_gt {x y : Int32} {off : Int} {rest : List Value} (tgt : Nat) (hd : lkp (miI mi) 0 pc = some (.if_icmp .gt off, 3)) (ht : (pc : Int) + off = (tgt : Int))
    (kt : y < x → E G mi Q M k n tgt L rest) (kf : ¬ y < x → E G mi Q M k n (pc + 3) L rest) : E G mi Q M k n pc L (.int y :: .int x :: rest) := by
  intro p e s m args below meth c H locs ls hC hS hM hl
  exact lv_icmp_gt hC.1 hC.2.1 (hC.dec hd) ht (fun h => kt h p e s m args below meth c H locs ls hC hS hM hl) (fun h => kf h p e s m args below meth c H locs ls hC hS hM hl)
theorem e_icmp_le {x y : Int32} {off : Int} {rest : List Value} (tgt : Nat) (hd : lkp (miI mi) 0 pc = some (.if_icmp .le off, 3)) (ht : (pc : Int) + off = (tgt : Int))
    (kt : x ≤ y → E G mi Q M k n tgt L rest) (kf : ¬ x ≤ y → E G mi Q M k n (pc + 3) L rest) : E G mi Q M k n pc L (.int y :: .int x :: rest) := by
  intro p e s m args below meth c H locs ls hC hS hM hl
  exact lv_icmp_le hC.1 hC.2.1 (hC.dec hd) ht (fun h => kt h p e s m args below meth c H locs ls hC hS hM hl) (fun h => kf h p e s m args below meth c H locs ls hC hS hM hl)
theorem e_if_eq {x : Int32} {off : Int} {rest : List Value} (tgt : Nat) (hd : lkp (miI mi) 0 pc = some (.ifCond .eq off, 3)) (ht : (pc : Int) + off = (tgt : Int))
    (kt : x = 0 → E G mi Q M k n tgt L rest) (kf : ¬ x = 0 → E G mi Q M k n (pc + 3) L rest) : E G mi Q M k n pc L (.int x :: rest) := by
  intro p e s m args below meth c H locs ls hC hS hM hl
  exact lv_if_eq hC.1 hC.2.1 (hC.dec hd) ht (fun h => kt h p e s m args below meth c H locs ls hC hS hM hl) (fun h => kf h p e s m args below meth c H locs ls hC hS hM hl)
theorem e_if_ne {x : Int32} {off : Int} {rest : List Value} (tgt : Nat) (hd : lkp (miI mi) 0 pc = some (.ifCond .ne off, 3)) (ht : (pc : Int) + off = (tgt : Int))
    (kt : ¬ x = 0 → E G mi Q M k n tgt L rest) (kf : x = 0 → E G mi Q M k n (pc + 3) L rest) : E G mi Q M k n pc L (.int x :: rest) := by
  intro p e s m args below meth c H locs ls hC hS hM hl
  exact lv_if_ne hC.1 hC.2.1 (hC.dec hd) ht (fun h => kt h p e s m args below meth c H locs ls hC hS hM hl) (fun h => kf h p e s m args below meth c H locs ls hC hS hM hl)
theorem e_if_lt {x : Int32} {off : Int} {rest : List Value} (tgt : Nat) (hd : lkp (miI mi) 0 pc = some (.ifCond .lt off, 3)) (ht : (pc : Int) + off = (tgt : Int))
    (kt : x < 0 → E G mi Q M k n tgt L rest) (kf : ¬ x < 0 → E G mi Q M k n (pc + 3) L rest) : E G mi Q M k n pc L (.int x :: rest) := by
  intro p e s m args below meth c H locs ls hC hS hM hl
  exact lv_if_lt hC.1 hC.2.1 (hC.dec hd) ht (fun h => kt h p e s m args below meth c H locs ls hC hS hM hl) (fun h => kf h p e s m args below meth c H locs ls hC hS hM hl)
theorem e_if_ge {x : Int32} {off : Int} {rest : List Value} (tgt : Nat) (hd : lkp (miI mi) 0 pc = some (.ifCond .ge off, 3)) (ht : (pc : Int) + off = (tgt : Int))
    (kt : 0 ≤ x → E G mi Q M k n tgt L rest) (kf : ¬ 0 ≤ x → E G mi Q M k n (pc + 3) L rest) : E G mi Q M k n pc L (.int x :: rest) := by
  intro p e s m args below meth c H locs ls hC hS hM hl
  exact lv_if_ge hC.1 hC.2.1 (hC.dec hd) ht (fun h => kt h p e s m args below meth c H locs ls hC hS hM hl) (fun h => kf h p e s m args below meth c H locs ls hC hS hM hl)
theorem e_if_gt {x : Int32} {off : Int} {rest : List Value} (tgt : Nat) (hd : lkp (miI mi) 0 pc = some (.ifCond .gt off, 3)) (ht : (pc : Int) + off = (tgt : Int))
    (kt : 0 < x → E G mi Q M k n tgt L rest) (kf : ¬ 0 < x → E G mi Q M k n (pc + 3) L rest) : E G mi Q M k n pc L (.int x :: rest) := by
  intro p e s m args below meth c H locs ls hC hS hM hl
  exact lv_if_gt hC.1 hC.2.1 (hC.dec hd) ht (fun h => kt h p e s m args below meth c H locs ls hC hS hM hl) (fun h => kf h p e s m args below meth c H locs ls hC hS hM hl)
theorem e_if_le {x : Int32} {off : Int} {rest : List Value} (tgt : Nat) (hd : lkp (miI mi) 0 pc = some (.ifCond .le off, 3)) (ht : (pc : Int) + off = (tgt : Int))
    (kt : x ≤ 0 → E G mi Q M k n tgt L rest) (kf : ¬ x ≤ 0 → E G mi Q M k n (pc + 3) L rest) : E G mi Q M k n pc L (.int x :: rest) := by
  intro p e s m args below meth c H locs ls hC hS hM hl
  exact lv_if_le hC.1 hC.2.1 (hC.dec hd) ht (fun h => kt h p e s m args below meth c H locs ls hC hS hM hl) (fun h => kf h p e s m args below meth c H locs ls hC hS hM hl)
theorem e_blk : ∀ (z pc : Nat) (L : List (Option Value)) (st : List Value) {pc' : Nat} {L' : List (Option Value)} {st' : List Value}, blk (miI mi) z pc L st = some (pc', L', st') → E G mi Q M k n pc' L' st' → E G mi Q M k n pc L st
  | 0, pc, L, st, pc', L', st', hb, kk => by
    cases hb
    exact kk
  | z + 1, pc, L, st, pc', L', st', hb, kk => by
    unfold blk at hb
    split at hb
    · cases hb
    · rename_i off len hl
      split at hb
      · rename_i t ht
        cases hc : Nat.beq len 3 with
        | false => rw [hc] at hb; cases hb
        | true =>
          rw [hc, cond_true] at hb
          rw [nbeq hc] at hl
          exact e_goto t hl ht (e_blk z t L st hb kk)
      · cases hb
    · rename_i i len hno hl
      split at hb
      · cases hb
      · rename_i L1 st1 hs
        cases hc : Nat.beq len (opN i) with
        | false => rw [hc] at hb; cases hb
        | true =>
          rw [hc, cond_true] at hb
          have he := nbeq hc
          subst he
          exact e_smp hl hs (e_blk z _ L1 st1 hb kk)
end ER
end
section
/-! rows: ends, constants, division, fields, arrays, tests, switches -/
def ob (M : Mm) (a c : Nat) : Prop := a ∈ mL M ∧ mK M a = c
theorem awl {l : List Cond} (h : l.all (fun w => decide (w ∈ lw_tbl) && goodWord w) = true) : ∀ w ∈ l, w ∈ ALLW := fun w hw => by
  have h1 := List.all_eq_true.mp h w hw
  rw [Bool.and_eq_true, decide_eq_true_eq] at h1
  exact List.mem_filter.mpr h1
theorem iwX0 : ∀ w ∈ u_ws RX0 TX0 6, w ∈ ALLW := awl (by decide +kernel)
theorem iwX1 : ∀ w ∈ u_ws RX1 TX1 5, w ∈ ALLW := awl (by decide +kernel)
theorem iwX2 : ∀ w ∈ u_ws RX2 TX2 17, w ∈ ALLW := awl (by decide +kernel)
theorem iwX3 : ∀ w ∈ u_ws RX3 TX3 13, w ∈ ALLW := awl (by decide +kernel)
theorem iwX4 : ∀ w ∈ u_ws RX4 TX4 6, w ∈ ALLW := awl (by decide +kernel)
theorem iwX5 : ∀ w ∈ u_ws RX5 TX5 3, w ∈ ALLW := awl (by decide +kernel)
theorem iwX6 : ∀ w ∈ u_ws RX6 TX6 9, w ∈ ALLW := awl (by decide +kernel)
theorem iwX7 : ∀ w ∈ u_ws RX7 TX7 60, w ∈ ALLW := awl (by decide +kernel)
theorem clok : ∀ (c : Nat) (q : vw_C), vwCl[c]? = some q → c < 8 ∧ (∀ w ∈ u_ws q.1 q.2.1 q.2.2, w ∈ ALLW) ∧ q.2.2 = nfC c ∧ (∀ k, k < q.2.2 → parseFieldDescriptor (q.2.1 k).2.2.1 = some (tyC c k)) ∧ (∀ a, a < q.2.2 → ∀ b, b < q.2.2 → a ≠ b → (q.2.1 a).2.1 ≠ (q.2.1 b).2.1)
  | 0, q, h => by cases h; exact ⟨by decide, iwX0, rfl, tyX0_ok, nmX0⟩
  | 1, q, h => by cases h; exact ⟨by decide, iwX1, rfl, tyX1_ok, nmX1⟩
  | 2, q, h => by cases h; exact ⟨by decide, iwX2, rfl, tyX2_ok, nmX2⟩
  | 3, q, h => by cases h; exact ⟨by decide, iwX3, rfl, tyX3_ok, nmX3⟩
  | 4, q, h => by cases h; exact ⟨by decide, iwX4, rfl, tyX4_ok, nmX4⟩
  | 5, q, h => by cases h; exact ⟨by decide, iwX5, rfl, tyX5_ok, nmX5⟩
  | 6, q, h => by cases h; exact ⟨by decide, iwX6, rfl, tyX6_ok, nmX6⟩
  | 7, q, h => by cases h; exact ⟨by decide, iwX7, rfl, tyX7_ok, nmX7⟩
  | c + 8, q, h => by simp [vwCl] at h
section ER2
variable {G : Gx} {mi : MI} {Q : Rs → Mm → Prop} {M : Mm} {k n pc : Nat} {L : List (Option Value)} {rest : List Value}
theorem e_ret (hd : lkp (miI mi) 0 pc = some (.return_, 1)) (hr : miR mi = none) (hk : k ≤ (miM mi).cells) (hn : n ≤ (miM mi).slots) (hq : Q (.inl none) M) : E G mi Q M k n pc L [] := by
  intro p e s m args below meth c H locs ls hC hS hM hl
  exact W.widen hk hn (vx_ret (W.vret hC.1 hC.2.1 (hC.2.2.2.1.trans hr) (fun t ht hW => ⟨none, M, rfl, hq, by rw [ht]; exact hM, hS.F ht⟩) (fun q hq => hS.2.2 q hq) (hC.dec hd) hC.2.2.2.2.1))
theorem e_reti {x : Int32} (hd : lkp (miI mi) 0 pc = some (.ireturn, 1)) (hr : miR mi = some .int) (hk : k ≤ (miM mi).cells) (hn : n ≤ (miM mi).slots) (hq : Q (.inl (some (.int x))) M) : E G mi Q M k n pc L [.int x] := by
  intro p e s m args below meth c H locs ls hC hS hM hl
  exact W.widen hk hn (vx_ret (W.iret hC.1 hC.2.1 (hC.2.2.2.1.trans hr) (fun t ht hW => ⟨some (.int x), M, rfl, hq, by rw [ht]; exact hM, hS.F ht⟩) (fun q hq => hS.2.2 q hq) (hC.dec hd) hC.2.2.2.2.1))
theorem e_retz {x : Int32} (hd : lkp (miI mi) 0 pc = some (.ireturn, 1)) (hr : miR mi = some .boolean) (hx : x = 0 ∨ x = 1) (hk : k ≤ (miM mi).cells) (hn : n ≤ (miM mi).slots) (hq : Q (.inl (some (.int x))) M) : E G mi Q M k n pc L [.int x] := by
  intro p e s m args below meth c H locs ls hC hS hM hl
  have hz : narrow .boolean (.int x) = .int x := by rcases hx with rfl | rfl <;> rfl
  exact W.widen hk hn (vx_ret (W.zret hC.1 hC.2.1 (hC.2.2.2.1.trans hr) hz (fun t ht hW => ⟨some (.int x), M, rfl, hq, by rw [ht]; exact hM, hS.F ht⟩) (fun q hq => hS.2.2 q hq) (hC.dec hd) hC.2.2.2.2.1))
theorem e_retl {x : Int64} (hd : lkp (miI mi) 0 pc = some (.lreturn, 1)) (hr : miR mi = some .long) (hk : k ≤ (miM mi).cells) (hn : n ≤ (miM mi).slots) (hq : Q (.inl (some (.long x))) M) : E G mi Q M k n pc L [.long x] := by
  intro p e s m args below meth c H locs ls hC hS hM hl
  exact W.widen hk hn (vx_ret (W.lret hC.1 hC.2.1 (hC.2.2.2.1.trans hr) (fun t ht hW => ⟨some (.long x), M, rfl, hq, by rw [ht]; exact hM, hS.F ht⟩) (fun q hq => hS.2.2 q hq) (hC.dec hd) hC.2.2.2.2.1))
theorem e_reta {v : Option Nat} {C : String} (hd : lkp (miI mi) 0 pc = some (.areturn, 1)) (hr : miR mi = some (.object C)) (hk : k ≤ (miM mi).cells) (hn : n ≤ (miM mi).slots) (hq : Q (.inl (some (va_rf v))) M) : E G mi Q M k n pc L [va_rf v] := by
  intro p e s m args below meth c H locs ls hC hS hM hl
  exact W.widen hk hn (vx_ret (W.aret hC.1 hC.2.1 (hC.2.2.2.1.trans hr) (Or.inl ⟨C, rfl⟩) (by cases v with
    | none => exact Or.inl rfl
    | some a => exact Or.inr ⟨a, rfl⟩) (fun t ht hW => ⟨some (va_rf v), M, rfl, hq, by rw [ht]; exact hM, hS.F ht⟩) (fun q hq => hS.2.2 q hq) (hC.dec hd) hC.2.2.2.2.1))
theorem e_ldc {idx : Nat} (x : Int32) (hd : lkp (miI mi) 0 pc = some (.ldc idx, 2)) (hw : Cond.constant (miY mi).cls idx x ∈ ALLW) (kk : E G mi Q M k n (pc + 2) L (.int x :: rest)) : E G mi Q M k n pc L rest := by
  intro p e s m args below meth c H locs ls hC hS hM hl
  exact lv_ldc hC.1 hC.2.1 hC.own (hC.ws hw) (hC.dec hd) (kk p e s m args below meth c H locs ls hC hS hM hl)
theorem e_ldcw {idx : Nat} (x : Int32) (hd : lkp (miI mi) 0 pc = some (.ldc_w idx, 3)) (hw : Cond.constant (miY mi).cls idx x ∈ ALLW) (kk : E G mi Q M k n (pc + 3) L (.int x :: rest)) : E G mi Q M k n pc L rest := by
  intro p e s m args below meth c H locs ls hC hS hM hl
  exact lv_ldcw hC.1 hC.2.1 hC.own (hC.ws hw) (hC.dec hd) (kk p e s m args below meth c H locs ls hC hS hM hl)
theorem e_ldc2 {idx : Nat} (x : Int64) (hd : lkp (miI mi) 0 pc = some (.ldc2_w idx, 3)) (hw : Cond.constantLong (miY mi).cls idx x ∈ ALLW) (kk : E G mi Q M k n (pc + 3) L (.long x :: rest)) : E G mi Q M k n pc L rest := by
  intro p e s m args below meth c H locs ls hC hS hM hl
  exact lv_ldc2 hC.1 hC.2.1 hC.own (hC.ws hw) (hC.dec hd) (kk p e s m args below meth c H locs ls hC hS hM hl)
theorem e_idiv {x y : Int32} (hd : lkp (miI mi) 0 pc = some (.idiv, 1)) (hy : ¬ y = 0) (kk : E G mi Q M k n (pc + 1) L (.int (x / y) :: rest)) : E G mi Q M k n pc L (.int y :: .int x :: rest) := by
  intro p e s m args below meth c H locs ls hC hS hM hl
  exact lv_idiv hC.1 hC.2.1 (hC.dec hd) hy (kk p e s m args below meth c H locs ls hC hS hM hl)
theorem e_irem {x y : Int32} (hd : lkp (miI mi) 0 pc = some (.irem, 1)) (hy : ¬ y = 0) (kk : E G mi Q M k n (pc + 1) L (.int (x - x / y * y) :: rest)) : E G mi Q M k n pc L (.int y :: .int x :: rest) := by
  intro p e s m args below meth c H locs ls hC hS hM hl
  exact lv_irem hC.1 hC.2.1 (hC.dec hd) hy (kk p e s m args below meth c H locs ls hC hS hM hl)
theorem e_nn {x : Nat} {off : Int} (tgt : Nat) (hd : lkp (miI mi) 0 pc = some (.ifnonnull off, 3)) (ht : (pc : Int) + off = (tgt : Int)) (kk : E G mi Q M k n tgt L rest) : E G mi Q M k n pc L (.ref x :: rest) := by
  intro p e s m args below meth c H locs ls hC hS hM hl
  exact lv_ifnonnull hC.1 hC.2.1 (hC.dec hd) ht (kk p e s m args below meth c H locs ls hC hS hM hl)
theorem e_nnN {off : Int} (hd : lkp (miI mi) 0 pc = some (.ifnonnull off, 3)) (kk : E G mi Q M k n (pc + 3) L rest) : E G mi Q M k n pc L (.null :: rest) := by
  intro p e s m args below meth c H locs ls hC hS hM hl
  exact lv_ifnonnullN hC.1 hC.2.1 (hC.dec hd) (kk p e s m args below meth c H locs ls hC hS hM hl)
theorem e_swI {dflt lo hi : Int} {offs : Array Int} {len : Nat} {x : Int32} (off : Int) (tgt : Nat) (hd : lkp (miI mi) 0 pc = some (.tableswitch dflt lo hi offs, len)) (h1 : ¬ x.toInt < lo) (h2 : ¬ hi < x.toInt) (ho : offs[(x.toInt - lo).toNat]? = some off) (ht : (pc : Int) + off = (tgt : Int)) (kk : E G mi Q M k n tgt L rest) : E G mi Q M k n pc L (.int x :: rest) := by
  intro p e s m args below meth c H locs ls hC hS hM hl
  exact lv_tableIn hC.1 hC.2.1 (hC.dec hd) h1 h2 ho ht (kk p e s m args below meth c H locs ls hC hS hM hl)
theorem e_swO {dflt lo hi : Int} {offs : Array Int} {len : Nat} {x : Int32} (tgt : Nat) (hd : lkp (miI mi) 0 pc = some (.tableswitch dflt lo hi offs, len)) (h1 : x.toInt < lo ∨ hi < x.toInt) (ht : (pc : Int) + dflt = (tgt : Int)) (kk : E G mi Q M k n tgt L rest) : E G mi Q M k n pc L (.int x :: rest) := by
  intro p e s m args below meth c H locs ls hC hS hM hl
  exact lv_tableOut hC.1 hC.2.1 (hC.dec hd) h1 ht (kk p e s m args below meth c H locs ls hC hS hM hl)
theorem e_lsw {dflt : Int} {ps : Array (Int × Int)} {len : Nat} {x : Int32} (off : Int) (tgt : Nat) (hd : lkp (miI mi) 0 pc = some (.lookupswitch dflt ps, len)) (hp : (ps.toList.zip (ps.toList.drop 1)).all (fun (a, next) => a.1 < next.1) = true) (ho : Op.lookupswitch.offset ps.toList dflt x.toInt = off) (ht : (pc : Int) + off = (tgt : Int)) (kk : E G mi Q M k n tgt L rest) : E G mi Q M k n pc L (.int x :: rest) := by
  intro p e s m args below meth c H locs ls hC hS hM hl
  exact lv_lookup hC.1 hC.2.1 (hC.dec hd) hp ho ht (kk p e s m args below meth c H locs ls hC hS hM hl)
theorem e_getI (c f : Nat) {a idx : Nat} {q : vw_C} (hd : lkp (miI mi) 0 pc = some (.getfield idx, 3)) (hc : vwCl[c]? = some q) (hf : f < q.2.2) (hw : Cond.fieldLink (miY mi).cls idx (q.2.1 f).1 (q.2.1 f).2.1 (q.2.1 f).2.2.1 ∈ ALLW) (ha : ob M a c) (hs : srt (tyC c f) = 0) (kk : E G mi Q M k n (pc + 3) L (.int (mI M a f) :: rest)) : E G mi Q M k n pc L (.ref a :: rest) := by
  intro p e s m args below meth cd H locs ls hC hS hM hl
  obtain ⟨h8, h1, h2, h3, h4⟩ := clok c q hc
  obtain ⟨z, hz⟩ := xw_get (G := G) ha.1
  rw [ent_o ha.2 h8] at hz
  have hv : (fl M a c)[f]? = some (.int (mI M a f)) := by
    rw [fl_at M a c (by rw [← h2]; exact hf)]
    unfold fv
    rw [hs]
    rfl
  exact va_get hC.1 hC.2.1 hC.2.2.2.2.2.2.2.2.1 h1 hC.own hC.g.1 hM.1 z hz hc f hf (hC.ws hw) (fun x h => h) hv (hC.dec hd) (kk p e s m args below meth cd H locs ls hC hS hM hl)
theorem e_getJ (c f : Nat) {a idx : Nat} {q : vw_C} (hd : lkp (miI mi) 0 pc = some (.getfield idx, 3)) (hc : vwCl[c]? = some q) (hf : f < q.2.2) (hw : Cond.fieldLink (miY mi).cls idx (q.2.1 f).1 (q.2.1 f).2.1 (q.2.1 f).2.2.1 ∈ ALLW) (ha : ob M a c) (hs : srt (tyC c f) = 1) (kk : E G mi Q M k n (pc + 3) L (.long (mJ M a f) :: rest)) : E G mi Q M k n pc L (.ref a :: rest) := by
  intro p e s m args below meth cd H locs ls hC hS hM hl
  obtain ⟨h8, h1, h2, h3, h4⟩ := clok c q hc
  obtain ⟨z, hz⟩ := xw_get (G := G) ha.1
  rw [ent_o ha.2 h8] at hz
  have hv : (fl M a c)[f]? = some (.long (mJ M a f)) := by
    rw [fl_at M a c (by rw [← h2]; exact hf)]
    unfold fv
    rw [hs]
    rfl
  exact va_get hC.1 hC.2.1 hC.2.2.2.2.2.2.2.2.1 h1 hC.own hC.g.1 hM.1 z hz hc f hf (hC.ws hw) (fun x h => h) hv (hC.dec hd) (kk p e s m args below meth cd H locs ls hC hS hM hl)
theorem e_getP (c f : Nat) {a idx : Nat} {q : vw_C} {b : Option Nat} (hd : lkp (miI mi) 0 pc = some (.getfield idx, 3)) (hc : vwCl[c]? = some q) (hf : f < q.2.2) (hw : Cond.fieldLink (miY mi).cls idx (q.2.1 f).1 (q.2.1 f).2.1 (q.2.1 f).2.2.1 ∈ ALLW) (ha : ob M a c) (hs : srt (tyC c f) = 2) (hb : mP M a f = b) (kk : E G mi Q M k n (pc + 3) L (va_rf b :: rest)) : E G mi Q M k n pc L (.ref a :: rest) := by
  intro p e s m args below meth cd H locs ls hC hS hM hl
  obtain ⟨h8, h1, h2, h3, h4⟩ := clok c q hc
  obtain ⟨z, hz⟩ := xw_get (G := G) ha.1
  rw [ent_o ha.2 h8] at hz
  have hv : (fl M a c)[f]? = some (va_rf b) := by
    rw [fl_at M a c (by rw [← h2]; exact hf)]
    unfold fv
    rw [hs]; rw [← hb]
    rfl
  exact va_get hC.1 hC.2.1 hC.2.2.2.2.2.2.2.2.1 h1 hC.own hC.g.1 hM.1 z hz hc f hf (hC.ws hw) (fun x h => h) hv (hC.dec hd) (kk p e s m args below meth cd H locs ls hC hS hM hl)
theorem e_putI (c f : Nat) {a idx : Nat} {q : vw_C} {v : Int32} (hd : lkp (miI mi) 0 pc = some (.putfield idx, 3)) (hc : vwCl[c]? = some q) (hf : f < q.2.2) (hw : Cond.fieldLink (miY mi).cls idx (q.2.1 f).1 (q.2.1 f).2.1 (q.2.1 f).2.2.1 ∈ ALLW) (hfi : (q.2.1 f).2.2.2 = false) (ha : ob M a c) (hs : tyC c f = .int) (kk : E G mi Q (sI M a f v) k n (pc + 3) L rest) : E G mi Q M k n pc L (.int v :: .ref a :: rest) := by
  intro p e s m args below meth cd H locs ls hC hS hM hl
  obtain ⟨h8, h1, h2, h3, h4⟩ := clok c q hc
  obtain ⟨z, hz⟩ := xw_get (G := G) ha.1
  have hz0 := hz
  rw [ent_o ha.2 h8] at hz
  have hsz : f < nfC c := by rw [← h2]; exact hf
  refine va_put hC.1 hC.2.1 hC.2.2.2.2.2.2.2.2.1 h1 (tyC c) h3 h4 hC.own hC.g.1 hM.1 hM.2 hS z hz hc f hf (hC.ws hw) (fun x h => h) hfi (v := .int v) (h3 f hf) (by rw [hs]; rfl) (by rw [hs]; rfl) (by rw [fl_len]; exact hsz) (hC.dec hd) ?_
  intro H1 locs1 hP1 hD1 hS1
  have he := xw_set (G := G) (M := M) (M' := sI M a f v) hM.2 ha.1 hz0 rfl (e := .inr (c, (fl M a c).set f (.int v))) (ent_sI v ha.2 h8 hsz (by rw [hs]; rfl))
  rw [he] at hP1 hD1
  exact kk p e s m args below meth cd H1 locs1 ls hC hS1 ⟨hP1, hD1⟩ hl
theorem e_putZ (c f : Nat) {a idx : Nat} {q : vw_C} {v : Int32} (hd : lkp (miI mi) 0 pc = some (.putfield idx, 3)) (hc : vwCl[c]? = some q) (hf : f < q.2.2) (hw : Cond.fieldLink (miY mi).cls idx (q.2.1 f).1 (q.2.1 f).2.1 (q.2.1 f).2.2.1 ∈ ALLW) (hfi : (q.2.1 f).2.2.2 = false) (ha : ob M a c) (hs : tyC c f = .boolean) (hz1 : v = 0 ∨ v = 1) (kk : E G mi Q (sI M a f v) k n (pc + 3) L rest) : E G mi Q M k n pc L (.int v :: .ref a :: rest) := by
  intro p e s m args below meth cd H locs ls hC hS hM hl
  obtain ⟨h8, h1, h2, h3, h4⟩ := clok c q hc
  obtain ⟨z, hz⟩ := xw_get (G := G) ha.1
  have hz0 := hz
  rw [ent_o ha.2 h8] at hz
  have hsz : f < nfC c := by rw [← h2]; exact hf
  refine va_put hC.1 hC.2.1 hC.2.2.2.2.2.2.2.2.1 h1 (tyC c) h3 h4 hC.own hC.g.1 hM.1 hM.2 hS z hz hc f hf (hC.ws hw) (fun x h => h) hfi (v := .int v) (h3 f hf) (by rw [hs]; rcases hz1 with rfl | rfl <;> rfl) (by rw [hs]; rcases hz1 with rfl | rfl <;> rfl) (by rw [fl_len]; exact hsz) (hC.dec hd) ?_
  intro H1 locs1 hP1 hD1 hS1
  have he := xw_set (G := G) (M := M) (M' := sI M a f v) hM.2 ha.1 hz0 rfl (e := .inr (c, (fl M a c).set f (.int v))) (ent_sI v ha.2 h8 hsz (by rw [hs]; rfl))
  rw [he] at hP1 hD1
  exact kk p e s m args below meth cd H1 locs1 ls hC hS1 ⟨hP1, hD1⟩ hl
theorem e_putJ (c f : Nat) {a idx : Nat} {q : vw_C} {v : Int64} (hd : lkp (miI mi) 0 pc = some (.putfield idx, 3)) (hc : vwCl[c]? = some q) (hf : f < q.2.2) (hw : Cond.fieldLink (miY mi).cls idx (q.2.1 f).1 (q.2.1 f).2.1 (q.2.1 f).2.2.1 ∈ ALLW) (hfi : (q.2.1 f).2.2.2 = false) (ha : ob M a c) (hs : tyC c f = .long) (kk : E G mi Q (sJ M a f v) k n (pc + 3) L rest) : E G mi Q M k n pc L (.long v :: .ref a :: rest) := by
  intro p e s m args below meth cd H locs ls hC hS hM hl
  obtain ⟨h8, h1, h2, h3, h4⟩ := clok c q hc
  obtain ⟨z, hz⟩ := xw_get (G := G) ha.1
  have hz0 := hz
  rw [ent_o ha.2 h8] at hz
  have hsz : f < nfC c := by rw [← h2]; exact hf
  refine va_put hC.1 hC.2.1 hC.2.2.2.2.2.2.2.2.1 h1 (tyC c) h3 h4 hC.own hC.g.1 hM.1 hM.2 hS z hz hc f hf (hC.ws hw) (fun x h => h) hfi (v := .long v) (h3 f hf) (by rw [hs]; rfl) (by rw [hs]; rfl) (by rw [fl_len]; exact hsz) (hC.dec hd) ?_
  intro H1 locs1 hP1 hD1 hS1
  have he := xw_set (G := G) (M := M) (M' := sJ M a f v) hM.2 ha.1 hz0 rfl (e := .inr (c, (fl M a c).set f (.long v))) (ent_sJ v ha.2 h8 hsz (by rw [hs]; rfl))
  rw [he] at hP1 hD1
  exact kk p e s m args below meth cd H1 locs1 ls hC hS1 ⟨hP1, hD1⟩ hl
theorem e_putP (c f : Nat) {a idx : Nat} {q : vw_C} {v : Option Nat} {C : String} (hd : lkp (miI mi) 0 pc = some (.putfield idx, 3)) (hc : vwCl[c]? = some q) (hf : f < q.2.2) (hw : Cond.fieldLink (miY mi).cls idx (q.2.1 f).1 (q.2.1 f).2.1 (q.2.1 f).2.2.1 ∈ ALLW) (hfi : (q.2.1 f).2.2.2 = false) (ha : ob M a c) (hs : tyC c f = .object C) (kk : E G mi Q (sP M a f v) k n (pc + 3) L rest) : E G mi Q M k n pc L (va_rf v :: .ref a :: rest) := by
  intro p e s m args below meth cd H locs ls hC hS hM hl
  obtain ⟨h8, h1, h2, h3, h4⟩ := clok c q hc
  obtain ⟨z, hz⟩ := xw_get (G := G) ha.1
  have hz0 := hz
  rw [ent_o ha.2 h8] at hz
  have hsz : f < nfC c := by rw [← h2]; exact hf
  refine va_put hC.1 hC.2.1 hC.2.2.2.2.2.2.2.2.1 h1 (tyC c) h3 h4 hC.own hC.g.1 hM.1 hM.2 hS z hz hc f hf (hC.ws hw) (fun x h => h) hfi (v := va_rf v) (h3 f hf) (by rw [hs]; cases v <;> rfl) (by rw [hs]; cases v <;> rfl) (by rw [fl_len]; exact hsz) (hC.dec hd) ?_
  intro H1 locs1 hP1 hD1 hS1
  have he := xw_set (G := G) (M := M) (M' := sP M a f v) hM.2 ha.1 hz0 rfl (e := .inr (c, (fl M a c).set f (va_rf v))) (ent_sP v ha.2 h8 hsz (by rw [hs]; rfl))
  rw [he] at hP1 hD1
  exact kk p e s m args below meth cd H1 locs1 ls hC hS1 ⟨hP1, hD1⟩ hl
theorem e_putFI (c f : Nat) {a idx : Nat} {q : vw_C} {v : Int32} (hd : lkp (miI mi) 0 pc = some (.putfield idx, 3)) (hc : vwCl[c]? = some q) (hf : f < q.2.2) (hw : Cond.fieldLink (miY mi).cls idx (q.2.1 f).1 (q.2.1 f).2.1 (q.2.1 f).2.2.1 ∈ ALLW) (hfi : (q.2.1 f).2.2.2 = true) (hin : (miY mi).name = "<init>") (hdl : (q.2.1 f).1 = (miY mi).cls) (ha : ob M a c) (hs : tyC c f = .int) (kk : E G mi Q (sI M a f v) k n (pc + 3) L rest) : E G mi Q M k n pc L (.int v :: .ref a :: rest) := by
  intro p e s m args below meth cd H locs ls hC hS hM hl
  obtain ⟨h8, h1, h2, h3, h4⟩ := clok c q hc
  obtain ⟨z, hz⟩ := xw_get (G := G) ha.1
  have hz0 := hz
  rw [ent_o ha.2 h8] at hz
  have hsz : f < nfC c := by rw [← h2]; exact hf
  refine va_putF hC.1 hC.2.1 hC.2.2.2.2.2.2.2.2.1 h1 (tyC c) h3 h4 hC.own hC.g.1 hM.1 hM.2 hS z hz hc f hf (hC.ws hw) (fun x h => h) hfi (hC.2.2.2.2.2.2.2.1.trans hin) hdl (v := .int v) (h3 f hf) (by rw [hs]; rfl) (by rw [hs]; rfl) (by rw [fl_len]; exact hsz) (hC.dec hd) ?_
  intro H1 locs1 hP1 hD1 hS1
  have he := xw_set (G := G) (M := M) (M' := sI M a f v) hM.2 ha.1 hz0 rfl (e := .inr (c, (fl M a c).set f (.int v))) (ent_sI v ha.2 h8 hsz (by rw [hs]; rfl))
  rw [he] at hP1 hD1
  exact kk p e s m args below meth cd H1 locs1 ls hC hS1 ⟨hP1, hD1⟩ hl
theorem e_putFP (c f : Nat) {a idx : Nat} {q : vw_C} {v : Option Nat} {C : String} (hd : lkp (miI mi) 0 pc = some (.putfield idx, 3)) (hc : vwCl[c]? = some q) (hf : f < q.2.2) (hw : Cond.fieldLink (miY mi).cls idx (q.2.1 f).1 (q.2.1 f).2.1 (q.2.1 f).2.2.1 ∈ ALLW) (hfi : (q.2.1 f).2.2.2 = true) (hin : (miY mi).name = "<init>") (hdl : (q.2.1 f).1 = (miY mi).cls) (ha : ob M a c) (hs : tyC c f = .object C) (kk : E G mi Q (sP M a f v) k n (pc + 3) L rest) : E G mi Q M k n pc L (va_rf v :: .ref a :: rest) := by
  intro p e s m args below meth cd H locs ls hC hS hM hl
  obtain ⟨h8, h1, h2, h3, h4⟩ := clok c q hc
  obtain ⟨z, hz⟩ := xw_get (G := G) ha.1
  have hz0 := hz
  rw [ent_o ha.2 h8] at hz
  have hsz : f < nfC c := by rw [← h2]; exact hf
  refine va_putF hC.1 hC.2.1 hC.2.2.2.2.2.2.2.2.1 h1 (tyC c) h3 h4 hC.own hC.g.1 hM.1 hM.2 hS z hz hc f hf (hC.ws hw) (fun x h => h) hfi (hC.2.2.2.2.2.2.2.1.trans hin) hdl (v := va_rf v) (h3 f hf) (by rw [hs]; cases v <;> rfl) (by rw [hs]; cases v <;> rfl) (by rw [fl_len]; exact hsz) (hC.dec hd) ?_
  intro H1 locs1 hP1 hD1 hS1
  have he := xw_set (G := G) (M := M) (M' := sP M a f v) hM.2 ha.1 hz0 rfl (e := .inr (c, (fl M a c).set f (va_rf v))) (ent_sP v ha.2 h8 hsz (by rw [hs]; rfl))
  rw [he] at hP1 hD1
  exact kk p e s m args below meth cd H1 locs1 ls hC hS1 ⟨hP1, hD1⟩ hl
theorem e_putFA (c f : Nat) {a idx : Nat} {q : vw_C} {v : Option Nat} {C : FieldType} (hd : lkp (miI mi) 0 pc = some (.putfield idx, 3)) (hc : vwCl[c]? = some q) (hf : f < q.2.2) (hw : Cond.fieldLink (miY mi).cls idx (q.2.1 f).1 (q.2.1 f).2.1 (q.2.1 f).2.2.1 ∈ ALLW) (hfi : (q.2.1 f).2.2.2 = true) (hin : (miY mi).name = "<init>") (hdl : (q.2.1 f).1 = (miY mi).cls) (ha : ob M a c) (hs : tyC c f = .array C) (kk : E G mi Q (sP M a f v) k n (pc + 3) L rest) : E G mi Q M k n pc L (va_rf v :: .ref a :: rest) := by
  intro p e s m args below meth cd H locs ls hC hS hM hl
  obtain ⟨h8, h1, h2, h3, h4⟩ := clok c q hc
  obtain ⟨z, hz⟩ := xw_get (G := G) ha.1
  have hz0 := hz
  rw [ent_o ha.2 h8] at hz
  have hsz : f < nfC c := by rw [← h2]; exact hf
  refine va_putF hC.1 hC.2.1 hC.2.2.2.2.2.2.2.2.1 h1 (tyC c) h3 h4 hC.own hC.g.1 hM.1 hM.2 hS z hz hc f hf (hC.ws hw) (fun x h => h) hfi (hC.2.2.2.2.2.2.2.1.trans hin) hdl (v := va_rf v) (h3 f hf) (by rw [hs]; cases v <;> rfl) (by rw [hs]; cases v <;> rfl) (by rw [fl_len]; exact hsz) (hC.dec hd) ?_
  intro H1 locs1 hP1 hD1 hS1
  have he := xw_set (G := G) (M := M) (M' := sP M a f v) hM.2 ha.1 hz0 rfl (e := .inr (c, (fl M a c).set f (va_rf v))) (ent_sP v ha.2 h8 hsz (by rw [hs]; rfl))
  rw [he] at hP1 hD1
  exact kk p e s m args below meth cd H1 locs1 ls hC hS1 ⟨hP1, hD1⟩ hl
theorem e_iald {a : Nat} {i : Int32} (hd : lkp (miI mi) 0 pc = some (.iaload, 1)) (ha : ob M a 9) (hi : vp_in i (mN M a)) (kk : E G mi Q M k n (pc + 1) L (.int (mI M a i.toNatClampNeg) :: rest)) : E G mi Q M k n pc L (.int i :: .ref a :: rest) := by
  intro p e s m args below meth cd H locs ls hC hS hM hl
  obtain ⟨z, hz⟩ := xw_get (G := G) ha.1
  rw [ent_i ha.2 (by omega) (by omega) (by omega)] at hz
  exact va_iald hC.1 hC.2.1 hC.g.1 hM.1 z 1 hz rfl hi (hC.dec hd) (kk p e s m args below meth cd H locs ls hC hS hM hl)
theorem e_bald {a : Nat} {i : Int32} (hd : lkp (miI mi) 0 pc = some (.baload, 1)) (ha : ob M a 8) (hi : vp_in i (mN M a)) (kk : E G mi Q M k n (pc + 1) L (.int (mI M a i.toNatClampNeg) :: rest)) : E G mi Q M k n pc L (.int i :: .ref a :: rest) := by
  intro p e s m args below meth cd H locs ls hC hS hM hl
  obtain ⟨z, hz⟩ := xw_get (G := G) ha.1
  rw [ent_i ha.2 (by omega) (by omega) (by omega)] at hz
  exact va_bald hC.1 hC.2.1 hC.g.1 hM.1 z 0 hz rfl hi (hC.dec hd) (kk p e s m args below meth cd H locs ls hC hS hM hl)
theorem e_zald {a : Nat} {i : Int32} (hd : lkp (miI mi) 0 pc = some (.baload, 1)) (ha : ob M a 11) (hi : vp_in i (mN M a)) (kk : E G mi Q M k n (pc + 1) L (.int (mI M a i.toNatClampNeg) :: rest)) : E G mi Q M k n pc L (.int i :: .ref a :: rest) := by
  intro p e s m args below meth cd H locs ls hC hS hM hl
  obtain ⟨z, hz⟩ := xw_get (G := G) ha.1
  rw [ent_i ha.2 (by omega) (by omega) (by omega)] at hz
  exact va_zald hC.1 hC.2.1 hC.g.1 hM.1 z 3 hz rfl hi (hC.dec hd) (kk p e s m args below meth cd H locs ls hC hS hM hl)
theorem e_lald {a : Nat} {i : Int32} (hd : lkp (miI mi) 0 pc = some (.laload, 1)) (ha : ob M a 10) (hi : vp_in i (mN M a)) (kk : E G mi Q M k n (pc + 1) L (.long (mJ M a i.toNatClampNeg) :: rest)) : E G mi Q M k n pc L (.int i :: .ref a :: rest) := by
  intro p e s m args below meth cd H locs ls hC hS hM hl
  obtain ⟨z, hz⟩ := xw_get (G := G) ha.1
  rw [ent_j ha.2] at hz
  exact va_lald hC.1 hC.2.1 hC.g.1 hM.1 z 2 hz rfl hi (hC.dec hd) (kk p e s m args below meth cd H locs ls hC hS hM hl)
theorem e_aaldO {a : Nat} {i : Int32} (hd : lkp (miI mi) 0 pc = some (.aaload, 1)) (ha : ob M a 12) (hi : vp_in i (mN M a)) (kk : E G mi Q M k n (pc + 1) L (va_rf (mP M a i.toNatClampNeg) :: rest)) : E G mi Q M k n pc L (.int i :: .ref a :: rest) := by
  intro p e s m args below meth cd H locs ls hC hS hM hl
  obtain ⟨z, hz⟩ := xw_get (G := G) ha.1
  rw [ent_p ha.2 (by omega)] at hz
  exact va_aldq hC.1 hC.2.1 hC.g.1 hM.1 z 4 hz rfl hi (hC.dec hd) (kk p e s m args below meth cd H locs ls hC hS hM hl)
theorem e_aaldZ {a : Nat} {i : Int32} (hd : lkp (miI mi) 0 pc = some (.aaload, 1)) (ha : ob M a 13) (hi : vp_in i (mN M a)) (kk : E G mi Q M k n (pc + 1) L (va_rf (mP M a i.toNatClampNeg) :: rest)) : E G mi Q M k n pc L (.int i :: .ref a :: rest) := by
  intro p e s m args below meth cd H locs ls hC hS hM hl
  obtain ⟨z, hz⟩ := xw_get (G := G) ha.1
  rw [ent_p ha.2 (by omega)] at hz
  exact va_aldq hC.1 hC.2.1 hC.g.1 hM.1 z 5 hz rfl hi (hC.dec hd) (kk p e s m args below meth cd H locs ls hC hS hM hl)
theorem e_iast {a : Nat} {i : Int32} {v : Int32} (hd : lkp (miI mi) 0 pc = some (.iastore, 1)) (ha : ob M a 9) (hi : vp_in i (mN M a)) (kk : E G mi Q (sI M a i.toNatClampNeg v) k n (pc + 1) L rest) : E G mi Q M k n pc L (.int v :: .int i :: .ref a :: rest) := by
  intro p e s m args below meth cd H locs ls hC hS hM hl
  obtain ⟨z, hz⟩ := xw_get (G := G) ha.1
  have hz0 := hz
  rw [ent_i ha.2 (by omega) (by omega) (by omega)] at hz
  refine va_iast hC.1 hC.2.1 hC.g.1 hM.1 hM.2 hS z 1 hz rfl hi (hC.dec hd) ?_
  intro H1 locs1 hP1 hD1 hS1
  have he := xw_set (G := G) (M := M) (M' := sI M a i.toNatClampNeg v) hM.2 ha.1 hz0 rfl (e := .inl (gY G 9, mN M a, .inl (upd (mI M a) i.toNatClampNeg v))) (ent_aI v ha.2 (by omega) (by omega) (by omega))
  rw [he] at hP1 hD1
  exact kk p e s m args below meth cd H1 locs1 ls hC hS1 ⟨hP1, hD1⟩ hl
theorem e_bast {a : Nat} {i : Int32} {v : Int32} (hd : lkp (miI mi) 0 pc = some (.bastore, 1)) (ha : ob M a 8) (hi : vp_in i (mN M a)) (kk : E G mi Q (sI M a i.toNatClampNeg (vp_nar .byte v)) k n (pc + 1) L rest) : E G mi Q M k n pc L (.int v :: .int i :: .ref a :: rest) := by
  intro p e s m args below meth cd H locs ls hC hS hM hl
  obtain ⟨z, hz⟩ := xw_get (G := G) ha.1
  have hz0 := hz
  rw [ent_i ha.2 (by omega) (by omega) (by omega)] at hz
  refine va_bast hC.1 hC.2.1 hC.g.1 hM.1 hM.2 hS z 0 hz rfl hi (hC.dec hd) ?_
  intro H1 locs1 hP1 hD1 hS1
  have he := xw_set (G := G) (M := M) (M' := sI M a i.toNatClampNeg (vp_nar .byte v)) hM.2 ha.1 hz0 rfl (e := .inl (gY G 8, mN M a, .inl (upd (mI M a) i.toNatClampNeg (vp_nar .byte v)))) (ent_aI _ ha.2 (by omega) (by omega) (by omega))
  rw [he] at hP1 hD1
  exact kk p e s m args below meth cd H1 locs1 ls hC hS1 ⟨hP1, hD1⟩ hl
theorem e_zast {a : Nat} {i : Int32} {v : Int32} (hd : lkp (miI mi) 0 pc = some (.bastore, 1)) (ha : ob M a 11) (hi : vp_in i (mN M a)) (kk : E G mi Q (sI M a i.toNatClampNeg (vp_nar .boolean v)) k n (pc + 1) L rest) : E G mi Q M k n pc L (.int v :: .int i :: .ref a :: rest) := by
  intro p e s m args below meth cd H locs ls hC hS hM hl
  obtain ⟨z, hz⟩ := xw_get (G := G) ha.1
  have hz0 := hz
  rw [ent_i ha.2 (by omega) (by omega) (by omega)] at hz
  refine va_zast hC.1 hC.2.1 hC.g.1 hM.1 hM.2 hS z 3 hz rfl hi (hC.dec hd) ?_
  intro H1 locs1 hP1 hD1 hS1
  have he := xw_set (G := G) (M := M) (M' := sI M a i.toNatClampNeg (vp_nar .boolean v)) hM.2 ha.1 hz0 rfl (e := .inl (gY G 11, mN M a, .inl (upd (mI M a) i.toNatClampNeg (vp_nar .boolean v)))) (ent_aI _ ha.2 (by omega) (by omega) (by omega))
  rw [he] at hP1 hD1
  exact kk p e s m args below meth cd H1 locs1 ls hC hS1 ⟨hP1, hD1⟩ hl
theorem e_last {a : Nat} {i : Int32} {v : Int64} (hd : lkp (miI mi) 0 pc = some (.lastore, 1)) (ha : ob M a 10) (hi : vp_in i (mN M a)) (kk : E G mi Q (sJ M a i.toNatClampNeg v) k n (pc + 1) L rest) : E G mi Q M k n pc L (.long v :: .int i :: .ref a :: rest) := by
  intro p e s m args below meth cd H locs ls hC hS hM hl
  obtain ⟨z, hz⟩ := xw_get (G := G) ha.1
  have hz0 := hz
  rw [ent_j ha.2] at hz
  refine va_last hC.1 hC.2.1 hC.g.1 hM.1 hM.2 hS z 2 hz rfl hi (hC.dec hd) ?_
  intro H1 locs1 hP1 hD1 hS1
  have he := xw_set (G := G) (M := M) (M' := sJ M a i.toNatClampNeg v) hM.2 ha.1 hz0 rfl (e := .inl (gY G 10, mN M a, .inr (.inl (vp_updL (mJ M a) i.toNatClampNeg v)))) (ent_aJ v ha.2)
  rw [he] at hP1 hD1
  exact kk p e s m args below meth cd H1 locs1 ls hC hS1 ⟨hP1, hD1⟩ hl
end ER2
end
section
/-! contracts and calls -/
def xP (G : Gx) (As : List Value) (M : Mm) : Array Value → State → Prop := va_Pc As (fun U => xg G U ∧ xo G U.heap ∧ xh G M U.heap)
theorem xP_blind (G : Gx) (As : List Value) (M : Mm) : FrameBlind (xP G As M) := by
  intro a U g mk h
  obtain ⟨h1, h2, h3, h4⟩ := h
  exact ⟨h1, xg.warm (s := U) (U := U.calling g mk a) (State.WarmedH.refl U) h2, h3, h4⟩
def cdw (mi : MI) : Cond := match miH mi with
  | [] => .code (miY mi) (miC mi) (miL mi) (miR mi)
  | h :: r => .codeWith (miY mi) (miC mi) (miL mi) (miR mi) (h :: r)
/-- the contract: from the memory M and the arguments As the method comes to an end with Q -/
def MC (G : Gx) (mi : MI) (As : List Value) (M : Mm) (Q : Rs → Mm → Prop) : Prop := vx_Met (gl G) (miY mi) (cdw mi :: ALLW) (miM mi) (xP G As M) (xq G Q) (xx G Q) (miM mi).cells (miM mi).slots (gA G)
theorem mc_of {G : Gx} {mi : MI} {As : List Value} {M : Mm} {Q : Rs → Mm → Prop} (hH : miH mi = []) (hy : plainFor (miY mi) = true) (hd : dcb (miC mi) (miI mi) 0 = true) (hA : (lg_sl As).length ≤ miL mi) (z : Nat) (hz : (xe As).length + z ≤ miL mi)
    (h : E G mi Q M 0 0 0 (xe As ++ List.replicate z none) []) : MC G mi As M Q := by
  have hcd : cdw mi = .code (miY mi) (miC mi) (miL mi) (miR mi) := by unfold cdw; rw [hH]
  unfold MC
  rw [hcd]
  refine MetFree.of_bodySF (code := miC mi) (maxLocals := miL mi) (ret := miR mi) hy ?_ ?_
  · intro args s m h hn
    obtain ⟨meth, c, h1, h2, h3, h4, h5, h6, -, -⟩ := Cond.code_spec hn (atoms_spec (ws := Cond.code (miY mi) (miC mi) (miL mi) (miR mi) :: ALLW) h _ List.mem_cons_self)
    exact ⟨meth, c, h1, h2, h3, h4, h5, h6⟩
  · intro p e s m args below meth c s₁ B hml hP _
    obtain ⟨rfl, hg, ho, hh⟩ := hP
    have hts := atoms_spec (ws := Cond.code (miY mi) (miC mi) (miL mi) (miR mi) :: ALLW) B.pre
    have hT : c.exceptionTable.toList = tableOf (miH mi) := by
      obtain ⟨meth9, c9, h1, h2, -, -, -, -, h7, -⟩ := Cond.code_spec B.named (hts _ List.mem_cons_self)
      cases Option.some.inj (h1.symm.trans B.method)
      cases Option.some.inj (h2.symm.trans (Stand.of_body B).code)
      rw [hH, Array.isEmpty_iff.mp h7]
      rfl
    have hC : Cn G mi p s m As.toArray meth c := ⟨B.exec, B.bytes, hml, B.returns, B.notSynchronized, hT, findClass_of_methodNamed B.named, (name_of_methodNamed B.named B.method).1, fun w hw => hts w (List.mem_cons_of_mem _ hw), hg, ho, hd⟩
    have hh0 : s₁.heap = s.heap := by rw [B.state]; rfl
    have hW := h p e s m As.toArray below meth c s.heap [] _ hC va_S.rf hh ⟨xl_entry As hA, by simp only [List.length_append, List.length_replicate]; exact hz⟩
    rw [← lg_entry_eq] at hW
    obtain ⟨t, a1, o, b1, b2, b3⟩ := hW s₁ hh0 (Stand.of_body B)
    exact ⟨t, o, a1, b1, b2, b3⟩
theorem mc_ofH {G : Gx} {mi : MI} {As : List Value} {M : Mm} {Q : Rs → Mm → Prop} (hH : miH mi ≠ []) (hy : plainName (miY mi).cls = true) (hd : dcb (miC mi) (miI mi) 0 = true) (hA : (lg_sl As).length ≤ miL mi) (z : Nat) (hz : (xe As).length + z ≤ miL mi)
    (h : E G mi Q M 0 0 0 (xe As ++ List.replicate z none) []) : MC G mi As M Q := by
  have hcd : cdw mi = .codeWith (miY mi) (miC mi) (miL mi) (miR mi) (miH mi) := by
    unfold cdw
    cases hx : miH mi with
    | nil => exact absurd hx hH
    | cons x r => rfl
  unfold MC
  rw [hcd]
  refine vx_ofWH (cc := miC mi) (maxL := miL mi) (ret := miR mi) (hh := miH mi) hy rfl ?_
  intro p e s m args below meth c s₁ B hml hP
  obtain ⟨rfl, hg, ho, hh⟩ := hP
  have hts := atoms_spec (ws := Cond.codeWith (miY mi) (miC mi) (miL mi) (miR mi) (miH mi) :: ALLW) B.pre
  have hT : c.exceptionTable.toList = tableOf (miH mi) := vx_table (x := miY mi) B (hts _ List.mem_cons_self)
  have hC : Cn G mi p s m As.toArray meth c := ⟨B.exec, B.bytes, hml, B.returns, B.notSynchronized, hT, findClass_of_methodNamed B.named, (name_of_methodNamed B.named B.method).1, fun w hw => hts w (List.mem_cons_of_mem _ hw), hg, ho, hd⟩
  rw [lg_entry_eq]
  exact h p e s m As.toArray below meth c s.heap [] _ hC va_S.rf hh ⟨xl_entry As hA, by simp only [List.length_append, List.length_replicate]; exact hz⟩
/-- a contract that throws nothing is one of the kit's plain ones -/
theorem met_of {G : Gx} {mi : MI} {As : List Value} {M : Mm} {Q : Rs → Mm → Prop} (h : MC G mi As M Q) (hn : ∀ E M', ¬ Q (.inr E) M') : Met (gl G) (miY mi) (cdw mi :: ALLW) (miM mi) (xP G As M) (xq G Q) (miM mi).cells (miM mi).slots (gA G) := by
  intro p e h1 h2 h3 s m args below h4 h5 h6 h7
  obtain ⟨z, o, a1, a2, a3, a4⟩ := h p e h1 h2 h3 s m args below h4 h5 h6 h7
  refine ⟨z, o, a1, a2, a3, ?_⟩
  rcases a4 with a4 | ⟨q, rfl, E, ce, L, ⟨M', hq, -⟩, -⟩
  · exact a4
  · exact absurd hq (hn E M')
/-- another end that the first one gives -/
theorem mc_mono {G : Gx} {mi : MI} {As : List Value} {M : Mm} {Q Q' : Rs → Mm → Prop} (h : MC G mi As M Q) (hQ : ∀ r M', Q r M' → Q' r M') : MC G mi As M Q' := by
  intro p e h1 h2 h3 s m args below h4 h5 h6 h7
  obtain ⟨z, o, a1, a2, a3, a4⟩ := h p e h1 h2 h3 s m args below h4 h5 h6 h7
  refine ⟨z, o, a1, a2, a3, ?_⟩
  rcases a4 with ⟨⟨v, M', e1, e2, e3⟩, e4⟩ | ⟨q, e0, E, ce, L, ⟨M', e1, e2⟩, e3⟩
  · exact Or.inl ⟨⟨v, M', e1, hQ _ _ e2, e3⟩, e4⟩
  · exact Or.inr ⟨q, e0, E, ce, L, ⟨M', hQ _ _ e1, e2⟩, e3⟩
/-- what a call asks of numbers: frames, words, cells, slots, how many arguments -/
def cok (mi mi' : MI) (k n na : Nat) : Bool :=
  Nat.ble ((miM mi').frames + 1) (miM mi).frames && (Nat.ble (8 + (miL mi' + 11) + (miM mi').locals) (miM mi).locals && (Nat.ble (k + (miM mi').cells) (miM mi).cells && (Nat.ble (n + (miM mi').slots) (miM mi).slots &&
  (decide ((miY mi').cls ≠ "java/lang/invoke/MethodHandle") && (decide ((miY mi').cls ≠ "java/lang/invoke/VarHandle") && decide ((parseMethodDescriptor (miY mi').desc).map (fun d => d.parameters.length) = some na))))))
theorem cok_ok {mi mi' : MI} {k n na : Nat} (h : cok mi mi' k n na = true) : (miM mi').frames + 1 ≤ (miM mi).frames ∧ 8 + (miL mi' + 11) + (miM mi').locals ≤ (miM mi).locals ∧ k + (miM mi').cells ≤ (miM mi).cells ∧ n + (miM mi').slots ≤ (miM mi).slots ∧ (miY mi').cls ≠ "java/lang/invoke/MethodHandle" ∧ (miY mi').cls ≠ "java/lang/invoke/VarHandle" ∧ (∀ sig, parseMethodDescriptor (miY mi').desc = some sig → na = sig.parameters.length) := by
  simp only [cok, Bool.and_eq_true, decide_eq_true_eq] at h
  obtain ⟨h1, h2, h3, h4, h5, h6, h7⟩ := h
  refine ⟨Nat.le_of_ble_eq_true h1, Nat.le_of_ble_eq_true h2, Nat.le_of_ble_eq_true h3, Nat.le_of_ble_eq_true h4, h5, h6, fun sig hs => ?_⟩
  rw [hs] at h7
  exact (Option.some.inj h7).symm
theorem allw_good {w : Cond} (h : w ∈ ALLW) : (w.onTables && w.keeps) = true ∨ ∃ ty, w = .arrayClass ty := good_of_word (List.mem_filter.mp h).2
/-- what is thrown over the frame at pc -/
def ET (G : Gx) (mi : MI) (Q : Rs → Mm → Prop) (M : Mm) (k n pc : Nat) (L : List (Option Value)) (st : List Value) (X : String) : Prop :=
  ∀ (p : Program) (e : Env) (s : State) (m : MethodId) (args : Array Value) (below : List Frame) (meth : Method) (c : Code) (H : Heap) (locs : List Loc) (ls : Array Slot) (q : Nat) (ce : Cell),
    Cn G mi p s m args meth c → va_S (gA G) s.heap H locs → xh G M H → xL ls (miL mi) L → H[q]? = some ce → ce.vm = .none → s.vm.findClass X = some ce.cls →
    vx_W p (gl G) e (miM mi) s m args below meth c H locs k n (vx_MQ below (xq G Q) (xx G Q) args s (miM mi).cells (miM mi).slots (gA G)) (F0 m pc ls st) q
section EC
variable {G : Gx} {mi mi' : MI} {Q Q' : Rs → Mm → Prop} {M : Mm} {k n pc idx : Nat} {L : List (Option Value)} {As rest : List Value} {X : String}
theorem et_out (hH : miH mi = []) (hk : k ≤ (miM mi).cells) (hn : n ≤ (miM mi).slots) (hq : Q (.inr X) M) : ET G mi Q M k n pc L rest X := by
  intro p e s m args below meth c H locs ls q ce hC hS hM hl hce hcv hcl
  refine vx_out (fun x hx => ?_) hC.2.2.2.2.1 hce hcv hcl (fun t ht hW => ⟨M, hq, by rw [ht]; exact hM, hS.F ht⟩) (fun z hz => hS.2.2 z hz) hk hn
  rw [hC.2.2.2.2.2.1, hH] at hx
  cases hx
/-- the words of a callee hold wherever its call comes to -/
theorem ew_ws {p : Program} {s : State} {m : MethodId} {args : Array Value} {meth : Method} {c : Code} (hC : Cn G mi p s m args meth c) (hcd : cdw mi' ∈ ALLW) : ∀ w ∈ cdw mi' :: ALLW, ∀ (a' : Array Value) (U : State), s.WarmedH U.vm → w.before a' U = true := by
  intro w hw a' U hW
  rcases List.mem_cons.mp hw with rfl | hw
  · exact word_at hW (allw_good hcd) (hC.ws hcd)
  · exact word_at hW (allw_good hw) (hC.ws hw)
theorem e_run {p : Program} {e : Env} {s : State} {m : MethodId} {args a' : Array Value} {below : List Frame} {meth : Method} {c : Code} {H : Heap} {locs : List Loc} {ls : Array Slot} {st0 : List Value} {mc ms : Nat}
    (hC : Cn G mi p s m args meth c) (hS : va_S (gA G) s.heap H locs) (hl : xL ls (miL mi) L)
    (hr : vx_Run p (gl G) e (miM mi) s m args below meth c H locs k n mc ms (F0 m pc ls st0) rest (xq G Q' a') (xx G Q') (gA G))
    (hret : ∀ (v : Option Value) (M' : Mm), Q' (.inl v) M' → E G mi Q M' (k + mc) (n + ms) (pc + 3) L (v.toList ++ rest))
    (hthr : ∀ (X : String) (M' : Mm), Q' (.inr X) M' → ET G mi Q M' (k + mc) (n + ms) pc L rest X) :
    W p (gl G) e (miM mi) s m args below meth c H locs k n (vx_MQ below (xq G Q) (xx G Q) args s (miM mi).cells (miM mi).slots (gA G)) (F0 m pc ls st0) := by
  intro T hT U
  rcases hr T hT U with ⟨v, st₀, t, T', L9, h0, X', hL, e1, e2, ⟨v', M', hv, hq, hx, hF⟩, st⟩ | ⟨q, st₀, t, T', L9, X, ce, h0, X', hL, e1, e2, ⟨M', hq, hx, hF⟩, hce, hcv, hcl, st⟩
  · cases hv
    obtain ⟨k1, k2, k3⟩ := vx_keep h0 e1 hS (fun _ _ h => h) (fun _ h => h) hL hF
    obtain ⟨t2, a1, b1⟩ := hret v M' hq p e s m args below meth c T'.heap (locs ++ L9) ls hC k3 (by rw [e1]; exact hx) hl T' rfl X'
    exact ⟨t2, st t2 a1, b1⟩
  · obtain ⟨k1, k2, k3⟩ := vx_keep h0 e1 hS (fun _ _ h => h) (fun _ h => h) hL hF
    obtain ⟨t2, a1, b1⟩ := hthr X M' hq p e s m args below meth c T'.heap (locs ++ L9) ls q ce hC k3 (by rw [e1]; exact hx) hl (by rw [e1]; exact hce) hcv hcl T' rfl X'
    exact ⟨t2, st.trans a1, b1⟩
/-- a call that throws nothing -/
theorem e_run0 {p : Program} {e : Env} {s : State} {m : MethodId} {args a' : Array Value} {below : List Frame} {meth : Method} {c : Code} {H : Heap} {locs : List Loc} {ls : Array Slot} {st0 : List Value} {mc ms : Nat}
    (hC : Cn G mi p s m args meth c) (hS : va_S (gA G) s.heap H locs) (hl : xL ls (miL mi) L)
    (hr : va_Run p (gl G) e (miM mi) s m args below meth c H locs k n mc ms (F0 m pc ls st0) rest (xq G Q' a') (gA G))
    (hret : ∀ (v : Option Value) (M' : Mm), Q' (.inl v) M' → E G mi Q M' (k + mc) (n + ms) (pc + 3) L (v.toList ++ rest)) :
    W p (gl G) e (miM mi) s m args below meth c H locs k n (vx_MQ below (xq G Q) (xx G Q) args s (miM mi).cells (miM mi).slots (gA G)) (F0 m pc ls st0) := by
  intro T hT U
  obtain ⟨v, st₀, t, T', L9, h0, X', hL, e1, e2, ⟨v', M', hv, hq, hx, hF⟩, st⟩ := hr T hT U
  cases hv
  obtain ⟨k1, k2, k3⟩ := vx_keep h0 e1 hS (fun _ _ h => h) (fun _ h => h) hL hF
  obtain ⟨t2, a1, b1⟩ := hret v M' hq p e s m args below meth c T'.heap (locs ++ L9) ls hC k3 (by rw [e1]; exact hx) hl T' rfl X'
  exact ⟨t2, st t2 a1, b1⟩
theorem e_pre {p : Program} {s : State} {m : MethodId} {args : Array Value} {meth : Method} {c : Code} {H : Heap} {locs : List Loc} (hC : Cn G mi p s m args meth c) (hS : va_S (gA G) s.heap H locs) (hM : xh G M H) (As : List Value) : ∀ U : State, U.heap = H → s.WarmedH U.vm → xP G As M As.toArray U := by
  intro U hU hW
  exact ⟨rfl, hC.g.warm hW, by rw [hU]; exact hC.o.go hS, by rw [hU]; exact hM⟩
/-- invokestatic -/
theorem e_callS (hd : lkp (miI mi) 0 pc = some (.invokestatic idx, 3)) (hM' : MC G mi' As M Q') (hH : miH mi' = []) (hwl : Cond.methodLink (miY mi).cls idx (miY mi') ∈ ALLW) (hws : Cond.static (miY mi') ∈ ALLW) (hwi : Cond.initialized (miY mi').cls ∈ ALLW) (hwc : cdw mi' ∈ ALLW)
    (hok : cok mi mi' k n As.length = true) (hrm : (rest.map fun v => v.category).sum ≤ 8)
    (hret : ∀ (v : Option Value) (M' : Mm), Q' (.inl v) M' → E G mi Q M' (k + (miM mi').cells) (n + (miM mi').slots) (pc + 3) L (v.toList ++ rest))
    (hthr : ∀ (X : String) (M' : Mm), Q' (.inr X) M' → ET G mi Q M' (k + (miM mi').cells) (n + (miM mi').slots) pc L rest X) : E G mi Q M k n pc L (As.reverse ++ rest) := by
  intro p e s m args below meth c H locs ls hC hS hM hl
  obtain ⟨o1, o2, o3, o4, o5, o6, o7⟩ := cok_ok hok
  have hcd : cdw mi' = .code (miY mi') (miC mi') (miL mi') (miR mi') := by unfold cdw; rw [hH]
  have hw9 := ew_ws hC hwc
  have hc9 := hC.ws hwc
  unfold MC at hM'
  rw [hcd] at hM' hw9 hc9
  exact e_run hC hS hl (vx_runS (As := As) (Ts := ALLW) ⟨hC.1, hC.2.1, hC.2.2.1, hC.own, hC.2.2.2.2.2.2.2.2.1⟩ hM' ⟨⟨rfl, rfl, o1, o2, hw9, List.mem_cons_self, hc9, hC.ws hwi, ⟨o5, o6⟩, o7, hC.ws hwl⟩, hC.ws hws⟩ ⟨xP_blind G As M, e_pre hC hS hM As⟩ rfl rfl hl.1.1 rfl (lv_room hrm) (hC.dec hd) ⟨o3, o4⟩) hret hthr
/-- invokestatic of a nest mate's, which throws nothing -/
theorem e_callSN {host : String} (hd : lkp (miI mi) 0 pc = some (.invokestatic idx, 3)) (hM' : MC G mi' As M Q') (hno : ∀ X M', ¬ Q' (.inr X) M') (hH : miH mi' = []) (hwl : Cond.methodLinkNest (miY mi).cls idx (miY mi') host ∈ OTHW) (hws : Cond.static (miY mi') ∈ ALLW) (hwi : Cond.initialized (miY mi').cls ∈ ALLW) (hwc : cdw mi' ∈ ALLW)
    (hok : cok mi mi' k n As.length = true) (hrm : (rest.map fun v => v.category).sum ≤ 8)
    (hret : ∀ (v : Option Value) (M' : Mm), Q' (.inl v) M' → E G mi Q M' (k + (miM mi').cells) (n + (miM mi').slots) (pc + 3) L (v.toList ++ rest)) : E G mi Q M k n pc L (As.reverse ++ rest) := by
  intro p e s m args below meth c H locs ls hC hS hM hl
  obtain ⟨o1, o2, o3, o4, o5, o6, o7⟩ := cok_ok hok
  have hcd : cdw mi' = .code (miY mi') (miC mi') (miL mi') (miR mi') := by unfold cdw; rw [hH]
  have hw9 := ew_ws hC hwc
  have hc9 := hC.ws hwc
  have hM9 := met_of hM' hno
  rw [hcd] at hM9 hw9 hc9
  exact e_run0 hC hS hl (va_runSN (As := As) (Ts := ALLW) ⟨hC.1, hC.2.1, hC.2.2.1, hC.own, hC.2.2.2.2.2.2.2.2.1⟩ hM9 ⟨⟨⟨rfl, rfl, o1, o2, hw9, List.mem_cons_self⟩, hc9, hC.ws hwi, ⟨o5, o6⟩, o7, va_Nw.use rfl (hC.g.2.1 _ hwl)⟩, hC.ws hws, trivial⟩ ⟨xP_blind G As M, e_pre hC hS hM As⟩ rfl rfl hl.1.1 rfl (lv_room hrm) (hC.dec hd) ⟨o3, o4⟩) hret
/-- invokevirtual -/
theorem e_callV {b ci : Nat} {q : vw_C} (hd : lkp (miI mi) 0 pc = some (.invokevirtual idx, 3)) (hM' : MC G mi' (.ref b :: As) M Q') (hb : ob M b ci) (hci : vwCl[ci]? = some q) (hq : q.1 = (miY mi').cls) (hH : miH mi' = []) (hwl : Cond.methodLink (miY mi).cls idx (miY mi') ∈ ALLW) (hwn : Cond.instanceMethod (miY mi') ∈ ALLW) (hse : Cond.selects (miY mi').cls (miY mi') (miY mi') ∈ ALLW) (hwi : Cond.initialized (miY mi').cls ∈ ALLW) (hwc : cdw mi' ∈ ALLW)
    (hok : cok mi mi' k n As.length = true) (hrm : (rest.map fun v => v.category).sum ≤ 8)
    (hret : ∀ (v : Option Value) (M' : Mm), Q' (.inl v) M' → E G mi Q M' (k + (miM mi').cells) (n + (miM mi').slots) (pc + 3) L (v.toList ++ rest))
    (hthr : ∀ (X : String) (M' : Mm), Q' (.inr X) M' → ET G mi Q M' (k + (miM mi').cells) (n + (miM mi').slots) pc L rest X) : E G mi Q M k n pc L (As.reverse ++ .ref b :: rest) := by
  intro p e s m args below meth c H locs ls hC hS hM hl
  obtain ⟨o1, o2, o3, o4, o5, o6, o7⟩ := cok_ok hok
  have hcd : cdw mi' = .code (miY mi') (miC mi') (miL mi') (miR mi') := by unfold cdw; rw [hH]
  have hw9 := ew_ws hC hwc
  have hc9 := hC.ws hwc
  unfold MC at hM'
  rw [hcd] at hM' hw9 hc9
  obtain ⟨z, hz⟩ := xw_get (G := G) hb.1
  rw [ent_o hb.2 (clok ci q hci).1] at hz
  have hrc := va_recv hC.g.1 hM.1 hci hz
  rw [hq] at hrc
  exact e_run hC hS hl (vx_runV (As := As) (C := (miY mi').cls) (Ts := ALLW) ⟨hC.1, hC.2.1, hC.2.2.1, hC.own, hC.2.2.2.2.2.2.2.2.1⟩ hM' ⟨⟨rfl, rfl, o1, o2, hw9, List.mem_cons_self, hc9, hC.ws hwi, ⟨o5, o6⟩, o7, hC.ws hwl⟩, hC.ws hwn, hC.ws hse⟩ ⟨xP_blind G _ M, hrc, e_pre hC hS hM _⟩ rfl rfl hl.1.1 rfl (lv_room hrm) (hC.dec hd) ⟨o3, o4⟩) hret hthr
/-- a constructor, which throws nothing -/
theorem e_callI {b : Nat} (hd : lkp (miI mi) 0 pc = some (.invokespecial idx, 3)) (hM' : MC G mi' (.ref b :: As) M Q') (hno : ∀ X M', ¬ Q' (.inr X) M') (hH : miH mi' = []) (hR : miR mi' = none) (hin : (miY mi').name = "<init>") (hwl : Cond.methodLink (miY mi).cls idx (miY mi') ∈ ALLW) (hwn : Cond.instanceMethod (miY mi') ∈ ALLW) (hwi : Cond.initialized (miY mi').cls ∈ ALLW) (hwc : cdw mi' ∈ ALLW)
    (hok : cok mi mi' k n As.length = true) (hrm : (rest.map fun v => v.category).sum ≤ 8)
    (hret : ∀ (v : Option Value) (M' : Mm), Q' (.inl v) M' → E G mi Q M' (k + (miM mi').cells) (n + (miM mi').slots) (pc + 3) L (v.toList ++ rest)) : E G mi Q M k n pc L (As.reverse ++ .ref b :: rest) := by
  intro p e s m args below meth c H locs ls hC hS hM hl
  obtain ⟨o1, o2, o3, o4, o5, o6, o7⟩ := cok_ok hok
  have hcd : cdw mi' = .code (miY mi') (miC mi') (miL mi') none := by unfold cdw; rw [hH, ← hR]
  have hw9 := ew_ws hC hwc
  have hc9 := hC.ws hwc
  have hM9 := met_of hM' hno
  rw [hcd] at hM9 hw9 hc9
  exact e_run0 hC hS hl (va_runI (As := As) (Ts := ALLW) ⟨hC.1, hC.2.1, hC.2.2.1, hC.own, hC.2.2.2.2.2.2.2.2.1⟩ hM9 ⟨⟨rfl, rfl, o1, o2, hw9, List.mem_cons_self, hc9, hC.ws hwi, ⟨o5, o6⟩, o7, hC.ws hwl⟩, hin, hC.ws hwn⟩ ⟨xP_blind G _ M, e_pre hC hS hM _⟩ rfl rfl hl.1.1 rfl (lv_room hrm) (hC.dec hd) ⟨o3, o4⟩) hret
end EC
end
section
/-! more rows: fewer locals told, references that are there, a callee's end by the sort of its answer -/
def drp : List Bool → List (Option Value) → List (Option Value)
  | b :: bs, v :: vs => (bif b then v else none) :: drp bs vs
  | _, _ => []
theorem drp_at : ∀ (bs : List Bool) (L : List (Option Value)) (i : Nat) (v : Value), (drp bs L)[i]? = some (some v) → L[i]? = some (some v)
  | [], L, i, v, h => by simp [drp] at h
  | b :: bs, [], i, v, h => by simp [drp] at h
  | b :: bs, w :: L, 0, v, h => by
    cases b <;> simp [drp] at h ⊢
    exact h
  | b :: bs, w :: L, i + 1, v, h => by
    simp [drp] at h ⊢
    exact drp_at bs L i v h
theorem drp_len : ∀ (bs : List Bool) (L : List (Option Value)), (drp bs L).length ≤ L.length
  | [], L => by simp [drp]
  | b :: bs, [] => by simp [drp]
  | b :: bs, w :: L => by simp [drp]; exact drp_len bs L
theorem xL.drp {ls : Array Slot} {n : Nat} {L : List (Option Value)} (h : xL ls n L) (bs : List Bool) : xL ls n (drp bs L) :=
  ⟨⟨h.1.1, h.1.2.1, fun q hq => h.1.2.2 q (xa_mem.mpr (drp_at bs L q.1 q.2 (xa_mem.mp hq)))⟩, Nat.le_trans (drp_len bs L) h.2⟩
def kI (f : Int32 → Mm → Prop) (t : String → Mm → Prop) : Rs → Mm → Prop := fun r M => match r with
  | .inl (some (.int x)) => f x M
  | .inr X => t X M
  | _ => False
def kJ (f : Int64 → Mm → Prop) (t : String → Mm → Prop) : Rs → Mm → Prop := fun r M => match r with
  | .inl (some (.long x)) => f x M
  | .inr X => t X M
  | _ => False
def kV (f : Mm → Prop) (t : String → Mm → Prop) : Rs → Mm → Prop := fun r M => match r with
  | .inl none => f M
  | .inr X => t X M
  | _ => False
/-- an answer that is a thing, never null -/
def kR (f : Nat → Mm → Prop) (t : String → Mm → Prop) : Rs → Mm → Prop := fun r M => match r with
  | .inl (some (.ref x)) => f x M
  | .inr X => t X M
  | _ => False
/-- .. or null -/
def kO (f : Option Nat → Mm → Prop) (t : String → Mm → Prop) : Rs → Mm → Prop := fun r M => match r with
  | .inl (some (.ref x)) => f (some x) M
  | .inl (some .null) => f none M
  | .inr X => t X M
  | _ => False
theorem kI_l {f : Int32 → Mm → Prop} {t : String → Mm → Prop} {v : Option Value} {M : Mm} (h : kI f t (.inl v) M) : ∃ x, v = some (.int x) ∧ f x M := by
  unfold kI at h
  split at h
  · rename_i x e; cases e; exact ⟨x, rfl, h⟩
  · rename_i X e; cases e
  · exact absurd h (fun q => q)
theorem kJ_l {f : Int64 → Mm → Prop} {t : String → Mm → Prop} {v : Option Value} {M : Mm} (h : kJ f t (.inl v) M) : ∃ x, v = some (.long x) ∧ f x M := by
  unfold kJ at h
  split at h
  · rename_i x e; cases e; exact ⟨x, rfl, h⟩
  · rename_i X e; cases e
  · exact absurd h (fun q => q)
theorem kV_l {f : Mm → Prop} {t : String → Mm → Prop} {v : Option Value} {M : Mm} (h : kV f t (.inl v) M) : v = none ∧ f M := by
  unfold kV at h
  split at h
  · rename_i e; cases e; exact ⟨rfl, h⟩
  · rename_i X e; cases e
  · exact absurd h (fun q => q)
theorem kR_l {f : Nat → Mm → Prop} {t : String → Mm → Prop} {v : Option Value} {M : Mm} (h : kR f t (.inl v) M) : ∃ x, v = some (.ref x) ∧ f x M := by
  unfold kR at h
  split at h
  · rename_i x e; cases e; exact ⟨x, rfl, h⟩
  · rename_i X e; cases e
  · exact absurd h (fun q => q)
theorem kO_l {f : Option Nat → Mm → Prop} {t : String → Mm → Prop} {v : Option Value} {M : Mm} (h : kO f t (.inl v) M) : ∃ x, v = some (va_rf x) ∧ f x M := by
  unfold kO at h
  split at h
  · rename_i x e; cases e; exact ⟨some x, rfl, h⟩
  · rename_i e; cases e; exact ⟨none, rfl, h⟩
  · rename_i X e; cases e
  · exact absurd h (fun q => q)
section ER3
variable {G : Gx} {mi : MI} {Q : Rs → Mm → Prop} {M : Mm} {k n pc : Nat} {L : List (Option Value)} {st rest : List Value}
theorem e_drp (bs : List Bool) {L' : List (Option Value)} (hL : drp bs L = L') (kk : E G mi Q M k n pc L' st) : E G mi Q M k n pc L st := by
  intro p e s m args below meth c H locs ls hC hS hM hl
  exact kk p e s m args below meth c H locs ls hC hS hM (hL ▸ hl.drp bs)
theorem e_wid {k' n' : Nat} (hk : k ≤ k') (hn : n ≤ n') (kk : E G mi Q M k' n' pc L st) : E G mi Q M k n pc L st := by
  intro p e s m args below meth c H locs ls hC hS hM hl
  exact W.widen hk hn (kk p e s m args below meth c H locs ls hC hS hM hl)
theorem e_getR (c f : Nat) {a b idx : Nat} {q : vw_C} (hd : lkp (miI mi) 0 pc = some (.getfield idx, 3)) (hc : vwCl[c]? = some q) (hf : f < q.2.2) (hw : Cond.fieldLink (miY mi).cls idx (q.2.1 f).1 (q.2.1 f).2.1 (q.2.1 f).2.2.1 ∈ ALLW) (ha : ob M a c) (hs : srt (tyC c f) = 2) (hb : mP M a f = some b) (kk : E G mi Q M k n (pc + 3) L (.ref b :: rest)) : E G mi Q M k n pc L (.ref a :: rest) :=
  e_getP c f (b := some b) hd hc hf hw ha hs hb kk
theorem e_aaldOR {a b : Nat} {i : Int32} (hd : lkp (miI mi) 0 pc = some (.aaload, 1)) (ha : ob M a 12) (hi : vp_in i (mN M a)) (hb : mP M a i.toNatClampNeg = some b) (kk : E G mi Q M k n (pc + 1) L (.ref b :: rest)) : E G mi Q M k n pc L (.int i :: .ref a :: rest) :=
  e_aaldO hd ha hi (by rw [hb]; exact kk)
theorem e_aaldZR {a b : Nat} {i : Int32} (hd : lkp (miI mi) 0 pc = some (.aaload, 1)) (ha : ob M a 13) (hi : vp_in i (mN M a)) (hb : mP M a i.toNatClampNeg = some b) (kk : E G mi Q M k n (pc + 1) L (.ref b :: rest)) : E G mi Q M k n pc L (.int i :: .ref a :: rest) :=
  e_aaldZ hd ha hi (by rw [hb]; exact kk)
theorem e_putR (c f : Nat) {a idx v : Nat} {q : vw_C} {C : String} (hd : lkp (miI mi) 0 pc = some (.putfield idx, 3)) (hc : vwCl[c]? = some q) (hf : f < q.2.2) (hw : Cond.fieldLink (miY mi).cls idx (q.2.1 f).1 (q.2.1 f).2.1 (q.2.1 f).2.2.1 ∈ ALLW) (hfi : (q.2.1 f).2.2.2 = false) (ha : ob M a c) (hs : tyC c f = .object C) (kk : E G mi Q (sP M a f (some v)) k n (pc + 3) L rest) : E G mi Q M k n pc L (.ref v :: .ref a :: rest) :=
  e_putP c f (v := some v) hd hc hf hw hfi ha hs kk
end ER3
theorem ob_sI {M : Mm} {a c b k : Nat} {v : Int32} (h : ob M a c) : ob (sI M b k v) a c := h
theorem ob_sJ {M : Mm} {a c b k : Nat} {v : Int64} (h : ob M a c) : ob (sJ M b k v) a c := h
theorem ob_sP {M : Mm} {a c b k : Nat} {v : Option Nat} (h : ob M a c) : ob (sP M b k v) a c := h
end
section
/-! what is made: objects and arrays; stores of references into arrays -/
def fz (c : Nat) : List Value := (List.range (nfC c)).map (fun k => match srt (tyC c k) with
  | 0 => Value.int 0
  | 1 => Value.long 0
  | _ => Value.null)
theorem fz_ok : ∀ c, c < 8 → ∀ j, j < nfC c → defaultValue (tyC c j) = vp_V (fz c) j := by decide +kernel
theorem fl_nO (M : Mm) (q c n : Nat) : fl (nO M q c n) q c = fz c := by
  unfold fl fz
  apply List.map_congr_left
  intro k _
  have h1 : mI (nO M q c n) q = fun _ => 0 := va_up_self _ _ _
  have h2 : mJ (nO M q c n) q = fun _ => 0 := va_up_self _ _ _
  have h3 : mP (nO M q c n) q = fun _ => none := va_up_self _ _ _
  unfold fv
  rw [h1, h2, h3]
  rfl
theorem mK_nO (M : Mm) (q c n : Nat) : mK (nO M q c n) q = c := va_up_self _ _ _
theorem mN_nO (M : Mm) (q c n : Nat) : mN (nO M q c n) q = n := va_up_self _ _ _
theorem xw_new {G : Gx} {M : Mm} {q : Nat} {e : va_E} (hD : va_D (gA G) (xw G M ++ [(q, e)])) : q ∉ mL M := by
  intro h
  obtain ⟨z, hz⟩ := xw_get (G := G) h
  have hl := (List.getElem?_eq_some_iff.mp hz).1
  have h1 : (xw G M ++ [(q, e)])[z]? = some (q, ent (gY G) M q) := by rw [List.getElem?_append_left hl]; exact hz
  have h2 : (xw G M ++ [(q, e)])[(xw G M).length]? = some (q, e) := by simp
  have := hD.1 _ _ _ _ h1 h2 rfl
  omega
section EN
variable {G : Gx} {mi : MI} {Q : Rs → Mm → Prop} {M : Mm} {k n pc idx : Nat} {L : List (Option Value)} {rest : List Value}
theorem e_objI {a : Nat} (hd : lkp (miI mi) 0 pc = some (.invokespecial idx, 3)) (w1 : Cond.methodLink (miY mi).cls idx objectInit ∈ ALLW) (w2 : Cond.instanceMethod objectInit ∈ ALLW) (w3 : Cond.code objectInit ⟨#[0xb1]⟩ 1 none ∈ ALLW) (r1 : 1 ≤ (miM mi).frames) (r2 : (rest.map fun v => v.category).sum + 12 ≤ (miM mi).locals) (kk : E G mi Q M k n (pc + 3) L rest) : E G mi Q M k n pc L (.ref a :: rest) := by
  intro p e s m args below meth c H locs ls hC hS hM hl
  exact W.objInit hC.1 hC.2.1 hC.own (hC.ws w1) (hC.ws w2) (hC.ws w3) (g := F0 m pc ls (.ref a :: rest)) rfl (hl.1.1.trans hC.2.2.1.symm) rfl (hC.dec hd) r1 (by show 2 * 0 + _ + 12 ≤ _; omega) (kk p e s m args below meth c H locs ls hC hS hM hl)
theorem e_new (c : Nat) {q : vw_C} (hd : lkp (miI mi) 0 pc = some (.new idx, 3)) (hc : vwCl[c]? = some q) (w1 : Cond.classLink (miY mi).cls idx q.1 ∈ ALLW) (w2 : Cond.instantiable q.1 q.2.2 ∈ ALLW) (w3 : Cond.initialized q.1 ∈ ALLW) (r1 : k + 1 ≤ (miM mi).cells) (r2 : n + q.2.2 ≤ (miM mi).slots)
    (kk : ∀ a : Nat, a ∉ mL M → E G mi Q (nO M a c 0) (k + 1) (n + q.2.2) (pc + 3) L (.ref a :: rest)) : E G mi Q M k n pc L rest := by
  intro p e s m args below meth cd H locs ls hC hS hM hl
  obtain ⟨h8, h1, h2, h3, h4⟩ := clok c q hc
  refine va_new hC.1 hC.2.1 hC.2.2.2.2.2.2.2.2.1 h1 (tyC c) h3 hC.own (hC.ws w1) (hC.ws w2) (hC.ws w3) hC.g.1 hM.1 hM.2 hS (fun q h => Nat.le_trans hC.o.1 h) hc (fs := fz c) (fun j hj => fz_ok c h8 j (by rw [← h2]; exact hj)) r1 r2 (hC.dec hd) ?_
  intro a H1 hP1 hD1 hS1
  have hf := xw_new hD1
  have he := xw_push (G := G) (M := M) (M' := nO M a c 0) hf rfl (e := .inr (c, fz c)) (ent_nO (by rw [ent_o (mK_nO M a c 0) h8, fl_nO]))
  rw [he] at hP1 hD1
  exact kk a hf p e s m args below meth cd H1 locs ls hC hS1 ⟨hP1, hD1⟩ hl
/-- the class of an array is told by the tables -/
theorem cy_eq {s : State} {tys : List (ClassId × FieldType)} {cA cB : ClassId} {ty : FieldType} {i : Nat} (hK : va_K (gD G) vwCl tys s) (hK1 : va_K (gD G) vwCl (tys ++ [(cA, ty)]) s) (hi : tys[i]? = some (cB, ty)) : cA = cB := by
  have h1 := (hK.2 i _ hi).2
  have h2 := (hK1.2 tys.length (cA, ty) (by simp)).2
  cases ty with
  | object C =>
    obtain ⟨_, _, _, _, _, e1⟩ := h1
    obtain ⟨_, _, _, _, _, e2⟩ := h2
    exact Option.some.inj (e2.symm.trans e1)
  | _ => exact Option.some.inj (h2.symm.trans h1)
theorem e_newI {x : Int32} (z : Nat) (hd : lkp (miI mi) 0 pc = some (.newarray .int, 2)) (w1 : Cond.arrayClass .int ∈ ALLW) (h0 : ¬ x < 0) (hz : x.toNatClampNeg = z) (hb : z * 4 ≤ 536870912) (r1 : k + 1 ≤ (miM mi).cells) (r2 : n + z ≤ (miM mi).slots)
    (kk : ∀ a : Nat, a ∉ mL M → E G mi Q (nO M a 9 z) (k + 1) (n + z) (pc + 2) L (.ref a :: rest)) : E G mi Q M k n pc L (.int x :: rest) := by
  intro p e s m args below meth cd H locs ls hC hS hM hl
  refine va_newa (atype := .int) hC.1 hC.2.1 (hC.ws w1) rfl hC.g.1 hM.1 hM.2 hS (fun q h => Nat.le_trans hC.o.1 h) (a0 := (z, .inl (fun _ => 0))) (fun cA => rfl) h0 hz hb r1 r2 (hC.dec hd) ?_
  intro a cA H1 hK1 hP1 hD1 hS1
  have hcy : cA = gY G 9 := cy_eq hC.g.1 hK1 (i := 1) rfl
  subst hcy
  have hf := xw_new hD1
  have he := xw_push (G := G) (M := M) (M' := nO M a 9 z) hf rfl (e := .inl (gY G 9, z, .inl (fun _ => 0))) (ent_nO (by rw [ent_i (mK_nO M a 9 z) (by omega) (by omega) (by omega), mN_nO, show mI (nO M a 9 z) a = fun _ => 0 from va_up_self _ _ _]))
  rw [he] at hP1 hD1
  exact kk a hf p e s m args below meth cd H1 locs ls hC hS1 ⟨hP1, hD1⟩ hl
theorem e_newZ {x : Int32} (z : Nat) (hd : lkp (miI mi) 0 pc = some (.newarray .boolean, 2)) (w1 : Cond.arrayClass .boolean ∈ ALLW) (h0 : ¬ x < 0) (hz : x.toNatClampNeg = z) (hb : z * 1 ≤ 536870912) (r1 : k + 1 ≤ (miM mi).cells) (r2 : n + z ≤ (miM mi).slots)
    (kk : ∀ a : Nat, a ∉ mL M → E G mi Q (nO M a 11 z) (k + 1) (n + z) (pc + 2) L (.ref a :: rest)) : E G mi Q M k n pc L (.int x :: rest) := by
  intro p e s m args below meth cd H locs ls hC hS hM hl
  refine va_newa (atype := .boolean) hC.1 hC.2.1 (hC.ws w1) rfl hC.g.1 hM.1 hM.2 hS (fun q h => Nat.le_trans hC.o.1 h) (a0 := (z, .inl (fun _ => 0))) (fun cA => rfl) h0 hz hb r1 r2 (hC.dec hd) ?_
  intro a cA H1 hK1 hP1 hD1 hS1
  have hcy : cA = gY G 11 := cy_eq hC.g.1 hK1 (i := 3) rfl
  subst hcy
  have hf := xw_new hD1
  have he := xw_push (G := G) (M := M) (M' := nO M a 11 z) hf rfl (e := .inl (gY G 11, z, .inl (fun _ => 0))) (ent_nO (by rw [ent_i (mK_nO M a 11 z) (by omega) (by omega) (by omega), mN_nO, show mI (nO M a 11 z) a = fun _ => 0 from va_up_self _ _ _]))
  rw [he] at hP1 hD1
  exact kk a hf p e s m args below meth cd H1 locs ls hC hS1 ⟨hP1, hD1⟩ hl
theorem e_newB {x : Int32} (z : Nat) (hd : lkp (miI mi) 0 pc = some (.newarray .byte, 2)) (w1 : Cond.arrayClass .byte ∈ ALLW) (h0 : ¬ x < 0) (hz : x.toNatClampNeg = z) (hb : z * 1 ≤ 536870912) (r1 : k + 1 ≤ (miM mi).cells) (r2 : n + z ≤ (miM mi).slots)
    (kk : ∀ a : Nat, a ∉ mL M → E G mi Q (nO M a 8 z) (k + 1) (n + z) (pc + 2) L (.ref a :: rest)) : E G mi Q M k n pc L (.int x :: rest) := by
  intro p e s m args below meth cd H locs ls hC hS hM hl
  refine va_newa (atype := .byte) hC.1 hC.2.1 (hC.ws w1) rfl hC.g.1 hM.1 hM.2 hS (fun q h => Nat.le_trans hC.o.1 h) (a0 := (z, .inl (fun _ => 0))) (fun cA => rfl) h0 hz hb r1 r2 (hC.dec hd) ?_
  intro a cA H1 hK1 hP1 hD1 hS1
  have hcy : cA = gY G 8 := cy_eq hC.g.1 hK1 (i := 0) rfl
  subst hcy
  have hf := xw_new hD1
  have he := xw_push (G := G) (M := M) (M' := nO M a 8 z) hf rfl (e := .inl (gY G 8, z, .inl (fun _ => 0))) (ent_nO (by rw [ent_i (mK_nO M a 8 z) (by omega) (by omega) (by omega), mN_nO, show mI (nO M a 8 z) a = fun _ => 0 from va_up_self _ _ _]))
  rw [he] at hP1 hD1
  exact kk a hf p e s m args below meth cd H1 locs ls hC hS1 ⟨hP1, hD1⟩ hl
theorem e_newJ {x : Int32} (z : Nat) (hd : lkp (miI mi) 0 pc = some (.newarray .long, 2)) (w1 : Cond.arrayClass .long ∈ ALLW) (h0 : ¬ x < 0) (hz : x.toNatClampNeg = z) (hb : z * 8 ≤ 536870912) (r1 : k + 1 ≤ (miM mi).cells) (r2 : n + z ≤ (miM mi).slots)
    (kk : ∀ a : Nat, a ∉ mL M → E G mi Q (nO M a 10 z) (k + 1) (n + z) (pc + 2) L (.ref a :: rest)) : E G mi Q M k n pc L (.int x :: rest) := by
  intro p e s m args below meth cd H locs ls hC hS hM hl
  refine va_newa (atype := .long) hC.1 hC.2.1 (hC.ws w1) rfl hC.g.1 hM.1 hM.2 hS (fun q h => Nat.le_trans hC.o.1 h) (a0 := (z, .inr (.inl (fun _ => 0)))) (fun cA => rfl) h0 hz hb r1 r2 (hC.dec hd) ?_
  intro a cA H1 hK1 hP1 hD1 hS1
  have hcy : cA = gY G 10 := cy_eq hC.g.1 hK1 (i := 2) rfl
  subst hcy
  have hf := xw_new hD1
  have he := xw_push (G := G) (M := M) (M' := nO M a 10 z) hf rfl (e := .inl (gY G 10, z, .inr (.inl (fun _ => 0)))) (ent_nO (by rw [ent_j (mK_nO M a 10 z), mN_nO, show mJ (nO M a 10 z) a = fun _ => 0 from va_up_self _ _ _]))
  rw [he] at hP1 hD1
  exact kk a hf p e s m args below meth cd H1 locs ls hC hS1 ⟨hP1, hD1⟩ hl
theorem e_newQ {x : Int32} {C : String} (c i z : Nat) (hd : lkp (miI mi) 0 pc = some (.anewarray idx, 3)) (w1 : Cond.classLink (miY mi).cls idx C ∈ ALLW) (hA : ∀ s, ST G s → va_AO C s) (h12 : 12 ≤ c) (hi : (gT G)[i]? = some (gY G c, .object C)) (h0 : ¬ x < 0) (hz : x.toNatClampNeg = z) (hb : z * 4 ≤ 536870912) (r1 : k + 1 ≤ (miM mi).cells) (r2 : n + z ≤ (miM mi).slots)
    (kk : ∀ a : Nat, a ∉ mL M → E G mi Q (nO M a c z) (k + 1) (n + z) (pc + 3) L (.ref a :: rest)) : E G mi Q M k n pc L (.int x :: rest) := by
  intro p e s m args below meth cd H locs ls hC hS hM hl
  refine va_newq hC.1 hC.2.1 hC.own (hC.ws w1) (hA s hC.g.2.2) hC.g.1 hM.1 hM.2 hS (fun q h => Nat.le_trans hC.o.1 h) h0 hz hb r1 r2 (hC.dec hd) ?_
  intro a cA H1 hK1 hP1 hD1 hS1
  have hcy : cA = gY G c := cy_eq hC.g.1 hK1 hi
  subst hcy
  have hf := xw_new hD1
  have he := xw_push (G := G) (M := M) (M' := nO M a c z) hf rfl (e := .inl (gY G c, z, .inr (.inr (.inr (.inr (fun _ => none)))))) (ent_nO (by rw [ent_p (mK_nO M a c z) h12, mN_nO, show mP (nO M a c z) a = fun _ => none from va_up_self _ _ _]))
  rw [he] at hP1 hD1
  exact kk a hf p e s m args below meth cd H1 locs ls hC hS1 ⟨hP1, hD1⟩ hl
theorem e_aast {a v ci : Nat} {i : Int32} {q : vw_C} (c t0 : Nat) (hd : lkp (miI mi) 0 pc = some (.aastore, 1)) (ha : ob M a c) (h12 : 12 ≤ c) (hv : ob M v ci) (hci : vwCl[ci]? = some q) (ht : (gT G)[t0]? = some (gY G c, .object q.1)) (hi : vp_in i (mN M a)) (kk : E G mi Q (sP M a i.toNatClampNeg (some v)) k n (pc + 1) L rest) : E G mi Q M k n pc L (.ref v :: .int i :: .ref a :: rest) := by
  intro p e s m args below meth cd H locs ls hC hS hM hl
  obtain ⟨z, hz⟩ := xw_get (G := G) ha.1
  obtain ⟨y, hy⟩ := xw_get (G := G) hv.1
  have hz0 := hz
  rw [ent_p ha.2 h12] at hz
  rw [ent_o hv.2 (clok ci q hci).1] at hy
  refine va_astq hC.1 hC.2.1 hC.g.1 hM.1 hM.2 hS z t0 y ci hz ht hy hci hi (hC.dec hd) ?_
  intro H1 locs1 hP1 hD1 hS1
  have he := xw_set (G := G) (M := M) (M' := sP M a i.toNatClampNeg (some v)) hM.2 ha.1 hz0 rfl (e := .inl (gY G c, mN M a, .inr (.inr (.inr (.inr (va_up (mP M a) i.toNatClampNeg (some v))))))) (ent_aP (some v) ha.2 h12)
  rw [he] at hP1 hD1
  exact kk p e s m args below meth cd H1 locs1 ls hC hS1 ⟨hP1, hD1⟩ hl
/-- a nest mate's constructor, which throws nothing -/
theorem e_callIN {mi' : MI} {Q' : Rs → Mm → Prop} {As : List Value} {b : Nat} {host : String} (hd : lkp (miI mi) 0 pc = some (.invokespecial idx, 3)) (hM' : MC G mi' (.ref b :: As) M Q') (hno : ∀ X M', ¬ Q' (.inr X) M') (hH : miH mi' = []) (hR : miR mi' = none) (hin : (miY mi').name = "<init>") (hwl : Cond.methodLinkNest (miY mi).cls idx (miY mi') host ∈ OTHW) (hwn : Cond.instanceMethod (miY mi') ∈ ALLW) (hwi : Cond.initialized (miY mi').cls ∈ ALLW) (hwc : cdw mi' ∈ ALLW)
    (hok : cok mi mi' k n As.length = true) (hrm : (rest.map fun v => v.category).sum ≤ 8)
    (hret : ∀ (v : Option Value) (M' : Mm), Q' (.inl v) M' → E G mi Q M' (k + (miM mi').cells) (n + (miM mi').slots) (pc + 3) L (v.toList ++ rest)) : E G mi Q M k n pc L (As.reverse ++ .ref b :: rest) := by
  intro p e s m args below meth c H locs ls hC hS hM hl
  obtain ⟨o1, o2, o3, o4, o5, o6, o7⟩ := cok_ok hok
  have hcd : cdw mi' = .code (miY mi') (miC mi') (miL mi') none := by unfold cdw; rw [hH, ← hR]
  have hw9 := ew_ws hC hwc
  have hc9 := hC.ws hwc
  have hM9 := met_of hM' hno
  rw [hcd] at hM9 hw9 hc9
  exact e_run0 hC hS hl (va_runIN (As := As) (Ts := ALLW) ⟨hC.1, hC.2.1, hC.2.2.1, hC.own, hC.2.2.2.2.2.2.2.2.1⟩ hM9 ⟨⟨⟨rfl, rfl, o1, o2, hw9, List.mem_cons_self⟩, hc9, hC.ws hwi, ⟨o5, o6⟩, o7, va_Nw.use rfl (hC.g.2.1 _ hwl)⟩, hin, hC.ws hwn⟩ ⟨xP_blind G _ M, e_pre hC hS hM _⟩ rfl rfl hl.1.1 rfl (lv_room hrm) (hC.dec hd) ⟨o3, o4⟩) hret
end EN
end
section
/-! things that were there before: statics, texts, their bytes -/
section EO
variable {G : Gx} {mi mi' : MI} {Q Q' : Rs → Mm → Prop} {M : Mm} {k n pc idx : Nat} {L : List (Option Value)} {As rest : List Value}
theorem Cn.old {p : Program} {s : State} {m : MethodId} {args : Array Value} {meth : Method} {c : Code} (hC : Cn G mi p s m args meth c) : ∀ a : Nat, a < (gH G).size → ¬ gA G a → s.heap[a]? = (gH G)[a]? := fun a h _ => hC.o.2 a h
theorem e_gets {C nm d : String} (v : Value) (hd : lkp (miI mi) 0 pc = some (.getstatic idx, 3)) (hZ : ∀ s, ST G s → va_Z C nm d v (gA G) s (gH G)) (hw : Cond.fieldLink (miY mi).cls idx C nm d ∈ ALLW) (kk : E G mi Q M k n (pc + 3) L (v :: rest)) : E G mi Q M k n pc L rest := by
  intro p e s m args below meth c H locs ls hC hS hM hl
  exact va_gets hC.1 hC.2.1 ((hZ s hC.g.2.2).kept hC.old) hS hC.own (hC.ws hw) (fun x h => h) (hC.dec hd) (kk p e s m args below meth c H locs ls hC hS hM hl)
theorem e_getsN {C nm d host : String} (v : Value) (hd : lkp (miI mi) 0 pc = some (.getstatic idx, 3)) (hZ : ∀ s, ST G s → va_Z C nm d v (gA G) s (gH G)) (hw : Cond.fieldLinkNest (miY mi).cls idx C nm d host ∈ OTHW) (kk : E G mi Q M k n (pc + 3) L (v :: rest)) : E G mi Q M k n pc L rest := by
  intro p e s m args below meth c H locs ls hC hS hM hl
  exact va_getsN hC.1 hC.2.1 ((hZ s hC.g.2.2).kept hC.old) hS hC.own (va_Nw.use rfl (hC.g.2.1 _ hw)) (fun x h => h) (hC.dec hd) (kk p e s m args below meth c H locs ls hC hS hM hl)
theorem e_getsQ {C nm d : String} (hd : lkp (miI mi) 0 pc = some (.getstatic idx, 3)) (hZ : ∀ s, ST G s → va_Zq C nm d (gA G) s (gH G)) (hw : Cond.fieldLink (miY mi).cls idx C nm d ∈ ALLW) (kk : ∀ o : Option Nat, E G mi Q M k n (pc + 3) L (va_rf o :: rest)) : E G mi Q M k n pc L rest := by
  intro p e s m args below meth c H locs ls hC hS hM hl
  rcases hZ s hC.g.2.2 with h | ⟨t, h⟩
  · exact va_gets hC.1 hC.2.1 (h.kept hC.old) hS hC.own (hC.ws hw) (fun x h => h) (hC.dec hd) (kk none p e s m args below meth c H locs ls hC hS hM hl)
  · exact va_gets hC.1 hC.2.1 (h.kept hC.old) hS hC.own (hC.ws hw) (fun x h => h) (hC.dec hd) (kk (some t) p e s m args below meth c H locs ls hC hS hM hl)
theorem e_ldS {text : String} (j : Nat) (hd : lkp (miI mi) 0 pc = some (.ldc idx, 2)) (hs : ((miY mi).cls, idx, text, j) ∈ stW) (kk : E G mi Q M k n (pc + 2) L (.ref (gS G j) :: rest)) : E G mi Q M k n pc L rest := by
  intro p e s m args below meth c H locs ls hC hS hM hl
  exact va_ldcS hC.1 hC.2.1 hC.own (hC.g.2.2.2.2.2.2.1 _ hs) (hC.dec hd) (kk p e s m args below meth c H locs ls hC hS hM hl)
theorem e_tI {t N : Nat} {f : Nat → Value} {i : Int32} (v : Value) (hd : lkp (miI mi) 0 pc = some (.iaload, 1)) (hT : ∀ s, ST G s → va_T .int t N f (gA G) s (gH G)) (hi : vp_in i N) (hv : f i.toNatClampNeg = v) (kk : E G mi Q M k n (pc + 1) L (v :: rest)) : E G mi Q M k n pc L (.int i :: .ref t :: rest) := by
  intro p e s m args below meth c H locs ls hC hS hM hl
  exact va_ti hC.1 hC.2.1 ((hT s hC.g.2.2).kept hC.old) hS hi hv (hC.dec hd) (kk p e s m args below meth c H locs ls hC hS hM hl)
theorem e_tB {t N : Nat} {f : Nat → Value} {i : Int32} (v : Value) (hd : lkp (miI mi) 0 pc = some (.baload, 1)) (hT : ∀ s, ST G s → va_T .byte t N f (gA G) s (gH G)) (hi : vp_in i N) (hv : f i.toNatClampNeg = v) (kk : E G mi Q M k n (pc + 1) L (v :: rest)) : E G mi Q M k n pc L (.int i :: .ref t :: rest) := by
  intro p e s m args below meth c H locs ls hC hS hM hl
  exact va_tb hC.1 hC.2.1 ((hT s hC.g.2.2).kept hC.old) hS hi hv (hC.dec hd) (kk p e s m args below meth c H locs ls hC hS hM hl)
theorem e_tL {t N : Nat} {f : Nat → Value} {ty : FieldType} (hd : lkp (miI mi) 0 pc = some (.arraylength, 1)) (hT : ∀ s, ST G s → va_T ty t N f (gA G) s (gH G)) (kk : E G mi Q M k n (pc + 1) L (.int (Int32.ofNat N) :: rest)) : E G mi Q M k n pc L (.ref t :: rest) := by
  intro p e s m args below meth c H locs ls hC hS hM hl
  exact va_tlen hC.1 hC.2.1 ((hT s hC.g.2.2).kept hC.old) hS rfl (hC.dec hd) (kk p e s m args below meth c H locs ls hC hS hM hl)
theorem e_oG {o nm d : String} {q : Nat} (v : Value) (hd : lkp (miI mi) 0 pc = some (.getfield idx, 3)) (hE : ∀ s, ST G s → va_OF o nm d v q (gA G) s (gH G)) (hw : Cond.fieldLink (miY mi).cls idx o nm d ∈ ALLW) (kk : E G mi Q M k n (pc + 3) L (v :: rest)) : E G mi Q M k n pc L (.ref q :: rest) := by
  intro p e s m args below meth c H locs ls hC hS hM hl
  exact vk_getf hC.1 hC.2.1 ((hE s hC.g.2.2).kept hC.old) hS hC.own (hC.ws hw) (fun x h => h) (hC.dec hd) (kk p e s m args below meth c H locs ls hC hS hM hl)
/-- a call of an old thing's method, which throws nothing -/
theorem e_callO {b : Nat} (hd : lkp (miI mi) 0 pc = some (.invokevirtual idx, 3)) (hM' : MC G mi' (.ref b :: As) M Q') (hno : ∀ X M', ¬ Q' (.inr X) M') (hO : ∀ s, ST G s → va_O (miY mi').cls b (gA G) s (gH G)) (hH : miH mi' = []) (hwl : Cond.methodLink (miY mi).cls idx (miY mi') ∈ ALLW) (hwn : Cond.instanceMethod (miY mi') ∈ ALLW) (hse : Cond.selects (miY mi').cls (miY mi') (miY mi') ∈ ALLW) (hwi : Cond.initialized (miY mi').cls ∈ ALLW) (hwc : cdw mi' ∈ ALLW)
    (hok : cok mi mi' k n As.length = true) (hrm : (rest.map fun v => v.category).sum ≤ 8)
    (hret : ∀ (v : Option Value) (M' : Mm), Q' (.inl v) M' → E G mi Q M' (k + (miM mi').cells) (n + (miM mi').slots) (pc + 3) L (v.toList ++ rest)) : E G mi Q M k n pc L (As.reverse ++ .ref b :: rest) := by
  intro p e s m args below meth c H locs ls hC hS hM hl
  obtain ⟨o1, o2, o3, o4, o5, o6, o7⟩ := cok_ok hok
  have hcd : cdw mi' = .code (miY mi') (miC mi') (miL mi') (miR mi') := by unfold cdw; rw [hH]
  have hw9 := ew_ws hC hwc
  have hc9 := hC.ws hwc
  have hM9 := met_of hM' hno
  rw [hcd] at hM9 hw9 hc9
  have hrc := va_Orecv ((hO s hC.g.2.2).kept hC.old) hS
  exact e_run0 hC hS hl (va_runV (As := As) (C := (miY mi').cls) (Ts := ALLW) ⟨hC.1, hC.2.1, hC.2.2.1, hC.own, hC.2.2.2.2.2.2.2.2.1⟩ hM9 ⟨⟨rfl, rfl, o1, o2, hw9, List.mem_cons_self, hc9, hC.ws hwi, ⟨o5, o6⟩, o7, hC.ws hwl⟩, hC.ws hwn, hC.ws hse⟩ ⟨xP_blind G _ M, hrc, e_pre hC hS hM _⟩ rfl rfl hl.1.1 rfl (lv_room hrm) (hC.dec hd) ⟨o3, o4⟩) hret
theorem e_retc {x : Int32} {ty : FieldType} (hd : lkp (miI mi) 0 pc = some (.ireturn, 1)) (hr : miR mi = some ty) (hx : narrow ty (.int x) = .int x) (hk : k ≤ (miM mi).cells) (hn : n ≤ (miM mi).slots) (hq : Q (.inl (some (.int x))) M) : E G mi Q M k n pc L [.int x] := by
  intro p e s m args below meth c H locs ls hC hS hM hl
  exact W.widen hk hn (vx_ret (W.zret hC.1 hC.2.1 (hC.2.2.2.1.trans hr) hx (fun t ht hW => ⟨some (.int x), M, rfl, hq, by rw [ht]; exact hM, hS.F ht⟩) (fun q hq => hS.2.2 q hq) (hC.dec hd) hC.2.2.2.2.1))
end EO
end
section
/-! throw new E("text") -/
def atok (own : String) (ic : Nat) (cls : String) (names : List String) : Bool := (vx_atS own ic cls names).all (fun w => (goodWord w || othW w) && decide (w ∈ lw_tbl))
def atgd (own : String) (ik ic : Nat) (cls : String) (names : List String) : Bool := (Cond.classLink own ik cls :: Cond.initialized cls :: vx_atS own ic cls names).all vx_ot
theorem oth_ot {w : Cond} (h : othW w = true) : w.onTables = true := by
  cases w <;> first | (cases h; done) | rfl
theorem at_ok {G : Gx} {mi : MI} {p : Program} {s : State} {m : MethodId} {args : Array Value} {meth : Method} {c : Code} (hC : Cn G mi p s m args meth c) {own : String} {ic : Nat} {cls : String} {names : List String} (h : atok own ic cls names = true) : ∀ w ∈ vx_atS own ic cls names, w.before args s = true := by
  intro w hw
  have h1 := List.all_eq_true.mp h w hw
  rw [Bool.and_eq_true, Bool.or_eq_true, decide_eq_true_eq] at h1
  rcases h1 with ⟨h1 | h1, h2⟩
  · exact hC.ws (List.mem_filter.mpr ⟨h2, h1⟩)
  · exact va_Nw.use (oth_ot h1) (hC.g.2.1 w (List.mem_filter.mpr ⟨h2, h1⟩))
def exn : List String := ["java/lang/RuntimeException", "java/lang/Exception"]
section ETH
variable {G : Gx} {mi : MI} {Q : Rs → Mm → Prop} {M : Mm} {k n pc : Nat} {L : List (Option Value)} {rest : List Value}
theorem e_thrX {p : Program} {s t : State} {m : MethodId} {args : Array Value} {meth : Method} {c : Code} {H : Heap} {locs : List Loc} {cls : String} (hC : Cn G mi p s m args meth c) (hS : va_S (gA G) s.heap H locs) (hM : xh G M H) (hq : Q (.inr cls) M) (h1 : H.size ≤ t.heap.size) (h2 : ∀ q : Nat, q < H.size → t.heap[q]? = H[q]?) : xx G Q cls s t := by
  refine ⟨M, hq, ⟨hM.1.kept (fun k q hk => h2 q.1 (hM.1 k q hk).lt), hM.2⟩, Nat.le_trans hS.1 h1, fun q g1 g2 => ?_⟩
  rw [h2 q (Nat.lt_of_lt_of_le g1 hS.1)]
  exact hS.2.1 q g1 g2
theorem e_thrW {ik is ic j : Nat} (cls text : String) (d0 : lkp (miI mi) 0 pc = some (.new ik, 3)) (d3 : lkp (miI mi) 0 (pc + 3) = some (.dup, 1)) (d4 : lkp (miI mi) 0 (pc + 4) = some (.ldc_w is, 3)) (d7 : lkp (miI mi) 0 (pc + 7) = some (.invokespecial ic, 3)) (d10 : lkp (miI mi) 0 (pc + 10) = some (.athrow, 1))
    (hf : Bundle.fit cls = true) (hH : miH mi = []) (hk : Cond.classLink (miY mi).cls ik cls ∈ ALLW) (hi : Cond.initialized cls ∈ ALLW) (hs : ((miY mi).cls, is, text, j) ∈ stW) (ha : atok (miY mi).cls ic cls exn = true) (hg : atgd (miY mi).cls ik ic cls exn = true)
    (r1 : 5 < (miM mi).frames) (r2 : (rest.map fun v => v.category).sum + 82 ≤ (miM mi).locals) (r3 : k + 1 ≤ (miM mi).cells) (r4 : n + 6 ≤ (miM mi).slots) (hq : Q (.inr cls) M) : E G mi Q M k n pc L rest := by
  intro p e s m args below meth c H locs ls hC hS hM hl
  obtain ⟨s0, s1, s2, s3, s4, -⟩ := hC.g.2.2
  have hold : ∀ a : Nat, a < (gH G).size → ¬ gA G a → s.heap[a]? = (gH G)[a]? := fun a h1 _ => hC.o.2 a h1
  exact vx_throwSW (names := exn) hC.1 hC.2.1 s0 hC.own hf (by decide +kernel) (hC.ws hk) (hC.ws hi) (s4 _ hs) (at_ok hC ha) (fun w hw => List.all_eq_true.mp hg w hw) (s1.kept hold) (s2.kept hold) hS (hl.1.1.trans hC.2.2.1.symm)
    (hC.dec d0) (hC.dec d3) (hC.dec d4) (hC.dec d7) (hC.dec d10) (fun x hx => by rw [hC.2.2.2.2.2.1, hH] at hx; cases hx) r1 r2 r3 r4 hC.2.2.2.2.1 (fun t _ h1 h2 => e_thrX hC hS hM hq h1 h2) (fun z hz => hS.2.2 z hz) r3 r4
theorem e_thr {ik is ic j : Nat} (cls text : String) (d0 : lkp (miI mi) 0 pc = some (.new ik, 3)) (d3 : lkp (miI mi) 0 (pc + 3) = some (.dup, 1)) (d4 : lkp (miI mi) 0 (pc + 4) = some (.ldc is, 2)) (d6 : lkp (miI mi) 0 (pc + 6) = some (.invokespecial ic, 3)) (d9 : lkp (miI mi) 0 (pc + 9) = some (.athrow, 1))
    (hf : Bundle.fit cls = true) (hH : miH mi = []) (hk : Cond.classLink (miY mi).cls ik cls ∈ ALLW) (hi : Cond.initialized cls ∈ ALLW) (hs : ((miY mi).cls, is, text, j) ∈ stW) (ha : atok (miY mi).cls ic cls exn = true) (hg : atgd (miY mi).cls ik ic cls exn = true)
    (r1 : 5 < (miM mi).frames) (r2 : (rest.map fun v => v.category).sum + 82 ≤ (miM mi).locals) (r3 : k + 1 ≤ (miM mi).cells) (r4 : n + 6 ≤ (miM mi).slots) (hq : Q (.inr cls) M) : E G mi Q M k n pc L rest := by
  intro p e s m args below meth c H locs ls hC hS hM hl
  obtain ⟨s0, s1, s2, s3, s4, -⟩ := hC.g.2.2
  have hold : ∀ a : Nat, a < (gH G).size → ¬ gA G a → s.heap[a]? = (gH G)[a]? := fun a h1 _ => hC.o.2 a h1
  exact vx_throwS (names := exn) hC.1 hC.2.1 s0 hC.own hf (by decide +kernel) (hC.ws hk) (hC.ws hi) (s4 _ hs) (at_ok hC ha) (fun w hw => List.all_eq_true.mp hg w hw) (s1.kept hold) (s2.kept hold) hS (hl.1.1.trans hC.2.2.1.symm)
    (hC.dec d0) (hC.dec d3) (hC.dec d4) (hC.dec d6) (hC.dec d9) (fun x hx => by rw [hC.2.2.2.2.2.1, hH] at hx; cases hx) r1 r2 r3 r4 hC.2.2.2.2.1 (fun t _ h1 h2 => e_thrX hC hS hM hq h1 h2) (fun z hz => hS.2.2 z hz) r3 r4
end ETH
theorem at_IndexOutOfBoundsException : atok "CalendarOrders" 295 "java/lang/IndexOutOfBoundsException" exn = true := by decide +kernel
theorem at_IllegalArgumentException : atok "CalendarOrders" 71 "java/lang/IllegalArgumentException" exn = true := by decide +kernel
theorem at_IllegalStateException : atok "CalendarOrders" 82 "java/lang/IllegalStateException" exn = true := by decide +kernel
theorem gd_IndexOutOfBoundsException : atgd "CalendarOrders" 291 295 "java/lang/IndexOutOfBoundsException" exn = true := by decide +kernel
theorem gd_IllegalArgumentException : atgd "CalendarOrders" 67 71 "java/lang/IllegalArgumentException" exn = true := by decide +kernel
theorem gd_IllegalStateException : atgd "CalendarOrders" 78 82 "java/lang/IllegalStateException" exn = true := by decide +kernel
end
section
/-! a handler of the method's own table takes what is thrown -/
theorem et_catch {G : Gx} {mi : MI} {Q : Rs → Mm → Prop} {M : Mm} {k n pc : Nat} {L : List (Option Value)} {rest : List Value} {X : String} (pre : List ExceptionTableEntry) (x : ExceptionTableEntry) (suf : List ExceptionTableEntry) (name : String) (hH : tableOf (miH mi) = pre ++ x :: suf)
    (hpass : ∀ z ∈ pre, covers z pc = false ∨ (z.catchType ≠ 0 ∧ ∃ nm : String, Cond.classLink (miY mi).cls z.catchType nm ∈ ALLW ∧ (X, nm) ∈ ncW)) (hx : covers x pc = true) (h0 : x.catchType ≠ 0)
    (hlink : Cond.classLink (miY mi).cls x.catchType name ∈ ALLW) (hcast : Cond.castable X name ∈ OTHW) (kk : ∀ q : Nat, E G mi Q M k n x.handlerPc L [.ref q]) : ET G mi Q M k n pc L rest X := by
  intro p e s m args below meth c H locs ls q ce hC hS hM hl hce hcv hcl
  refine cx_catch hC.own pre x suf (hC.2.2.2.2.2.1.trans hH) (fun z hz => ?_) hx h0 (hC.ws hlink) (va_Nw.use rfl (hC.g.2.1 _ hcast)) hce hcv hcl (kk q p e s m args below meth c H locs ls hC hS hM hl)
  rcases hpass z hz with h | ⟨h1, nm, h2, h3⟩
  · exact Or.inl h
  · exact Or.inr ⟨h1, nm, hC.ws h2, hC.g.2.2.2.2.2.1 _ h3⟩
end
section
def is_J9_floorDiv_7cf53 : List (Instr × Nat) := [(.iload_n 0, 1), (.iload_n 1, 1), (.idiv, 1), (.istore_n 2, 1), (.iload_n 0, 1), (.iload_n 1, 1), (.ixor, 1), (.ifCond .ge 14, 3), (.iload_n 2, 1), (.iload_n 1, 1), (.imul, 1), (.iload_n 0, 1), (.if_icmp .eq 7, 3), (.iload_n 2, 1), (.iconst 1, 1), (.isub, 1), (.ireturn, 1), (.iload_n 2, 1), (.ireturn, 1)]
abbrev mi_J9_floorDiv_7cf53 : MI := (yJ9_floorDiv_7cf53, cJ9_floorDiv_7cf53, 3, (some .int), [], { frames := 0, cells := 0, slots := 0, locals := 0 }, is_J9_floorDiv_7cf53)
theorem dc_J9_floorDiv_7cf53 : dcb cJ9_floorDiv_7cf53 is_J9_floorDiv_7cf53 0 = true := by decide +kernel
theorem wc_J9_floorDiv_7cf53 : cdw mi_J9_floorDiv_7cf53 ∈ ALLW := aw (i := 528) (by decide +kernel) rfl
theorem wi_J9_floorDiv_7cf53 : Cond.initialized (miY mi_J9_floorDiv_7cf53).cls ∈ ALLW := aw (i := 71) (by decide +kernel) rfl
theorem ws_J9_floorDiv_7cf53 : Cond.static (miY mi_J9_floorDiv_7cf53) ∈ ALLW := aw (i := 527) (by decide +kernel) rfl
def is_X6_yearStart : List (Instr × Nat) := [(.iload_n 0, 1), (.iconst 1, 1), (.isub, 1), (.istore_n 1, 1), (.sipush 365, 3), (.iload_n 0, 1), (.sipush 1900, 3), (.isub, 1), (.imul, 1), (.iload_n 1, 1), (.iconst 4, 1), (.idiv, 1), (.iadd, 1), (.iload_n 1, 1), (.bipush 100, 2), (.idiv, 1), (.isub, 1), (.iload_n 1, 1), (.sipush 400, 3), (.idiv, 1), (.iadd, 1), (.sipush 460, 3), (.isub, 1), (.ireturn, 1)]
abbrev mi_X6_yearStart : MI := (yX6_yearStart, cX6_yearStart, 2, (some .int), [], { frames := 0, cells := 0, slots := 0, locals := 0 }, is_X6_yearStart)
theorem dc_X6_yearStart : dcb cX6_yearStart is_X6_yearStart 0 = true := by decide +kernel
theorem wc_X6_yearStart : cdw mi_X6_yearStart ∈ ALLW := aw (i := 536) (by decide +kernel) rfl
theorem wi_X6_yearStart : Cond.initialized (miY mi_X6_yearStart).cls ∈ ALLW := aw (i := 57) (by decide +kernel) rfl
theorem ws_X6_yearStart : Cond.static (miY mi_X6_yearStart) ∈ ALLW := aw (i := 535) (by decide +kernel) rfl
def is_X6_daysOfMonth : List (Instr × Nat) := [(.iload_n 1, 1), (.iconst 2, 1), (.if_icmp .ne 42, 3), (.iload_n 0, 1), (.iconst 4, 1), (.irem, 1), (.ifCond .ne 22, 3), (.iload_n 0, 1), (.bipush 100, 2), (.irem, 1), (.ifCond .ne 11, 3), (.iload_n 0, 1), (.sipush 400, 3), (.irem, 1), (.ifCond .ne 7, 3), (.iconst 1, 1), (.goto 4, 3), (.iconst 0, 1), (.istore_n 2, 1), (.iload_n 2, 1), (.ifCond .eq 8, 3), (.bipush 29, 2), (.goto 5, 3), (.bipush 28, 2), (.ireturn, 1), (.iload_n 1, 1), (.iconst 4, 1), (.if_icmp .eq 21, 3), (.iload_n 1, 1), (.bipush 6, 2), (.if_icmp .eq 15, 3), (.iload_n 1, 1), (.bipush 9, 2), (.if_icmp .eq 9, 3), (.iload_n 1, 1), (.bipush 11, 2), (.if_icmp .ne 8, 3), (.bipush 30, 2), (.goto 5, 3), (.bipush 31, 2), (.ireturn, 1)]
abbrev mi_X6_daysOfMonth : MI := (yX6_daysOfMonth, cX6_daysOfMonth, 3, (some .int), [], { frames := 0, cells := 0, slots := 0, locals := 0 }, is_X6_daysOfMonth)
theorem dc_X6_daysOfMonth : dcb cX6_daysOfMonth is_X6_daysOfMonth 0 = true := by decide +kernel
theorem wc_X6_daysOfMonth : cdw mi_X6_daysOfMonth ∈ ALLW := aw (i := 539) (by decide +kernel) rfl
theorem wi_X6_daysOfMonth : Cond.initialized (miY mi_X6_daysOfMonth).cls ∈ ALLW := aw (i := 57) (by decide +kernel) rfl
theorem ws_X6_daysOfMonth : Cond.static (miY mi_X6_daysOfMonth) ∈ ALLW := aw (i := 538) (by decide +kernel) rfl
def is_J9_floorMod_7cf53 : List (Instr × Nat) := [(.iload_n 0, 1), (.iload_n 1, 1), (.irem, 1), (.istore_n 2, 1), (.iload_n 0, 1), (.iload_n 1, 1), (.ixor, 1), (.ifCond .ge 11, 3), (.iload_n 2, 1), (.ifCond .eq 7, 3), (.iload_n 2, 1), (.iload_n 1, 1), (.iadd, 1), (.ireturn, 1), (.iload_n 2, 1), (.ireturn, 1)]
abbrev mi_J9_floorMod_7cf53 : MI := (yJ9_floorMod_7cf53, cJ9_floorMod_7cf53, 3, (some .int), [], { frames := 0, cells := 0, slots := 0, locals := 0 }, is_J9_floorMod_7cf53)
theorem dc_J9_floorMod_7cf53 : dcb cJ9_floorMod_7cf53 is_J9_floorMod_7cf53 0 = true := by decide +kernel
theorem wc_J9_floorMod_7cf53 : cdw mi_J9_floorMod_7cf53 ∈ ALLW := aw (i := 546) (by decide +kernel) rfl
theorem wi_J9_floorMod_7cf53 : Cond.initialized (miY mi_J9_floorMod_7cf53).cls ∈ ALLW := aw (i := 71) (by decide +kernel) rfl
theorem ws_J9_floorMod_7cf53 : Cond.static (miY mi_J9_floorMod_7cf53) ∈ ALLW := aw (i := 545) (by decide +kernel) rfl
def is_X6_monthStart : List (Instr × Nat) := [(.iload_n 0, 1), (.invokestatic 115, 3), (.istore_n 2, 1), (.iconst 1, 1), (.istore_n 3, 1), (.iload_n 3, 1), (.iload_n 1, 1), (.if_icmp .ge 23, 3), (.iload_n 3, 1), (.bipush 12, 2), (.if_icmp .ge 17, 3), (.iload_n 2, 1), (.iload_n 0, 1), (.iload_n 3, 1), (.invokestatic 323, 3), (.iadd, 1), (.istore_n 2, 1), (.iinc 3 1, 3), (.goto (-22), 3), (.iload_n 2, 1), (.ireturn, 1)]
abbrev mi_X6_monthStart : MI := (yX6_monthStart, cX6_monthStart, 4, (some .int), [], { frames := 1, cells := 0, slots := 0, locals := 22 }, is_X6_monthStart)
theorem dc_X6_monthStart : dcb cX6_monthStart is_X6_monthStart 0 = true := by decide +kernel
theorem wc_X6_monthStart : cdw mi_X6_monthStart ∈ ALLW := aw (i := 563) (by decide +kernel) rfl
theorem wi_X6_monthStart : Cond.initialized (miY mi_X6_monthStart).cls ∈ ALLW := aw (i := 57) (by decide +kernel) rfl
theorem ws_X6_monthStart : Cond.static (miY mi_X6_monthStart) ∈ ALLW := aw (i := 562) (by decide +kernel) rfl
def is_J9_max_7cf53 : List (Instr × Nat) := [(.iload_n 0, 1), (.iload_n 1, 1), (.if_icmp .lt 7, 3), (.iload_n 0, 1), (.goto 4, 3), (.iload_n 1, 1), (.ireturn, 1)]
abbrev mi_J9_max_7cf53 : MI := (yJ9_max_7cf53, cJ9_max_7cf53, 2, (some .int), [], { frames := 0, cells := 0, slots := 0, locals := 0 }, is_J9_max_7cf53)
theorem dc_J9_max_7cf53 : dcb cJ9_max_7cf53 is_J9_max_7cf53 0 = true := by decide +kernel
theorem wc_J9_max_7cf53 : cdw mi_J9_max_7cf53 ∈ ALLW := aw (i := 827) (by decide +kernel) rfl
theorem wi_J9_max_7cf53 : Cond.initialized (miY mi_J9_max_7cf53).cls ∈ ALLW := aw (i := 71) (by decide +kernel) rfl
theorem ws_J9_max_7cf53 : Cond.static (miY mi_J9_max_7cf53) ∈ ALLW := aw (i := 826) (by decide +kernel) rfl
def is_J9_min_7cf53 : List (Instr × Nat) := [(.iload_n 0, 1), (.iload_n 1, 1), (.if_icmp .gt 7, 3), (.iload_n 0, 1), (.goto 4, 3), (.iload_n 1, 1), (.ireturn, 1)]
abbrev mi_J9_min_7cf53 : MI := (yJ9_min_7cf53, cJ9_min_7cf53, 2, (some .int), [], { frames := 0, cells := 0, slots := 0, locals := 0 }, is_J9_min_7cf53)
theorem dc_J9_min_7cf53 : dcb cJ9_min_7cf53 is_J9_min_7cf53 0 = true := by decide +kernel
theorem wc_J9_min_7cf53 : cdw mi_J9_min_7cf53 ∈ ALLW := aw (i := 831) (by decide +kernel) rfl
theorem wi_J9_min_7cf53 : Cond.initialized (miY mi_J9_min_7cf53).cls ∈ ALLW := aw (i := 71) (by decide +kernel) rfl
theorem ws_J9_min_7cf53 : Cond.static (miY mi_J9_min_7cf53) ∈ ALLW := aw (i := 830) (by decide +kernel) rfl
def is_X6_below : List (Instr × Nat) := [(.lconst 1, 1), (.iload_n 0, 1), (.lshl, 1), (.lconst 1, 1), (.lsub, 1), (.lreturn, 1)]
abbrev mi_X6_below : MI := (yX6_below, cX6_below, 1, (some .long), [], { frames := 0, cells := 0, slots := 0, locals := 0 }, is_X6_below)
theorem dc_X6_below : dcb cX6_below is_X6_below 0 = true := by decide +kernel
theorem wc_X6_below : cdw mi_X6_below ∈ ALLW := aw (i := 804) (by decide +kernel) rfl
theorem wi_X6_below : Cond.initialized (miY mi_X6_below).cls ∈ ALLW := aw (i := 57) (by decide +kernel) rfl
theorem ws_X6_below : Cond.static (miY mi_X6_below) ∈ ALLW := aw (i := 803) (by decide +kernel) rfl
def is_X6_holds : List (Instr × Nat) := [(.iload_n 2, 1), (.ifCond .lt 23, 3), (.iload_n 2, 1), (.bipush 64, 2), (.if_icmp .ge 17, 3), (.lload_n 0, 1), (.iload_n 2, 1), (.lushr, 1), (.lconst 1, 1), (.land, 1), (.lconst 0, 1), (.lcmp, 1), (.ifCond .eq 7, 3), (.iconst 1, 1), (.goto 4, 3), (.iconst 0, 1), (.ireturn, 1)]
abbrev mi_X6_holds : MI := (yX6_holds, cX6_holds, 3, (some .boolean), [], { frames := 0, cells := 0, slots := 0, locals := 0 }, is_X6_holds)
theorem dc_X6_holds : dcb cX6_holds is_X6_holds 0 = true := by decide +kernel
theorem wc_X6_holds : cdw mi_X6_holds ∈ ALLW := aw (i := 793) (by decide +kernel) rfl
theorem wi_X6_holds : Cond.initialized (miY mi_X6_holds).cls ∈ ALLW := aw (i := 57) (by decide +kernel) rfl
theorem ws_X6_holds : Cond.static (miY mi_X6_holds) ∈ ALLW := aw (i := 792) (by decide +kernel) rfl
def is_J13_bitCount_95d88 : List (Instr × Nat) := [(.lload_n 0, 1), (.lload_n 0, 1), (.iconst 1, 1), (.lushr, 1), (.ldc2_w 314, 3), (.land, 1), (.lsub, 1), (.lstore_n 0, 1), (.lload_n 0, 1), (.ldc2_w 316, 3), (.land, 1), (.lload_n 0, 1), (.iconst 2, 1), (.lushr, 1), (.ldc2_w 316, 3), (.land, 1), (.ladd, 1), (.lstore_n 0, 1), (.lload_n 0, 1), (.lload_n 0, 1), (.iconst 4, 1), (.lushr, 1), (.ladd, 1), (.ldc2_w 318, 3), (.land, 1), (.lstore_n 0, 1), (.lload_n 0, 1), (.lload_n 0, 1), (.bipush 8, 2), (.lushr, 1), (.ladd, 1), (.lstore_n 0, 1), (.lload_n 0, 1), (.lload_n 0, 1), (.bipush 16, 2), (.lushr, 1), (.ladd, 1), (.lstore_n 0, 1), (.lload_n 0, 1), (.lload_n 0, 1), (.bipush 32, 2), (.lushr, 1), (.ladd, 1), (.lstore_n 0, 1), (.lload_n 0, 1), (.l2i, 1), (.bipush 127, 2), (.iand, 1), (.ireturn, 1)]
abbrev mi_J13_bitCount_95d88 : MI := (yJ13_bitCount_95d88, cJ13_bitCount_95d88, 2, (some .int), [], { frames := 0, cells := 0, slots := 0, locals := 0 }, is_J13_bitCount_95d88)
theorem dc_J13_bitCount_95d88 : dcb cJ13_bitCount_95d88 is_J13_bitCount_95d88 0 = true := by decide +kernel
theorem wc_J13_bitCount_95d88 : cdw mi_J13_bitCount_95d88 ∈ ALLW := aw (i := 853) (by decide +kernel) rfl
theorem wi_J13_bitCount_95d88 : Cond.initialized (miY mi_J13_bitCount_95d88).cls ∈ ALLW := aw (i := 76) (by decide +kernel) rfl
theorem ws_J13_bitCount_95d88 : Cond.static (miY mi_J13_bitCount_95d88) ∈ ALLW := aw (i := 852) (by decide +kernel) rfl
def is_X6_lowest : List (Instr × Nat) := [(.lload_n 0, 1), (.lload_n 0, 1), (.lneg, 1), (.land, 1), (.lconst 1, 1), (.lsub, 1), (.invokestatic 374, 3), (.ireturn, 1)]
abbrev mi_X6_lowest : MI := (yX6_lowest, cX6_lowest, 2, (some .int), [], { frames := 1, cells := 0, slots := 0, locals := 21 }, is_X6_lowest)
theorem dc_X6_lowest : dcb cX6_lowest is_X6_lowest 0 = true := by decide +kernel
theorem wc_X6_lowest : cdw mi_X6_lowest ∈ ALLW := aw (i := 850) (by decide +kernel) rfl
theorem wi_X6_lowest : Cond.initialized (miY mi_X6_lowest).cls ∈ ALLW := aw (i := 57) (by decide +kernel) rfl
theorem ws_X6_lowest : Cond.static (miY mi_X6_lowest) ∈ ALLW := aw (i := 849) (by decide +kernel) rfl
def is_X6_highest : List (Instr × Nat) := [(.lload_n 0, 1), (.lstore_n 2, 1), (.iconst 1, 1), (.istore 4, 2), (.iload 4, 2), (.bipush 64, 2), (.if_icmp .ge 19, 3), (.lload_n 2, 1), (.lload_n 2, 1), (.iload 4, 2), (.lushr, 1), (.lor, 1), (.lstore_n 2, 1), (.iload 4, 2), (.iconst 2, 1), (.imul, 1), (.istore 4, 2), (.goto (-20), 3), (.lload_n 2, 1), (.invokestatic 374, 3), (.iconst 1, 1), (.isub, 1), (.ireturn, 1)]
abbrev mi_X6_highest : MI := (yX6_highest, cX6_highest, 5, (some .int), [], { frames := 1, cells := 0, slots := 0, locals := 21 }, is_X6_highest)
theorem dc_X6_highest : dcb cX6_highest is_X6_highest 0 = true := by decide +kernel
theorem wc_X6_highest : cdw mi_X6_highest ∈ ALLW := aw (i := 908) (by decide +kernel) rfl
theorem wi_X6_highest : Cond.initialized (miY mi_X6_highest).cls ∈ ALLW := aw (i := 57) (by decide +kernel) rfl
theorem ws_X6_highest : Cond.static (miY mi_X6_highest) ∈ ALLW := aw (i := 907) (by decide +kernel) rfl
def V_J9_floorDiv_7cf53_21 (K : Rs → Mm → Prop)  (M : Mm) (l2 : Int32) : Prop := K (.inl (some (.int l2))) M
set_option maxRecDepth 100000 in
set_option maxHeartbeats 4000000 in
theorem x_J9_floorDiv_7cf53_21 {G : Gx} {K : Rs → Mm → Prop}  {M : Mm} {l2 : Int32} (h : V_J9_floorDiv_7cf53_21 K  M l2) : E G mi_J9_floorDiv_7cf53 K M 0 0 21 [none, none, some (.int l2)] [] := by
  unfold V_J9_floorDiv_7cf53_21 at h
  refine e_blk 1 21 _ _ (pc' := 22) (L' := [none, none, some (.int l2)]) (st' := [.int l2]) rfl ?_
  exact e_reti rfl rfl (by decide) (by decide) h
def V_J9_floorDiv_7cf53 (K : Rs → Mm → Prop) (M : Mm) (a0 : Int32) (a1 : Int32) : Prop := (¬ a1 = 0 ∧ ∀ x1 : Int32, x1 = (a0 / a1) → ((0 ≤ (a0 ^^^ a1) → V_J9_floorDiv_7cf53_21 K  M x1) ∧ (¬ 0 ≤ (a0 ^^^ a1) → (((x1 * a1) = a0 → V_J9_floorDiv_7cf53_21 K  M x1) ∧ (¬ (x1 * a1) = a0 → K (.inl (some (.int (x1 - (1 : Int32))))) M)))))
set_option maxRecDepth 100000 in
set_option maxHeartbeats 4000000 in
theorem x_J9_floorDiv_7cf53 {G : Gx} {K : Rs → Mm → Prop} {M : Mm} {a0 : Int32} {a1 : Int32} (h : V_J9_floorDiv_7cf53 K M a0 a1) : MC G mi_J9_floorDiv_7cf53 [.int a0, .int a1] M K := by
  unfold V_J9_floorDiv_7cf53 at h
  refine mc_of rfl (by decide +kernel) dc_J9_floorDiv_7cf53 (Nat.le_of_ble_eq_true rfl) 1 (Nat.le_of_ble_eq_true rfl) ?_
  show E G mi_J9_floorDiv_7cf53 K M 0 0 0 [some (.int a0), some (.int a1), none] []
  refine e_blk 2 0 _ _ (pc' := 2) (L' := [some (.int a0), some (.int a1), none]) (st' := [.int a1, .int a0]) rfl ?_
  refine e_idiv rfl h.1 ?_
  replace h := h.2
  refine e_blk 4 3 _ _ (pc' := 7) (L' := [some (.int a0), some (.int a1), some (.int (a0 / a1))]) (st' := [.int (a0 ^^^ a1)]) rfl ?_
  generalize hx_x1 : ((a0 / a1) : Int32) = x1
  replace h := h x1 hx_x1.symm
  refine e_if_ge 21 rfl rfl (fun hc => ?_) (fun hc => ?_)
  · replace h := h.1 hc
    refine e_drp [false, false, true] (L' := [none, none, some (.int x1)]) rfl ?_
    exact x_J9_floorDiv_7cf53_21  h
  · replace h := h.2 hc
    refine e_blk 4 10 _ _ (pc' := 14) (L' := [some (.int a0), some (.int a1), some (.int x1)]) (st' := [.int a0, .int (x1 * a1)]) rfl ?_
    refine e_icmp_eq 21 rfl rfl (fun hc => ?_) (fun hc => ?_)
    · replace h := h.1 hc
      refine e_drp [false, false, true] (L' := [none, none, some (.int x1)]) rfl ?_
      exact x_J9_floorDiv_7cf53_21  h
    · replace h := h.2 hc
      refine e_blk 3 17 _ _ (pc' := 20) (L' := [some (.int a0), some (.int a1), some (.int x1)]) (st' := [.int (x1 - (1 : Int32))]) rfl ?_
      exact e_reti rfl rfl (by decide) (by decide) h
def V_X6_yearStart (K : Rs → Mm → Prop) (M : Mm) (a0 : Int32) : Prop := ∀ x1 : Int32, x1 = (a0 - (1 : Int32)) → K (.inl (some (.int ((((((365 : Int32) * (a0 - (1900 : Int32))) + (x1 / (4 : Int32))) - (x1 / (100 : Int32))) + (x1 / (400 : Int32))) - (460 : Int32))))) M
set_option maxRecDepth 100000 in
set_option maxHeartbeats 4000000 in
theorem x_X6_yearStart {G : Gx} {K : Rs → Mm → Prop} {M : Mm} {a0 : Int32} (h : V_X6_yearStart K M a0) : MC G mi_X6_yearStart [.int a0] M K := by
  unfold V_X6_yearStart at h
  refine mc_of rfl (by decide +kernel) dc_X6_yearStart (Nat.le_of_ble_eq_true rfl) 1 (Nat.le_of_ble_eq_true rfl) ?_
  show E G mi_X6_yearStart K M 0 0 0 [some (.int a0), none] []
  refine e_blk 11 0 _ _ (pc' := 15) (L' := [some (.int a0), some (.int (a0 - (1 : Int32)))]) (st' := [.int (4 : Int32), .int (a0 - (1 : Int32)), .int ((365 : Int32) * (a0 - (1900 : Int32)))]) rfl ?_
  generalize hx_x1 : ((a0 - (1 : Int32)) : Int32) = x1
  replace h := h x1 hx_x1.symm
  refine e_idiv rfl (by decide) ?_
  refine e_blk 3 16 _ _ (pc' := 20) (L' := [some (.int a0), some (.int x1)]) (st' := [.int (100 : Int32), .int x1, .int (((365 : Int32) * (a0 - (1900 : Int32))) + (x1 / (4 : Int32)))]) rfl ?_
  refine e_idiv rfl (by decide) ?_
  refine e_blk 3 21 _ _ (pc' := 26) (L' := [some (.int a0), some (.int x1)]) (st' := [.int (400 : Int32), .int x1, .int ((((365 : Int32) * (a0 - (1900 : Int32))) + (x1 / (4 : Int32))) - (x1 / (100 : Int32)))]) rfl ?_
  refine e_idiv rfl (by decide) ?_
  refine e_blk 3 27 _ _ (pc' := 32) (L' := [some (.int a0), some (.int x1)]) (st' := [.int ((((((365 : Int32) * (a0 - (1900 : Int32))) + (x1 / (4 : Int32))) - (x1 / (100 : Int32))) + (x1 / (400 : Int32))) - (460 : Int32))]) rfl ?_
  exact e_reti rfl rfl (by decide) (by decide) h
def V_X6_daysOfMonth_74 (K : Rs → Mm → Prop)  (M : Mm) (s0 : Int32) : Prop := K (.inl (some (.int s0))) M
set_option maxRecDepth 100000 in
set_option maxHeartbeats 4000000 in
theorem x_X6_daysOfMonth_74 {G : Gx} {K : Rs → Mm → Prop}  {M : Mm} {s0 : Int32} (h : V_X6_daysOfMonth_74 K  M s0) : E G mi_X6_daysOfMonth K M 0 0 74 [none, none, none] [.int s0] := by
  unfold V_X6_daysOfMonth_74 at h
  exact e_reti rfl rfl (by decide) (by decide) h
def V_X6_daysOfMonth_67 (K : Rs → Mm → Prop)  (M : Mm)  : Prop := V_X6_daysOfMonth_74 K  M (30 : Int32)
set_option maxRecDepth 100000 in
set_option maxHeartbeats 4000000 in
theorem x_X6_daysOfMonth_67 {G : Gx} {K : Rs → Mm → Prop}  {M : Mm}  (h : V_X6_daysOfMonth_67 K  M ) : E G mi_X6_daysOfMonth K M 0 0 67 [none, none, none] [] := by
  unfold V_X6_daysOfMonth_67 at h
  refine e_blk 2 67 _ _ (pc' := 74) (L' := [none, none, none]) (st' := [.int (30 : Int32)]) rfl ?_
  refine e_drp [false, false, false] (L' := [none, none, none]) rfl ?_
  exact x_X6_daysOfMonth_74  h
def V_X6_daysOfMonth_43 (K : Rs → Mm → Prop)  (M : Mm) (s0 : Int32) : Prop := K (.inl (some (.int s0))) M
set_option maxRecDepth 100000 in
set_option maxHeartbeats 4000000 in
theorem x_X6_daysOfMonth_43 {G : Gx} {K : Rs → Mm → Prop}  {M : Mm} {s0 : Int32} (h : V_X6_daysOfMonth_43 K  M s0) : E G mi_X6_daysOfMonth K M 0 0 43 [none, none, none] [.int s0] := by
  unfold V_X6_daysOfMonth_43 at h
  exact e_reti rfl rfl (by decide) (by decide) h
def V_X6_daysOfMonth_31 (K : Rs → Mm → Prop)  (M : Mm) (s0 : Int32) : Prop := ((s0 = 0 → V_X6_daysOfMonth_43 K  M (28 : Int32)) ∧ (¬ s0 = 0 → V_X6_daysOfMonth_43 K  M (29 : Int32)))
set_option maxRecDepth 100000 in
set_option maxHeartbeats 4000000 in
theorem x_X6_daysOfMonth_31 {G : Gx} {K : Rs → Mm → Prop}  {M : Mm} {s0 : Int32} (h : V_X6_daysOfMonth_31 K  M s0) : E G mi_X6_daysOfMonth K M 0 0 31 [none, none, none] [.int s0] := by
  unfold V_X6_daysOfMonth_31 at h
  refine e_blk 2 31 _ _ (pc' := 33) (L' := [none, none, some (.int s0)]) (st' := [.int s0]) rfl ?_
  refine e_if_eq 41 rfl rfl (fun hc => ?_) (fun hc => ?_)
  · replace h := h.1 hc
    refine e_blk 1 41 _ _ (pc' := 43) (L' := [none, none, some (.int s0)]) (st' := [.int (28 : Int32)]) rfl ?_
    refine e_drp [false, false, false] (L' := [none, none, none]) rfl ?_
    exact x_X6_daysOfMonth_43  h
  · replace h := h.2 hc
    refine e_blk 2 36 _ _ (pc' := 43) (L' := [none, none, some (.int s0)]) (st' := [.int (29 : Int32)]) rfl ?_
    refine e_drp [false, false, false] (L' := [none, none, none]) rfl ?_
    exact x_X6_daysOfMonth_43  h
def V_X6_daysOfMonth_30 (K : Rs → Mm → Prop)  (M : Mm)  : Prop := V_X6_daysOfMonth_31 K  M (0 : Int32)
set_option maxRecDepth 100000 in
set_option maxHeartbeats 4000000 in
theorem x_X6_daysOfMonth_30 {G : Gx} {K : Rs → Mm → Prop}  {M : Mm}  (h : V_X6_daysOfMonth_30 K  M ) : E G mi_X6_daysOfMonth K M 0 0 30 [none, none, none] [] := by
  unfold V_X6_daysOfMonth_30 at h
  refine e_blk 1 30 _ _ (pc' := 31) (L' := [none, none, none]) (st' := [.int (0 : Int32)]) rfl ?_
  refine e_drp [false, false, false] (L' := [none, none, none]) rfl ?_
  exact x_X6_daysOfMonth_31  h
def V_X6_daysOfMonth_26 (K : Rs → Mm → Prop)  (M : Mm)  : Prop := V_X6_daysOfMonth_31 K  M (1 : Int32)
set_option maxRecDepth 100000 in
set_option maxHeartbeats 4000000 in
theorem x_X6_daysOfMonth_26 {G : Gx} {K : Rs → Mm → Prop}  {M : Mm}  (h : V_X6_daysOfMonth_26 K  M ) : E G mi_X6_daysOfMonth K M 0 0 26 [none, none, none] [] := by
  unfold V_X6_daysOfMonth_26 at h
  refine e_blk 2 26 _ _ (pc' := 31) (L' := [none, none, none]) (st' := [.int (1 : Int32)]) rfl ?_
  refine e_drp [false, false, false] (L' := [none, none, none]) rfl ?_
  exact x_X6_daysOfMonth_31  h
def V_X6_daysOfMonth (K : Rs → Mm → Prop) (M : Mm) (a0 : Int32) (a1 : Int32) : Prop := ((¬ a1 = (2 : Int32) → ((a1 = (4 : Int32) → V_X6_daysOfMonth_67 K  M ) ∧ (¬ a1 = (4 : Int32) → ((a1 = (6 : Int32) → V_X6_daysOfMonth_67 K  M ) ∧ (¬ a1 = (6 : Int32) → ((a1 = (9 : Int32) → V_X6_daysOfMonth_67 K  M ) ∧ (¬ a1 = (9 : Int32) → ((¬ a1 = (11 : Int32) → V_X6_daysOfMonth_74 K  M (31 : Int32)) ∧ (a1 = (11 : Int32) → V_X6_daysOfMonth_67 K  M ))))))))) ∧ (a1 = (2 : Int32) → ((¬ (a0 - a0 / (4 : Int32) * (4 : Int32)) = 0 → V_X6_daysOfMonth_30 K  M ) ∧ ((a0 - a0 / (4 : Int32) * (4 : Int32)) = 0 → ((¬ (a0 - a0 / (100 : Int32) * (100 : Int32)) = 0 → V_X6_daysOfMonth_26 K  M ) ∧ ((a0 - a0 / (100 : Int32) * (100 : Int32)) = 0 → ((¬ (a0 - a0 / (400 : Int32) * (400 : Int32)) = 0 → V_X6_daysOfMonth_30 K  M ) ∧ ((a0 - a0 / (400 : Int32) * (400 : Int32)) = 0 → V_X6_daysOfMonth_26 K  M ))))))))
set_option maxRecDepth 100000 in
set_option maxHeartbeats 4000000 in
theorem x_X6_daysOfMonth {G : Gx} {K : Rs → Mm → Prop} {M : Mm} {a0 : Int32} {a1 : Int32} (h : V_X6_daysOfMonth K M a0 a1) : MC G mi_X6_daysOfMonth [.int a0, .int a1] M K := by
  unfold V_X6_daysOfMonth at h
  refine mc_of rfl (by decide +kernel) dc_X6_daysOfMonth (Nat.le_of_ble_eq_true rfl) 1 (Nat.le_of_ble_eq_true rfl) ?_
  show E G mi_X6_daysOfMonth K M 0 0 0 [some (.int a0), some (.int a1), none] []
  refine e_blk 2 0 _ _ (pc' := 2) (L' := [some (.int a0), some (.int a1), none]) (st' := [.int (2 : Int32), .int a1]) rfl ?_
  refine e_icmp_ne 44 rfl rfl (fun hc => ?_) (fun hc => ?_)
  · replace h := h.1 hc
    refine e_blk 2 44 _ _ (pc' := 46) (L' := [some (.int a0), some (.int a1), none]) (st' := [.int (4 : Int32), .int a1]) rfl ?_
    refine e_icmp_eq 67 rfl rfl (fun hc => ?_) (fun hc => ?_)
    · replace h := h.1 hc
      refine e_drp [false, false, false] (L' := [none, none, none]) rfl ?_
      exact x_X6_daysOfMonth_67  h
    · replace h := h.2 hc
      refine e_blk 2 49 _ _ (pc' := 52) (L' := [some (.int a0), some (.int a1), none]) (st' := [.int (6 : Int32), .int a1]) rfl ?_
      refine e_icmp_eq 67 rfl rfl (fun hc => ?_) (fun hc => ?_)
      · replace h := h.1 hc
        refine e_drp [false, false, false] (L' := [none, none, none]) rfl ?_
        exact x_X6_daysOfMonth_67  h
      · replace h := h.2 hc
        refine e_blk 2 55 _ _ (pc' := 58) (L' := [some (.int a0), some (.int a1), none]) (st' := [.int (9 : Int32), .int a1]) rfl ?_
        refine e_icmp_eq 67 rfl rfl (fun hc => ?_) (fun hc => ?_)
        · replace h := h.1 hc
          refine e_drp [false, false, false] (L' := [none, none, none]) rfl ?_
          exact x_X6_daysOfMonth_67  h
        · replace h := h.2 hc
          refine e_blk 2 61 _ _ (pc' := 64) (L' := [some (.int a0), some (.int a1), none]) (st' := [.int (11 : Int32), .int a1]) rfl ?_
          refine e_icmp_ne 72 rfl rfl (fun hc => ?_) (fun hc => ?_)
          · replace h := h.1 hc
            refine e_blk 1 72 _ _ (pc' := 74) (L' := [some (.int a0), some (.int a1), none]) (st' := [.int (31 : Int32)]) rfl ?_
            refine e_drp [false, false, false] (L' := [none, none, none]) rfl ?_
            exact x_X6_daysOfMonth_74  h
          · replace h := h.2 hc
            refine e_drp [false, false, false] (L' := [none, none, none]) rfl ?_
            exact x_X6_daysOfMonth_67  h
  · replace h := h.2 hc
    refine e_blk 2 5 _ _ (pc' := 7) (L' := [some (.int a0), some (.int a1), none]) (st' := [.int (4 : Int32), .int a0]) rfl ?_
    refine e_irem rfl (by decide) ?_
    refine e_if_ne 30 rfl rfl (fun hc => ?_) (fun hc => ?_)
    · replace h := h.1 hc
      refine e_drp [false, false, false] (L' := [none, none, none]) rfl ?_
      exact x_X6_daysOfMonth_30  h
    · replace h := h.2 hc
      refine e_blk 2 11 _ _ (pc' := 14) (L' := [some (.int a0), some (.int a1), none]) (st' := [.int (100 : Int32), .int a0]) rfl ?_
      refine e_irem rfl (by decide) ?_
      refine e_if_ne 26 rfl rfl (fun hc => ?_) (fun hc => ?_)
      · replace h := h.1 hc
        refine e_drp [false, false, false] (L' := [none, none, none]) rfl ?_
        exact x_X6_daysOfMonth_26  h
      · replace h := h.2 hc
        refine e_blk 2 18 _ _ (pc' := 22) (L' := [some (.int a0), some (.int a1), none]) (st' := [.int (400 : Int32), .int a0]) rfl ?_
        refine e_irem rfl (by decide) ?_
        refine e_if_ne 30 rfl rfl (fun hc => ?_) (fun hc => ?_)
        · replace h := h.1 hc
          refine e_drp [false, false, false] (L' := [none, none, none]) rfl ?_
          exact x_X6_daysOfMonth_30  h
        · replace h := h.2 hc
          refine e_drp [false, false, false] (L' := [none, none, none]) rfl ?_
          exact x_X6_daysOfMonth_26  h
def V_J9_floorMod_7cf53_18 (K : Rs → Mm → Prop)  (M : Mm) (l2 : Int32) : Prop := K (.inl (some (.int l2))) M
set_option maxRecDepth 100000 in
set_option maxHeartbeats 4000000 in
theorem x_J9_floorMod_7cf53_18 {G : Gx} {K : Rs → Mm → Prop}  {M : Mm} {l2 : Int32} (h : V_J9_floorMod_7cf53_18 K  M l2) : E G mi_J9_floorMod_7cf53 K M 0 0 18 [none, none, some (.int l2)] [] := by
  unfold V_J9_floorMod_7cf53_18 at h
  refine e_blk 1 18 _ _ (pc' := 19) (L' := [none, none, some (.int l2)]) (st' := [.int l2]) rfl ?_
  exact e_reti rfl rfl (by decide) (by decide) h
def V_J9_floorMod_7cf53 (K : Rs → Mm → Prop) (M : Mm) (a0 : Int32) (a1 : Int32) : Prop := (¬ a1 = 0 ∧ ∀ x1 : Int32, x1 = (a0 - a0 / a1 * a1) → ((0 ≤ (a0 ^^^ a1) → V_J9_floorMod_7cf53_18 K  M x1) ∧ (¬ 0 ≤ (a0 ^^^ a1) → ((x1 = 0 → V_J9_floorMod_7cf53_18 K  M x1) ∧ (¬ x1 = 0 → K (.inl (some (.int (x1 + a1)))) M)))))
set_option maxRecDepth 100000 in
set_option maxHeartbeats 4000000 in
theorem x_J9_floorMod_7cf53 {G : Gx} {K : Rs → Mm → Prop} {M : Mm} {a0 : Int32} {a1 : Int32} (h : V_J9_floorMod_7cf53 K M a0 a1) : MC G mi_J9_floorMod_7cf53 [.int a0, .int a1] M K := by
  unfold V_J9_floorMod_7cf53 at h
  refine mc_of rfl (by decide +kernel) dc_J9_floorMod_7cf53 (Nat.le_of_ble_eq_true rfl) 1 (Nat.le_of_ble_eq_true rfl) ?_
  show E G mi_J9_floorMod_7cf53 K M 0 0 0 [some (.int a0), some (.int a1), none] []
  refine e_blk 2 0 _ _ (pc' := 2) (L' := [some (.int a0), some (.int a1), none]) (st' := [.int a1, .int a0]) rfl ?_
  refine e_irem rfl h.1 ?_
  replace h := h.2
  refine e_blk 4 3 _ _ (pc' := 7) (L' := [some (.int a0), some (.int a1), some (.int (a0 - a0 / a1 * a1))]) (st' := [.int (a0 ^^^ a1)]) rfl ?_
  generalize hx_x1 : ((a0 - a0 / a1 * a1) : Int32) = x1
  replace h := h x1 hx_x1.symm
  refine e_if_ge 18 rfl rfl (fun hc => ?_) (fun hc => ?_)
  · replace h := h.1 hc
    refine e_drp [false, false, true] (L' := [none, none, some (.int x1)]) rfl ?_
    exact x_J9_floorMod_7cf53_18  h
  · replace h := h.2 hc
    refine e_blk 1 10 _ _ (pc' := 11) (L' := [some (.int a0), some (.int a1), some (.int x1)]) (st' := [.int x1]) rfl ?_
    refine e_if_eq 18 rfl rfl (fun hc => ?_) (fun hc => ?_)
    · replace h := h.1 hc
      refine e_drp [false, false, true] (L' := [none, none, some (.int x1)]) rfl ?_
      exact x_J9_floorMod_7cf53_18  h
    · replace h := h.2 hc
      refine e_blk 3 14 _ _ (pc' := 17) (L' := [some (.int a0), some (.int a1), some (.int x1)]) (st' := [.int (x1 + a1)]) rfl ?_
      exact e_reti rfl rfl (by decide) (by decide) h
def V_X6_monthStart_32 (K : Rs → Mm → Prop)  (M : Mm) (l2 : Int32) : Prop := K (.inl (some (.int l2))) M
set_option maxRecDepth 100000 in
set_option maxHeartbeats 4000000 in
theorem x_X6_monthStart_32 {G : Gx} {K : Rs → Mm → Prop}  {M : Mm} {l2 : Int32} (h : V_X6_monthStart_32 K  M l2) : E G mi_X6_monthStart K M 0 0 32 [none, none, some (.int l2), none] [] := by
  unfold V_X6_monthStart_32 at h
  refine e_blk 1 32 _ _ (pc' := 33) (L' := [none, none, some (.int l2), none]) (st' := [.int l2]) rfl ?_
  exact e_reti rfl rfl (by decide) (by decide) h
def V_X6_monthStart_7 (K : Rs → Mm → Prop)  : Nat → Mm → Int32 → Int32 → Int32 → Int32 → Prop
  | 0, _, _, _, _, _ => False
  | z + 1, M, l0, l1, l2, l3 => ((l1 ≤ l3 → V_X6_monthStart_32 K  M l2) ∧ (¬ l1 ≤ l3 → (((12 : Int32) ≤ l3 → V_X6_monthStart_32 K  M l2) ∧ (¬ (12 : Int32) ≤ l3 → V_X6_daysOfMonth (kI (fun r2 M1 => ∀ x3 : Int32, x3 = (l2 + r2) → ∀ x4 : Int32, x4 = (l3 + (1 : Int32)) → V_X6_monthStart_7 K  z M1 l0 l1 x3 x4) (fun _ _ => False)) M l0 l3))))
set_option maxRecDepth 100000 in
set_option maxHeartbeats 4000000 in
theorem x_X6_monthStart_7 {G : Gx} {K : Rs → Mm → Prop}  : ∀ (z : Nat) (M : Mm) (l0 : Int32) (l1 : Int32) (l2 : Int32) (l3 : Int32), V_X6_monthStart_7 K  z M l0 l1 l2 l3 → E G mi_X6_monthStart K M 0 0 7 [some (.int l0), some (.int l1), some (.int l2), some (.int l3)] []
  | 0, M, l0, l1, l2, l3, h => False.elim h
  | z + 1, M, l0, l1, l2, l3, h => by
    unfold V_X6_monthStart_7 at h
    refine e_blk 2 7 _ _ (pc' := 9) (L' := [some (.int l0), some (.int l1), some (.int l2), some (.int l3)]) (st' := [.int l1, .int l3]) rfl ?_
    refine e_icmp_ge 32 rfl rfl (fun hc => ?_) (fun hc => ?_)
    · replace h := h.1 hc
      refine e_drp [false, false, true, false] (L' := [none, none, some (.int l2), none]) rfl ?_
      exact x_X6_monthStart_32  h
    · replace h := h.2 hc
      refine e_blk 2 12 _ _ (pc' := 15) (L' := [some (.int l0), some (.int l1), some (.int l2), some (.int l3)]) (st' := [.int (12 : Int32), .int l3]) rfl ?_
      refine e_icmp_ge 32 rfl rfl (fun hc => ?_) (fun hc => ?_)
      · replace h := h.1 hc
        refine e_drp [false, false, true, false] (L' := [none, none, some (.int l2), none]) rfl ?_
        exact x_X6_monthStart_32  h
      · replace h := h.2 hc
        refine e_blk 3 18 _ _ (pc' := 21) (L' := [some (.int l0), some (.int l1), some (.int l2), some (.int l3)]) (st' := [.int l3, .int l0, .int l2]) rfl ?_
        refine e_callS (As := [.int l0, .int l3]) (rest := [.int l2]) rfl (x_X6_daysOfMonth h) rfl (aw (i := 558) (by decide +kernel) rfl) ws_X6_daysOfMonth wi_X6_daysOfMonth wc_X6_daysOfMonth (show cok mi_X6_monthStart mi_X6_daysOfMonth 0 0 2 = true by decide +kernel) (Nat.le_of_ble_eq_true rfl) (fun v9 M1 hq => ?_) (fun X M9 hq => False.elim hq)
        obtain ⟨r2, rfl, h⟩ := kI_l hq
        refine e_blk 4 24 _ _ (pc' := 7) (L' := [some (.int l0), some (.int l1), some (.int (l2 + r2)), some (.int (l3 + (1 : Int32)))]) (st' := []) rfl ?_
        generalize hx_x3 : ((l2 + r2) : Int32) = x3
        replace h := h x3 hx_x3.symm
        generalize hx_x4 : ((l3 + (1 : Int32)) : Int32) = x4
        replace h := h x4 hx_x4.symm
        refine e_drp [true, true, true, true] (L' := [some (.int l0), some (.int l1), some (.int x3), some (.int x4)]) rfl ?_
        exact x_X6_monthStart_7  z _ _ _ _ _ h
def V_X6_monthStart (K : Rs → Mm → Prop) (M : Mm) (a0 : Int32) (a1 : Int32) : Prop := V_X6_yearStart (kI (fun r2 M1 => ∃ y, V_X6_monthStart_7 K  y M1 a0 a1 r2 (1 : Int32)) (fun _ _ => False)) M a0
set_option maxRecDepth 100000 in
set_option maxHeartbeats 4000000 in
theorem x_X6_monthStart {G : Gx} {K : Rs → Mm → Prop} {M : Mm} {a0 : Int32} {a1 : Int32} (h : V_X6_monthStart K M a0 a1) : MC G mi_X6_monthStart [.int a0, .int a1] M K := by
  unfold V_X6_monthStart at h
  refine mc_of rfl (by decide +kernel) dc_X6_monthStart (Nat.le_of_ble_eq_true rfl) 2 (Nat.le_of_ble_eq_true rfl) ?_
  show E G mi_X6_monthStart K M 0 0 0 [some (.int a0), some (.int a1), none, none] []
  refine e_blk 1 0 _ _ (pc' := 1) (L' := [some (.int a0), some (.int a1), none, none]) (st' := [.int a0]) rfl ?_
  refine e_callS (As := [.int a0]) (rest := []) rfl (x_X6_yearStart h) rfl (aw (i := 547) (by decide +kernel) rfl) ws_X6_yearStart wi_X6_yearStart wc_X6_yearStart (show cok mi_X6_monthStart mi_X6_yearStart 0 0 1 = true by decide +kernel) (Nat.le_of_ble_eq_true rfl) (fun v9 M1 hq => ?_) (fun X M9 hq => False.elim hq)
  obtain ⟨r2, rfl, h⟩ := kI_l hq
  refine e_blk 3 4 _ _ (pc' := 7) (L' := [some (.int a0), some (.int a1), some (.int r2), some (.int (1 : Int32))]) (st' := []) rfl ?_
  refine e_drp [true, true, true, true] (L' := [some (.int a0), some (.int a1), some (.int r2), some (.int (1 : Int32))]) rfl ?_
  obtain ⟨y, h⟩ := h
  exact x_X6_monthStart_7  y _ _ _ _ _ h
def V_J9_max_7cf53_10 (K : Rs → Mm → Prop)  (M : Mm) (s0 : Int32) : Prop := K (.inl (some (.int s0))) M
set_option maxRecDepth 100000 in
set_option maxHeartbeats 4000000 in
theorem x_J9_max_7cf53_10 {G : Gx} {K : Rs → Mm → Prop}  {M : Mm} {s0 : Int32} (h : V_J9_max_7cf53_10 K  M s0) : E G mi_J9_max_7cf53 K M 0 0 10 [none, none] [.int s0] := by
  unfold V_J9_max_7cf53_10 at h
  exact e_reti rfl rfl (by decide) (by decide) h
def V_J9_max_7cf53 (K : Rs → Mm → Prop) (M : Mm) (a0 : Int32) (a1 : Int32) : Prop := ((a0 < a1 → V_J9_max_7cf53_10 K  M a1) ∧ (¬ a0 < a1 → V_J9_max_7cf53_10 K  M a0))
set_option maxRecDepth 100000 in
set_option maxHeartbeats 4000000 in
theorem x_J9_max_7cf53 {G : Gx} {K : Rs → Mm → Prop} {M : Mm} {a0 : Int32} {a1 : Int32} (h : V_J9_max_7cf53 K M a0 a1) : MC G mi_J9_max_7cf53 [.int a0, .int a1] M K := by
  unfold V_J9_max_7cf53 at h
  refine mc_of rfl (by decide +kernel) dc_J9_max_7cf53 (Nat.le_of_ble_eq_true rfl) 0 (Nat.le_of_ble_eq_true rfl) ?_
  show E G mi_J9_max_7cf53 K M 0 0 0 [some (.int a0), some (.int a1)] []
  refine e_blk 2 0 _ _ (pc' := 2) (L' := [some (.int a0), some (.int a1)]) (st' := [.int a1, .int a0]) rfl ?_
  refine e_icmp_lt 9 rfl rfl (fun hc => ?_) (fun hc => ?_)
  · replace h := h.1 hc
    refine e_blk 1 9 _ _ (pc' := 10) (L' := [some (.int a0), some (.int a1)]) (st' := [.int a1]) rfl ?_
    refine e_drp [false, false] (L' := [none, none]) rfl ?_
    exact x_J9_max_7cf53_10  h
  · replace h := h.2 hc
    refine e_blk 2 5 _ _ (pc' := 10) (L' := [some (.int a0), some (.int a1)]) (st' := [.int a0]) rfl ?_
    refine e_drp [false, false] (L' := [none, none]) rfl ?_
    exact x_J9_max_7cf53_10  h
def V_J9_min_7cf53_10 (K : Rs → Mm → Prop)  (M : Mm) (s0 : Int32) : Prop := K (.inl (some (.int s0))) M
set_option maxRecDepth 100000 in
set_option maxHeartbeats 4000000 in
theorem x_J9_min_7cf53_10 {G : Gx} {K : Rs → Mm → Prop}  {M : Mm} {s0 : Int32} (h : V_J9_min_7cf53_10 K  M s0) : E G mi_J9_min_7cf53 K M 0 0 10 [none, none] [.int s0] := by
  unfold V_J9_min_7cf53_10 at h
  exact e_reti rfl rfl (by decide) (by decide) h
def V_J9_min_7cf53 (K : Rs → Mm → Prop) (M : Mm) (a0 : Int32) (a1 : Int32) : Prop := ((a1 < a0 → V_J9_min_7cf53_10 K  M a1) ∧ (¬ a1 < a0 → V_J9_min_7cf53_10 K  M a0))
set_option maxRecDepth 100000 in
set_option maxHeartbeats 4000000 in
theorem x_J9_min_7cf53 {G : Gx} {K : Rs → Mm → Prop} {M : Mm} {a0 : Int32} {a1 : Int32} (h : V_J9_min_7cf53 K M a0 a1) : MC G mi_J9_min_7cf53 [.int a0, .int a1] M K := by
  unfold V_J9_min_7cf53 at h
  refine mc_of rfl (by decide +kernel) dc_J9_min_7cf53 (Nat.le_of_ble_eq_true rfl) 0 (Nat.le_of_ble_eq_true rfl) ?_
  show E G mi_J9_min_7cf53 K M 0 0 0 [some (.int a0), some (.int a1)] []
  refine e_blk 2 0 _ _ (pc' := 2) (L' := [some (.int a0), some (.int a1)]) (st' := [.int a1, .int a0]) rfl ?_
  refine e_icmp_gt 9 rfl rfl (fun hc => ?_) (fun hc => ?_)
  · replace h := h.1 hc
    refine e_blk 1 9 _ _ (pc' := 10) (L' := [some (.int a0), some (.int a1)]) (st' := [.int a1]) rfl ?_
    refine e_drp [false, false] (L' := [none, none]) rfl ?_
    exact x_J9_min_7cf53_10  h
  · replace h := h.2 hc
    refine e_blk 2 5 _ _ (pc' := 10) (L' := [some (.int a0), some (.int a1)]) (st' := [.int a0]) rfl ?_
    refine e_drp [false, false] (L' := [none, none]) rfl ?_
    exact x_J9_min_7cf53_10  h
def V_X6_below (K : Rs → Mm → Prop) (M : Mm) (a0 : Int32) : Prop := K (.inl (some (.long (((1 : Int64) <<< ((a0).toInt64 &&& 63)) - (1 : Int64))))) M
set_option maxRecDepth 100000 in
set_option maxHeartbeats 4000000 in
theorem x_X6_below {G : Gx} {K : Rs → Mm → Prop} {M : Mm} {a0 : Int32} (h : V_X6_below K M a0) : MC G mi_X6_below [.int a0] M K := by
  unfold V_X6_below at h
  refine mc_of rfl (by decide +kernel) dc_X6_below (Nat.le_of_ble_eq_true rfl) 0 (Nat.le_of_ble_eq_true rfl) ?_
  show E G mi_X6_below K M 0 0 0 [some (.int a0)] []
  refine e_blk 5 0 _ _ (pc' := 5) (L' := [some (.int a0)]) (st' := [.long (((1 : Int64) <<< ((a0).toInt64 &&& 63)) - (1 : Int64))]) rfl ?_
  exact e_retl rfl rfl (by decide) (by decide) h
def V_X6_holds_25 (K : Rs → Mm → Prop)  (M : Mm) (s0 : Int32) : Prop := ((s0 = 0 ∨ s0 = 1) ∧ K (.inl (some (.int s0))) M)
set_option maxRecDepth 100000 in
set_option maxHeartbeats 4000000 in
theorem x_X6_holds_25 {G : Gx} {K : Rs → Mm → Prop}  {M : Mm} {s0 : Int32} (h : V_X6_holds_25 K  M s0) : E G mi_X6_holds K M 0 0 25 [none, none, none] [.int s0] := by
  unfold V_X6_holds_25 at h
  exact e_retz rfl rfl h.1 (by decide) (by decide) h.2
def V_X6_holds_24 (K : Rs → Mm → Prop)  (M : Mm)  : Prop := V_X6_holds_25 K  M (0 : Int32)
set_option maxRecDepth 100000 in
set_option maxHeartbeats 4000000 in
theorem x_X6_holds_24 {G : Gx} {K : Rs → Mm → Prop}  {M : Mm}  (h : V_X6_holds_24 K  M ) : E G mi_X6_holds K M 0 0 24 [none, none, none] [] := by
  unfold V_X6_holds_24 at h
  refine e_blk 1 24 _ _ (pc' := 25) (L' := [none, none, none]) (st' := [.int (0 : Int32)]) rfl ?_
  refine e_drp [false, false, false] (L' := [none, none, none]) rfl ?_
  exact x_X6_holds_25  h
def V_X6_holds (K : Rs → Mm → Prop) (M : Mm) (a0 : Int64) (a1 : Int32) : Prop := ((a1 < 0 → V_X6_holds_24 K  M ) ∧ (¬ a1 < 0 → (((64 : Int32) ≤ a1 → V_X6_holds_24 K  M ) ∧ (¬ (64 : Int32) ≤ a1 → (((lg_cmp ((((a0).toUInt64 >>> ((a1).toInt64.toUInt64 &&& Int64.toUInt64 63)).toInt64) &&& (1 : Int64)) (0 : Int64)) = 0 → V_X6_holds_24 K  M ) ∧ (¬ (lg_cmp ((((a0).toUInt64 >>> ((a1).toInt64.toUInt64 &&& Int64.toUInt64 63)).toInt64) &&& (1 : Int64)) (0 : Int64)) = 0 → V_X6_holds_25 K  M (1 : Int32)))))))
set_option maxRecDepth 100000 in
set_option maxHeartbeats 4000000 in
theorem x_X6_holds {G : Gx} {K : Rs → Mm → Prop} {M : Mm} {a0 : Int64} {a1 : Int32} (h : V_X6_holds K M a0 a1) : MC G mi_X6_holds [.long a0, .int a1] M K := by
  unfold V_X6_holds at h
  refine mc_of rfl (by decide +kernel) dc_X6_holds (Nat.le_of_ble_eq_true rfl) 0 (Nat.le_of_ble_eq_true rfl) ?_
  show E G mi_X6_holds K M 0 0 0 [some (.long a0), none, some (.int a1)] []
  refine e_blk 1 0 _ _ (pc' := 1) (L' := [some (.long a0), none, some (.int a1)]) (st' := [.int a1]) rfl ?_
  refine e_if_lt 24 rfl rfl (fun hc => ?_) (fun hc => ?_)
  · replace h := h.1 hc
    refine e_drp [false, false, false] (L' := [none, none, none]) rfl ?_
    exact x_X6_holds_24  h
  · replace h := h.2 hc
    refine e_blk 2 4 _ _ (pc' := 7) (L' := [some (.long a0), none, some (.int a1)]) (st' := [.int (64 : Int32), .int a1]) rfl ?_
    refine e_icmp_ge 24 rfl rfl (fun hc => ?_) (fun hc => ?_)
    · replace h := h.1 hc
      refine e_drp [false, false, false] (L' := [none, none, none]) rfl ?_
      exact x_X6_holds_24  h
    · replace h := h.2 hc
      refine e_blk 7 10 _ _ (pc' := 17) (L' := [some (.long a0), none, some (.int a1)]) (st' := [.int (lg_cmp ((((a0).toUInt64 >>> ((a1).toInt64.toUInt64 &&& Int64.toUInt64 63)).toInt64) &&& (1 : Int64)) (0 : Int64))]) rfl ?_
      refine e_if_eq 24 rfl rfl (fun hc => ?_) (fun hc => ?_)
      · replace h := h.1 hc
        refine e_drp [false, false, false] (L' := [none, none, none]) rfl ?_
        exact x_X6_holds_24  h
      · replace h := h.2 hc
        refine e_blk 2 20 _ _ (pc' := 25) (L' := [some (.long a0), none, some (.int a1)]) (st' := [.int (1 : Int32)]) rfl ?_
        refine e_drp [false, false, false] (L' := [none, none, none]) rfl ?_
        exact x_X6_holds_25  h
def V_J13_bitCount_95d88 (K : Rs → Mm → Prop) (M : Mm) (a0 : Int64) : Prop := ∀ x1 : Int64, x1 = (a0 - ((((a0).toUInt64 >>> (((1 : Int32)).toInt64.toUInt64 &&& Int64.toUInt64 63)).toInt64) &&& (6148914691236517205 : Int64))) → ∀ x2 : Int64, x2 = ((x1 &&& (3689348814741910323 : Int64)) + ((((x1).toUInt64 >>> (((2 : Int32)).toInt64.toUInt64 &&& Int64.toUInt64 63)).toInt64) &&& (3689348814741910323 : Int64))) → ∀ x3 : Int64, x3 = (((((x2 + (((x2).toUInt64 >>> (((4 : Int32)).toInt64.toUInt64 &&& Int64.toUInt64 63)).toInt64)) &&& (1085102592571150095 : Int64)) + (((((x2 + (((x2).toUInt64 >>> (((4 : Int32)).toInt64.toUInt64 &&& Int64.toUInt64 63)).toInt64)) &&& (1085102592571150095 : Int64))).toUInt64 >>> (((8 : Int32)).toInt64.toUInt64 &&& Int64.toUInt64 63)).toInt64)) + ((((((x2 + (((x2).toUInt64 >>> (((4 : Int32)).toInt64.toUInt64 &&& Int64.toUInt64 63)).toInt64)) &&& (1085102592571150095 : Int64)) + (((((x2 + (((x2).toUInt64 >>> (((4 : Int32)).toInt64.toUInt64 &&& Int64.toUInt64 63)).toInt64)) &&& (1085102592571150095 : Int64))).toUInt64 >>> (((8 : Int32)).toInt64.toUInt64 &&& Int64.toUInt64 63)).toInt64))).toUInt64 >>> (((16 : Int32)).toInt64.toUInt64 &&& Int64.toUInt64 63)).toInt64)) + (((((((x2 + (((x2).toUInt64 >>> (((4 : Int32)).toInt64.toUInt64 &&& Int64.toUInt64 63)).toInt64)) &&& (1085102592571150095 : Int64)) + (((((x2 + (((x2).toUInt64 >>> (((4 : Int32)).toInt64.toUInt64 &&& Int64.toUInt64 63)).toInt64)) &&& (1085102592571150095 : Int64))).toUInt64 >>> (((8 : Int32)).toInt64.toUInt64 &&& Int64.toUInt64 63)).toInt64)) + ((((((x2 + (((x2).toUInt64 >>> (((4 : Int32)).toInt64.toUInt64 &&& Int64.toUInt64 63)).toInt64)) &&& (1085102592571150095 : Int64)) + (((((x2 + (((x2).toUInt64 >>> (((4 : Int32)).toInt64.toUInt64 &&& Int64.toUInt64 63)).toInt64)) &&& (1085102592571150095 : Int64))).toUInt64 >>> (((8 : Int32)).toInt64.toUInt64 &&& Int64.toUInt64 63)).toInt64))).toUInt64 >>> (((16 : Int32)).toInt64.toUInt64 &&& Int64.toUInt64 63)).toInt64))).toUInt64 >>> (((32 : Int32)).toInt64.toUInt64 &&& Int64.toUInt64 63)).toInt64)) → K (.inl (some (.int (((x3).toInt32) &&& (127 : Int32))))) M
set_option maxRecDepth 100000 in
set_option maxHeartbeats 4000000 in
theorem x_J13_bitCount_95d88 {G : Gx} {K : Rs → Mm → Prop} {M : Mm} {a0 : Int64} (h : V_J13_bitCount_95d88 K M a0) : MC G mi_J13_bitCount_95d88 [.long a0] M K := by
  unfold V_J13_bitCount_95d88 at h
  refine mc_of rfl (by decide +kernel) dc_J13_bitCount_95d88 (Nat.le_of_ble_eq_true rfl) 0 (Nat.le_of_ble_eq_true rfl) ?_
  show E G mi_J13_bitCount_95d88 K M 0 0 0 [some (.long a0), none] []
  refine e_blk 4 0 _ _ (pc' := 4) (L' := [some (.long a0), none]) (st' := [.long (((a0).toUInt64 >>> (((1 : Int32)).toInt64.toUInt64 &&& Int64.toUInt64 63)).toInt64), .long a0]) rfl ?_
  refine e_ldc2 (6148914691236517205) rfl (aw (i := 854) (by decide +kernel) rfl) ?_
  refine e_blk 4 7 _ _ (pc' := 11) (L' := [some (.long (a0 - ((((a0).toUInt64 >>> (((1 : Int32)).toInt64.toUInt64 &&& Int64.toUInt64 63)).toInt64) &&& (6148914691236517205 : Int64)))), none]) (st' := [.long (a0 - ((((a0).toUInt64 >>> (((1 : Int32)).toInt64.toUInt64 &&& Int64.toUInt64 63)).toInt64) &&& (6148914691236517205 : Int64)))]) rfl ?_
  generalize hx_x1 : ((a0 - ((((a0).toUInt64 >>> (((1 : Int32)).toInt64.toUInt64 &&& Int64.toUInt64 63)).toInt64) &&& (6148914691236517205 : Int64))) : Int64) = x1
  replace h := h x1 hx_x1.symm
  refine e_ldc2 (3689348814741910323) rfl (aw (i := 855) (by decide +kernel) rfl) ?_
  refine e_blk 4 14 _ _ (pc' := 18) (L' := [some (.long x1), none]) (st' := [.long (((x1).toUInt64 >>> (((2 : Int32)).toInt64.toUInt64 &&& Int64.toUInt64 63)).toInt64), .long (x1 &&& (3689348814741910323 : Int64))]) rfl ?_
  refine e_ldc2 (3689348814741910323) rfl (aw (i := 855) (by decide +kernel) rfl) ?_
  refine e_blk 8 21 _ _ (pc' := 29) (L' := [some (.long ((x1 &&& (3689348814741910323 : Int64)) + ((((x1).toUInt64 >>> (((2 : Int32)).toInt64.toUInt64 &&& Int64.toUInt64 63)).toInt64) &&& (3689348814741910323 : Int64)))), none]) (st' := [.long (((x1 &&& (3689348814741910323 : Int64)) + ((((x1).toUInt64 >>> (((2 : Int32)).toInt64.toUInt64 &&& Int64.toUInt64 63)).toInt64) &&& (3689348814741910323 : Int64))) + (((((x1 &&& (3689348814741910323 : Int64)) + ((((x1).toUInt64 >>> (((2 : Int32)).toInt64.toUInt64 &&& Int64.toUInt64 63)).toInt64) &&& (3689348814741910323 : Int64)))).toUInt64 >>> (((4 : Int32)).toInt64.toUInt64 &&& Int64.toUInt64 63)).toInt64))]) rfl ?_
  generalize hx_x2 : (((x1 &&& (3689348814741910323 : Int64)) + ((((x1).toUInt64 >>> (((2 : Int32)).toInt64.toUInt64 &&& Int64.toUInt64 63)).toInt64) &&& (3689348814741910323 : Int64))) : Int64) = x2
  replace h := h x2 hx_x2.symm
  refine e_ldc2 (1085102592571150095) rfl (aw (i := 856) (by decide +kernel) rfl) ?_
  refine e_blk 24 32 _ _ (pc' := 60) (L' := [some (.long (((((x2 + (((x2).toUInt64 >>> (((4 : Int32)).toInt64.toUInt64 &&& Int64.toUInt64 63)).toInt64)) &&& (1085102592571150095 : Int64)) + (((((x2 + (((x2).toUInt64 >>> (((4 : Int32)).toInt64.toUInt64 &&& Int64.toUInt64 63)).toInt64)) &&& (1085102592571150095 : Int64))).toUInt64 >>> (((8 : Int32)).toInt64.toUInt64 &&& Int64.toUInt64 63)).toInt64)) + ((((((x2 + (((x2).toUInt64 >>> (((4 : Int32)).toInt64.toUInt64 &&& Int64.toUInt64 63)).toInt64)) &&& (1085102592571150095 : Int64)) + (((((x2 + (((x2).toUInt64 >>> (((4 : Int32)).toInt64.toUInt64 &&& Int64.toUInt64 63)).toInt64)) &&& (1085102592571150095 : Int64))).toUInt64 >>> (((8 : Int32)).toInt64.toUInt64 &&& Int64.toUInt64 63)).toInt64))).toUInt64 >>> (((16 : Int32)).toInt64.toUInt64 &&& Int64.toUInt64 63)).toInt64)) + (((((((x2 + (((x2).toUInt64 >>> (((4 : Int32)).toInt64.toUInt64 &&& Int64.toUInt64 63)).toInt64)) &&& (1085102592571150095 : Int64)) + (((((x2 + (((x2).toUInt64 >>> (((4 : Int32)).toInt64.toUInt64 &&& Int64.toUInt64 63)).toInt64)) &&& (1085102592571150095 : Int64))).toUInt64 >>> (((8 : Int32)).toInt64.toUInt64 &&& Int64.toUInt64 63)).toInt64)) + ((((((x2 + (((x2).toUInt64 >>> (((4 : Int32)).toInt64.toUInt64 &&& Int64.toUInt64 63)).toInt64)) &&& (1085102592571150095 : Int64)) + (((((x2 + (((x2).toUInt64 >>> (((4 : Int32)).toInt64.toUInt64 &&& Int64.toUInt64 63)).toInt64)) &&& (1085102592571150095 : Int64))).toUInt64 >>> (((8 : Int32)).toInt64.toUInt64 &&& Int64.toUInt64 63)).toInt64))).toUInt64 >>> (((16 : Int32)).toInt64.toUInt64 &&& Int64.toUInt64 63)).toInt64))).toUInt64 >>> (((32 : Int32)).toInt64.toUInt64 &&& Int64.toUInt64 63)).toInt64))), none]) (st' := [.int ((((((((x2 + (((x2).toUInt64 >>> (((4 : Int32)).toInt64.toUInt64 &&& Int64.toUInt64 63)).toInt64)) &&& (1085102592571150095 : Int64)) + (((((x2 + (((x2).toUInt64 >>> (((4 : Int32)).toInt64.toUInt64 &&& Int64.toUInt64 63)).toInt64)) &&& (1085102592571150095 : Int64))).toUInt64 >>> (((8 : Int32)).toInt64.toUInt64 &&& Int64.toUInt64 63)).toInt64)) + ((((((x2 + (((x2).toUInt64 >>> (((4 : Int32)).toInt64.toUInt64 &&& Int64.toUInt64 63)).toInt64)) &&& (1085102592571150095 : Int64)) + (((((x2 + (((x2).toUInt64 >>> (((4 : Int32)).toInt64.toUInt64 &&& Int64.toUInt64 63)).toInt64)) &&& (1085102592571150095 : Int64))).toUInt64 >>> (((8 : Int32)).toInt64.toUInt64 &&& Int64.toUInt64 63)).toInt64))).toUInt64 >>> (((16 : Int32)).toInt64.toUInt64 &&& Int64.toUInt64 63)).toInt64)) + (((((((x2 + (((x2).toUInt64 >>> (((4 : Int32)).toInt64.toUInt64 &&& Int64.toUInt64 63)).toInt64)) &&& (1085102592571150095 : Int64)) + (((((x2 + (((x2).toUInt64 >>> (((4 : Int32)).toInt64.toUInt64 &&& Int64.toUInt64 63)).toInt64)) &&& (1085102592571150095 : Int64))).toUInt64 >>> (((8 : Int32)).toInt64.toUInt64 &&& Int64.toUInt64 63)).toInt64)) + ((((((x2 + (((x2).toUInt64 >>> (((4 : Int32)).toInt64.toUInt64 &&& Int64.toUInt64 63)).toInt64)) &&& (1085102592571150095 : Int64)) + (((((x2 + (((x2).toUInt64 >>> (((4 : Int32)).toInt64.toUInt64 &&& Int64.toUInt64 63)).toInt64)) &&& (1085102592571150095 : Int64))).toUInt64 >>> (((8 : Int32)).toInt64.toUInt64 &&& Int64.toUInt64 63)).toInt64))).toUInt64 >>> (((16 : Int32)).toInt64.toUInt64 &&& Int64.toUInt64 63)).toInt64))).toUInt64 >>> (((32 : Int32)).toInt64.toUInt64 &&& Int64.toUInt64 63)).toInt64))).toInt32) &&& (127 : Int32))]) rfl ?_
  generalize hx_x3 : ((((((x2 + (((x2).toUInt64 >>> (((4 : Int32)).toInt64.toUInt64 &&& Int64.toUInt64 63)).toInt64)) &&& (1085102592571150095 : Int64)) + (((((x2 + (((x2).toUInt64 >>> (((4 : Int32)).toInt64.toUInt64 &&& Int64.toUInt64 63)).toInt64)) &&& (1085102592571150095 : Int64))).toUInt64 >>> (((8 : Int32)).toInt64.toUInt64 &&& Int64.toUInt64 63)).toInt64)) + ((((((x2 + (((x2).toUInt64 >>> (((4 : Int32)).toInt64.toUInt64 &&& Int64.toUInt64 63)).toInt64)) &&& (1085102592571150095 : Int64)) + (((((x2 + (((x2).toUInt64 >>> (((4 : Int32)).toInt64.toUInt64 &&& Int64.toUInt64 63)).toInt64)) &&& (1085102592571150095 : Int64))).toUInt64 >>> (((8 : Int32)).toInt64.toUInt64 &&& Int64.toUInt64 63)).toInt64))).toUInt64 >>> (((16 : Int32)).toInt64.toUInt64 &&& Int64.toUInt64 63)).toInt64)) + (((((((x2 + (((x2).toUInt64 >>> (((4 : Int32)).toInt64.toUInt64 &&& Int64.toUInt64 63)).toInt64)) &&& (1085102592571150095 : Int64)) + (((((x2 + (((x2).toUInt64 >>> (((4 : Int32)).toInt64.toUInt64 &&& Int64.toUInt64 63)).toInt64)) &&& (1085102592571150095 : Int64))).toUInt64 >>> (((8 : Int32)).toInt64.toUInt64 &&& Int64.toUInt64 63)).toInt64)) + ((((((x2 + (((x2).toUInt64 >>> (((4 : Int32)).toInt64.toUInt64 &&& Int64.toUInt64 63)).toInt64)) &&& (1085102592571150095 : Int64)) + (((((x2 + (((x2).toUInt64 >>> (((4 : Int32)).toInt64.toUInt64 &&& Int64.toUInt64 63)).toInt64)) &&& (1085102592571150095 : Int64))).toUInt64 >>> (((8 : Int32)).toInt64.toUInt64 &&& Int64.toUInt64 63)).toInt64))).toUInt64 >>> (((16 : Int32)).toInt64.toUInt64 &&& Int64.toUInt64 63)).toInt64))).toUInt64 >>> (((32 : Int32)).toInt64.toUInt64 &&& Int64.toUInt64 63)).toInt64)) : Int64) = x3
  replace h := h x3 hx_x3.symm
  exact e_reti rfl rfl (by decide) (by decide) h
def V_X6_lowest (K : Rs → Mm → Prop) (M : Mm) (a0 : Int64) : Prop := V_J13_bitCount_95d88 (kI (fun r2 M1 => K (.inl (some (.int r2))) M1) (fun _ _ => False)) M ((a0 &&& (-a0)) - (1 : Int64))
set_option maxRecDepth 100000 in
set_option maxHeartbeats 4000000 in
theorem x_X6_lowest {G : Gx} {K : Rs → Mm → Prop} {M : Mm} {a0 : Int64} (h : V_X6_lowest K M a0) : MC G mi_X6_lowest [.long a0] M K := by
  unfold V_X6_lowest at h
  refine mc_of rfl (by decide +kernel) dc_X6_lowest (Nat.le_of_ble_eq_true rfl) 0 (Nat.le_of_ble_eq_true rfl) ?_
  show E G mi_X6_lowest K M 0 0 0 [some (.long a0), none] []
  refine e_blk 6 0 _ _ (pc' := 6) (L' := [some (.long a0), none]) (st' := [.long ((a0 &&& (-a0)) - (1 : Int64))]) rfl ?_
  refine e_callS (As := [.long ((a0 &&& (-a0)) - (1 : Int64))]) (rest := []) rfl (x_J13_bitCount_95d88 h) rfl (aw (i := 851) (by decide +kernel) rfl) ws_J13_bitCount_95d88 wi_J13_bitCount_95d88 wc_J13_bitCount_95d88 (show cok mi_X6_lowest mi_J13_bitCount_95d88 0 0 1 = true by decide +kernel) (Nat.le_of_ble_eq_true rfl) (fun v9 M1 hq => ?_) (fun X M9 hq => False.elim hq)
  obtain ⟨r2, rfl, h⟩ := kI_l hq
  exact e_reti rfl rfl (by decide) (by decide) h
def V_X6_highest_5 (K : Rs → Mm → Prop)  : Nat → Mm → Int64 → Int32 → Prop
  | 0, _, _, _ => False
  | z + 1, M, l2, l4 => (((64 : Int32) ≤ l4 → V_J13_bitCount_95d88 (kI (fun r2 M1 => K (.inl (some (.int (r2 - (1 : Int32))))) M1) (fun _ _ => False)) M l2) ∧ (¬ (64 : Int32) ≤ l4 → ∀ x3 : Int64, x3 = (l2 ||| (((l2).toUInt64 >>> ((l4).toInt64.toUInt64 &&& Int64.toUInt64 63)).toInt64)) → ∀ x4 : Int32, x4 = (l4 * (2 : Int32)) → V_X6_highest_5 K  z M x3 x4))
set_option maxRecDepth 100000 in
set_option maxHeartbeats 4000000 in
theorem x_X6_highest_5 {G : Gx} {K : Rs → Mm → Prop}  : ∀ (z : Nat) (M : Mm) (l2 : Int64) (l4 : Int32), V_X6_highest_5 K  z M l2 l4 → E G mi_X6_highest K M 0 0 5 [none, none, some (.long l2), none, some (.int l4)] []
  | 0, M, l2, l4, h => False.elim h
  | z + 1, M, l2, l4, h => by
    unfold V_X6_highest_5 at h
    refine e_blk 2 5 _ _ (pc' := 9) (L' := [none, none, some (.long l2), none, some (.int l4)]) (st' := [.int (64 : Int32), .int l4]) rfl ?_
    refine e_icmp_ge 28 rfl rfl (fun hc => ?_) (fun hc => ?_)
    · replace h := h.1 hc
      refine e_blk 1 28 _ _ (pc' := 29) (L' := [none, none, some (.long l2), none, some (.int l4)]) (st' := [.long l2]) rfl ?_
      refine e_callS (As := [.long l2]) (rest := []) rfl (x_J13_bitCount_95d88 h) rfl (aw (i := 851) (by decide +kernel) rfl) ws_J13_bitCount_95d88 wi_J13_bitCount_95d88 wc_J13_bitCount_95d88 (show cok mi_X6_highest mi_J13_bitCount_95d88 0 0 1 = true by decide +kernel) (Nat.le_of_ble_eq_true rfl) (fun v9 M1 hq => ?_) (fun X M9 hq => False.elim hq)
      obtain ⟨r2, rfl, h⟩ := kI_l hq
      refine e_blk 2 32 _ _ (pc' := 34) (L' := [none, none, some (.long l2), none, some (.int l4)]) (st' := [.int (r2 - (1 : Int32))]) rfl ?_
      exact e_reti rfl rfl (by decide) (by decide) h
    · replace h := h.2 hc
      refine e_blk 11 12 _ _ (pc' := 5) (L' := [none, none, some (.long (l2 ||| (((l2).toUInt64 >>> ((l4).toInt64.toUInt64 &&& Int64.toUInt64 63)).toInt64))), none, some (.int (l4 * (2 : Int32)))]) (st' := []) rfl ?_
      generalize hx_x3 : ((l2 ||| (((l2).toUInt64 >>> ((l4).toInt64.toUInt64 &&& Int64.toUInt64 63)).toInt64)) : Int64) = x3
      replace h := h x3 hx_x3.symm
      generalize hx_x4 : ((l4 * (2 : Int32)) : Int32) = x4
      replace h := h x4 hx_x4.symm
      refine e_drp [false, false, true, false, true] (L' := [none, none, some (.long x3), none, some (.int x4)]) rfl ?_
      exact x_X6_highest_5  z _ _ _ h
def V_X6_highest (K : Rs → Mm → Prop) (M : Mm) (a0 : Int64) : Prop := ∃ y, V_X6_highest_5 K  y M a0 (1 : Int32)
set_option maxRecDepth 100000 in
set_option maxHeartbeats 4000000 in
theorem x_X6_highest {G : Gx} {K : Rs → Mm → Prop} {M : Mm} {a0 : Int64} (h : V_X6_highest K M a0) : MC G mi_X6_highest [.long a0] M K := by
  unfold V_X6_highest at h
  refine mc_of rfl (by decide +kernel) dc_X6_highest (Nat.le_of_ble_eq_true rfl) 3 (Nat.le_of_ble_eq_true rfl) ?_
  show E G mi_X6_highest K M 0 0 0 [some (.long a0), none, none, none, none] []
  refine e_blk 4 0 _ _ (pc' := 5) (L' := [some (.long a0), none, some (.long a0), none, some (.int (1 : Int32))]) (st' := []) rfl ?_
  refine e_drp [false, false, true, false, true] (L' := [none, none, some (.long a0), none, some (.int (1 : Int32))]) rfl ?_
  obtain ⟨y, h⟩ := h
  exact x_X6_highest_5  y _ _ _ h
end
section
def is_J0_coder_7d493 : List (Instr × Nat) := [(.getstatic 38, 3), (.ifCond .eq 10, 3), (.aload_n 0, 1), (.getfield 15, 3), (.goto 4, 3), (.iconst 1, 1), (.ireturn, 1)]
abbrev mi_J0_coder_7d493 : MI := (yJ0_coder_7d493, cJ0_coder_7d493, 1, (some .byte), [], { frames := 0, cells := 0, slots := 0, locals := 0 }, is_J0_coder_7d493)
theorem dc_J0_coder_7d493 : dcb cJ0_coder_7d493 is_J0_coder_7d493 0 = true := by decide +kernel
theorem wc_J0_coder_7d493 : cdw mi_J0_coder_7d493 ∈ ALLW := aw (i := 636) (by decide +kernel) rfl
theorem wi_J0_coder_7d493 : Cond.initialized (miY mi_J0_coder_7d493).cls ∈ ALLW := aw (i := 72) (by decide +kernel) rfl
theorem wn_J0_coder_7d493 : Cond.instanceMethod (miY mi_J0_coder_7d493) ∈ ALLW := aw (i := 634) (by decide +kernel) rfl
theorem wv_J0_coder_7d493 : Cond.selects (miY mi_J0_coder_7d493).cls (miY mi_J0_coder_7d493) (miY mi_J0_coder_7d493) ∈ ALLW := aw (i := 635) (by decide +kernel) rfl
def is_J0_isLatin1_aae02 : List (Instr × Nat) := [(.getstatic 38, 3), (.ifCond .eq 14, 3), (.aload_n 0, 1), (.getfield 15, 3), (.ifCond .ne 7, 3), (.iconst 1, 1), (.goto 4, 3), (.iconst 0, 1), (.ireturn, 1)]
abbrev mi_J0_isLatin1_aae02 : MI := (yJ0_isLatin1_aae02, cJ0_isLatin1_aae02, 1, (some .boolean), [], { frames := 0, cells := 0, slots := 0, locals := 0 }, is_J0_isLatin1_aae02)
theorem dc_J0_isLatin1_aae02 : dcb cJ0_isLatin1_aae02 is_J0_isLatin1_aae02 0 = true := by decide +kernel
theorem wc_J0_isLatin1_aae02 : cdw mi_J0_isLatin1_aae02 ∈ ALLW := aw (i := 646) (by decide +kernel) rfl
theorem wi_J0_isLatin1_aae02 : Cond.initialized (miY mi_J0_isLatin1_aae02).cls ∈ ALLW := aw (i := 72) (by decide +kernel) rfl
theorem wn_J0_isLatin1_aae02 : Cond.instanceMethod (miY mi_J0_isLatin1_aae02) ∈ ALLW := aw (i := 644) (by decide +kernel) rfl
theorem wv_J0_isLatin1_aae02 : Cond.selects (miY mi_J0_isLatin1_aae02).cls (miY mi_J0_isLatin1_aae02) (miY mi_J0_isLatin1_aae02) ∈ ALLW := aw (i := 645) (by decide +kernel) rfl
def is_J0_length_8abf5 : List (Instr × Nat) := [(.aload_n 0, 1), (.getfield 9, 3), (.arraylength, 1), (.aload_n 0, 1), (.invokevirtual 335, 3), (.ishr, 1), (.ireturn, 1)]
abbrev mi_J0_length_8abf5 : MI := (yJ0_length_8abf5, cJ0_length_8abf5, 1, (some .int), [], { frames := 1, cells := 0, slots := 0, locals := 20 }, is_J0_length_8abf5)
theorem dc_J0_length_8abf5 : dcb cJ0_length_8abf5 is_J0_length_8abf5 0 = true := by decide +kernel
theorem wc_J0_length_8abf5 : cdw mi_J0_length_8abf5 ∈ ALLW := aw (i := 632) (by decide +kernel) rfl
theorem wi_J0_length_8abf5 : Cond.initialized (miY mi_J0_length_8abf5).cls ∈ ALLW := aw (i := 72) (by decide +kernel) rfl
theorem wn_J0_length_8abf5 : Cond.instanceMethod (miY mi_J0_length_8abf5) ∈ ALLW := aw (i := 630) (by decide +kernel) rfl
theorem wv_J0_length_8abf5 : Cond.selects (miY mi_J0_length_8abf5).cls (miY mi_J0_length_8abf5) (miY mi_J0_length_8abf5) ∈ ALLW := aw (i := 631) (by decide +kernel) rfl
def is_J3_checkIndex_8e157 : List (Instr × Nat) := [(.iload_n 0, 1), (.ifCond .lt 8, 3), (.iload_n 0, 1), (.iload_n 1, 1), (.if_icmp .lt 10, 3), (.aload_n 2, 1), (.iload_n 0, 1), (.iload_n 1, 1), (.invokestatic 95, 3), (.athrow, 1), (.iload_n 0, 1), (.ireturn, 1)]
abbrev mi_J3_checkIndex_8e157 : MI := (yJ3_checkIndex_8e157, cJ3_checkIndex_8e157, 3, (some .int), [], { frames := 0, cells := 0, slots := 0, locals := 0 }, is_J3_checkIndex_8e157)
theorem dc_J3_checkIndex_8e157 : dcb cJ3_checkIndex_8e157 is_J3_checkIndex_8e157 0 = true := by decide +kernel
theorem wc_J3_checkIndex_8e157 : cdw mi_J3_checkIndex_8e157 ∈ ALLW := aw (i := 657) (by decide +kernel) rfl
theorem wi_J3_checkIndex_8e157 : Cond.initialized (miY mi_J3_checkIndex_8e157).cls ∈ ALLW := aw (i := 74) (by decide +kernel) rfl
theorem ws_J3_checkIndex_8e157 : Cond.static (miY mi_J3_checkIndex_8e157) ∈ ALLW := aw (i := 656) (by decide +kernel) rfl
def is_J0_checkIndex_df160 : List (Instr × Nat) := [(.iload_n 0, 1), (.iload_n 1, 1), (.getstatic 1053, 3), (.invokestatic 1059, 3), (.pop, 1), (.return_, 1)]
abbrev mi_J0_checkIndex_df160 : MI := (yJ0_checkIndex_df160, cJ0_checkIndex_df160, 2, none, [], { frames := 1, cells := 0, slots := 0, locals := 22 }, is_J0_checkIndex_df160)
theorem dc_J0_checkIndex_df160 : dcb cJ0_checkIndex_df160 is_J0_checkIndex_df160 0 = true := by decide +kernel
theorem wc_J0_checkIndex_df160 : cdw mi_J0_checkIndex_df160 ∈ ALLW := aw (i := 652) (by decide +kernel) rfl
theorem wi_J0_checkIndex_df160 : Cond.initialized (miY mi_J0_checkIndex_df160).cls ∈ ALLW := aw (i := 72) (by decide +kernel) rfl
theorem ws_J0_checkIndex_df160 : Cond.static (miY mi_J0_checkIndex_df160) ∈ ALLW := aw (i := 651) (by decide +kernel) rfl
def is_J1_charAt_3b067 : List (Instr × Nat) := [(.iload_n 1, 1), (.aload_n 0, 1), (.arraylength, 1), (.invokestatic 9, 3), (.aload_n 0, 1), (.iload_n 1, 1), (.baload, 1), (.sipush 255, 3), (.iand, 1), (.i2c, 1), (.ireturn, 1)]
abbrev mi_J1_charAt_3b067 : MI := (yJ1_charAt_3b067, cJ1_charAt_3b067, 2, (some .char), [], { frames := 2, cells := 0, slots := 0, locals := 43 }, is_J1_charAt_3b067)
theorem dc_J1_charAt_3b067 : dcb cJ1_charAt_3b067 is_J1_charAt_3b067 0 = true := by decide +kernel
theorem wc_J1_charAt_3b067 : cdw mi_J1_charAt_3b067 ∈ ALLW := aw (i := 649) (by decide +kernel) rfl
theorem wi_J1_charAt_3b067 : Cond.initialized (miY mi_J1_charAt_3b067).cls ∈ ALLW := aw (i := 73) (by decide +kernel) rfl
theorem ws_J1_charAt_3b067 : Cond.static (miY mi_J1_charAt_3b067) ∈ ALLW := aw (i := 648) (by decide +kernel) rfl
def is_J0_charAt_5068e : List (Instr × Nat) := [(.aload_n 0, 1), (.invokevirtual 492, 3), (.ifCond .eq 12, 3), (.aload_n 0, 1), (.getfield 9, 3), (.iload_n 1, 1), (.invokestatic 495, 3), (.ireturn, 1), (.aload_n 0, 1), (.getfield 9, 3), (.iload_n 1, 1), (.invokestatic 498, 3), (.ireturn, 1)]
abbrev mi_J0_charAt_5068e : MI := (yJ0_charAt_5068e, cJ0_charAt_5068e, 2, (some .char), [], { frames := 4, cells := 0, slots := 0, locals := 85 }, is_J0_charAt_5068e)
theorem dc_J0_charAt_5068e : dcb cJ0_charAt_5068e is_J0_charAt_5068e 0 = true := by decide +kernel
theorem wc_J0_charAt_5068e : cdw mi_J0_charAt_5068e ∈ ALLW := aw (i := 642) (by decide +kernel) rfl
theorem wi_J0_charAt_5068e : Cond.initialized (miY mi_J0_charAt_5068e).cls ∈ ALLW := aw (i := 72) (by decide +kernel) rfl
theorem wn_J0_charAt_5068e : Cond.instanceMethod (miY mi_J0_charAt_5068e) ∈ ALLW := aw (i := 640) (by decide +kernel) rfl
theorem wv_J0_charAt_5068e : Cond.selects (miY mi_J0_charAt_5068e).cls (miY mi_J0_charAt_5068e) (miY mi_J0_charAt_5068e) ∈ ALLW := aw (i := 641) (by decide +kernel) rfl
def is_X4_wordWith : List (Instr × Nat) := [(.iload_n 0, 1), (.lookupswitch 55 #[(100, 46), (104, 43), (109, 52), (119, 49)], 43), (.ldc 79, 2), (.areturn, 1), (.ldc 81, 2), (.areturn, 1), (.ldc 83, 2), (.areturn, 1), (.ldc 85, 2), (.areturn, 1), (.ldc 87, 2), (.areturn, 1)]
abbrev mi_X4_wordWith : MI := (yX4_wordWith, cX4_wordWith, 1, (some (.object "java/lang/String")), [], { frames := 0, cells := 0, slots := 0, locals := 0 }, is_X4_wordWith)
theorem dc_X4_wordWith : dcb cX4_wordWith is_X4_wordWith 0 = true := by decide +kernel
theorem wc_X4_wordWith : cdw mi_X4_wordWith ∈ ALLW := aw (i := 623) (by decide +kernel) rfl
theorem wi_X4_wordWith : Cond.initialized (miY mi_X4_wordWith).cls ∈ ALLW := aw (i := 59) (by decide +kernel) rfl
theorem ws_X4_wordWith : Cond.static (miY mi_X4_wordWith) ∈ ALLW := aw (i := 622) (by decide +kernel) rfl
/-! texts: their length and their letters -/
def txI : List Nat := txW.map (fun q => q.1)
def tx (j : Nat) : List Int32 := ((txW.find? (fun q => q.1 == j)).map (fun q => q.2)).getD []
theorem txI_mem : ∀ j ∈ txI, (j, tx j) ∈ txW := by decide +kernel
theorem tx_len : ∀ j ∈ txI, (tx j).length < 100 := by decide +kernel
theorem tx_ch : ∀ j ∈ txI, ∀ b ∈ tx j, b &&& 255 = b ∧ (b.toUInt32 % 65536).toInt32 = b := by decide +kernel
theorem ST.txs {G : Gx} {s : State} (h : ST G s) {j : Nat} (hj : j ∈ txI) : va_O "java/lang/String" (gS G j) (gA G) s (gH G) ∧ va_OF "java/lang/String" "coder" "B" (.int 0) (gS G j) (gA G) s (gH G) ∧ va_OF "java/lang/String" "value" "[B" (.ref (gS G (j + 64))) (gS G j) (gA G) s (gH G) ∧ va_T .byte (gS G (j + 64)) (tx j).length (fun i => .int ((tx j).getD i 0)) (gA G) s (gH G) := h.2.2.2.2.2.2.2.2.2.2.2.2.2 (j, tx j) (txI_mem j hj)
theorem txO {G : Gx} {j : Nat} (hj : j ∈ txI) : ∀ s, ST G s → va_O "java/lang/String" (gS G j) (gA G) s (gH G) := fun _ h => (h.txs hj).1
def kS (G : Gx) (f : Nat → Mm → Prop) : Rs → Mm → Prop := fun r M => ∃ j, r = .inl (some (.ref (gS G j))) ∧ f j M
theorem kS_l {G : Gx} {f : Nat → Mm → Prop} {v : Option Value} {M : Mm} (h : kS G f (.inl v) M) : ∃ j, v = some (.ref (gS G j)) ∧ f j M := by
  obtain ⟨j, e, h⟩ := h
  cases e
  exact ⟨j, rfl, h⟩
theorem x_J0_coder_7d493 {G : Gx} {K : Rs → Mm → Prop} {M : Mm} {j : Nat} (hj : j ∈ txI) (h : K (.inl (some (.int 0))) M) : MC G mi_J0_coder_7d493 [.ref (gS G j)] M K := by
  refine mc_of rfl (by decide +kernel) dc_J0_coder_7d493 (Nat.le_of_ble_eq_true rfl) 0 (Nat.le_of_ble_eq_true rfl) ?_
  show E G mi_J0_coder_7d493 K M 0 0 0 [some (.ref (gS G j))] []
  refine e_gets (.int 1) rfl (fun s hs => hs.2.2.2.2.2.2.2.2.2.2.2.1) (aw (i := 637) (by decide +kernel) rfl) ?_
  refine e_if_eq 13 rfl rfl (fun hc => absurd hc (by decide)) (fun _ => ?_)
  refine e_blk 1 6 _ _ (pc' := 7) (L' := [some (.ref (gS G j))]) (st' := [.ref (gS G j)]) rfl ?_
  refine e_oG (.int 0) rfl (fun s hs => (hs.txs hj).2.1) (aw (i := 1595) (by decide +kernel) rfl) ?_
  refine e_blk 1 10 _ _ (pc' := 14) (L' := [some (.ref (gS G j))]) (st' := [.int 0]) rfl ?_
  exact e_retc rfl rfl rfl (by decide) (by decide) h
theorem x_J0_isLatin1_aae02 {G : Gx} {K : Rs → Mm → Prop} {M : Mm} {j : Nat} (hj : j ∈ txI) (h : K (.inl (some (.int 1))) M) : MC G mi_J0_isLatin1_aae02 [.ref (gS G j)] M K := by
  refine mc_of rfl (by decide +kernel) dc_J0_isLatin1_aae02 (Nat.le_of_ble_eq_true rfl) 0 (Nat.le_of_ble_eq_true rfl) ?_
  show E G mi_J0_isLatin1_aae02 K M 0 0 0 [some (.ref (gS G j))] []
  refine e_gets (.int 1) rfl (fun s hs => hs.2.2.2.2.2.2.2.2.2.2.2.1) (aw (i := 637) (by decide +kernel) rfl) ?_
  refine e_if_eq 17 rfl rfl (fun hc => absurd hc (by decide)) (fun _ => ?_)
  refine e_blk 1 6 _ _ (pc' := 7) (L' := [some (.ref (gS G j))]) (st' := [.ref (gS G j)]) rfl ?_
  refine e_oG (.int 0) rfl (fun s hs => (hs.txs hj).2.1) (aw (i := 1595) (by decide +kernel) rfl) ?_
  refine e_if_ne 17 rfl rfl (fun hc => absurd rfl hc) (fun _ => ?_)
  refine e_blk 2 13 _ _ (pc' := 18) (L' := [some (.ref (gS G j))]) (st' := [.int (1 : Int32)]) rfl ?_
  exact e_retz rfl rfl (by decide) (by decide) (by decide) h
def V_J0_length_8abf5 (K : Rs → Mm → Prop) (M : Mm) (j : Nat) : Prop := K (.inl (some (.int (Int32.ofNat (tx j).length)))) M
theorem x_J0_length_8abf5 {G : Gx} {K : Rs → Mm → Prop} {M : Mm} {j : Nat} (hj : j ∈ txI) (h : V_J0_length_8abf5 K M j) : MC G mi_J0_length_8abf5 [.ref (gS G j)] M K := by
  refine mc_of rfl (by decide +kernel) dc_J0_length_8abf5 (Nat.le_of_ble_eq_true rfl) 0 (Nat.le_of_ble_eq_true rfl) ?_
  show E G mi_J0_length_8abf5 K M 0 0 0 [some (.ref (gS G j))] []
  refine e_blk 1 0 _ _ (pc' := 1) (L' := [some (.ref (gS G j))]) (st' := [.ref (gS G j)]) rfl ?_
  refine e_oG (.ref (gS G (j + 64))) rfl (fun s hs => (hs.txs hj).2.2.1) (aw (i := 1594) (by decide +kernel) rfl) ?_
  refine e_tL rfl (fun s hs => (hs.txs hj).2.2.2) ?_
  refine e_blk 1 5 _ _ (pc' := 6) (L' := [some (.ref (gS G j))]) (st' := [.ref (gS G j), .int (Int32.ofNat (tx j).length)]) rfl ?_
  refine e_callO (As := []) (rest := [.int (Int32.ofNat (tx j).length)]) (Q' := kI (fun r M' => r = 0 ∧ M' = M) (fun _ _ => False)) rfl (x_J0_coder_7d493 hj ⟨rfl, rfl⟩) (fun X M9 hq => hq) (txO hj) rfl (aw (i := 633) (by decide +kernel) rfl) wn_J0_coder_7d493 wv_J0_coder_7d493 wi_J0_coder_7d493 wc_J0_coder_7d493 (show cok mi_J0_length_8abf5 mi_J0_coder_7d493 0 0 0 = true by decide +kernel) (Nat.le_of_ble_eq_true rfl) (fun v9 M1 hq => ?_)
  obtain ⟨r, rfl, rfl, rfl⟩ := kI_l hq
  refine e_blk 1 9 _ _ (pc' := 10) (L' := [some (.ref (gS G j))]) (st' := [.int ((Int32.ofNat (tx j).length) >>> ((0 : Int32) &&& 31))]) rfl ?_
  rw [sb_shr0]
  exact e_reti rfl rfl (by decide) (by decide) h
theorem x_J3_checkIndex_8e157 {G : Gx} {K : Rs → Mm → Prop} {M : Mm} {i n : Int32} {o : Option Nat} (h0 : ¬ i < 0) (h1 : i < n) (h : K (.inl (some (.int i))) M) : MC G mi_J3_checkIndex_8e157 [.int i, .int n, va_rf o] M K := by
  cases o
  all_goals
    refine mc_of rfl (by decide +kernel) dc_J3_checkIndex_8e157 (Nat.le_of_ble_eq_true rfl) 0 (Nat.le_of_ble_eq_true rfl) ?_
    refine e_drp [true, true, false] (L' := [some (.int i), some (.int n), none]) rfl ?_
    refine e_blk 1 0 _ _ (pc' := 1) (L' := [some (.int i), some (.int n), none]) (st' := [.int i]) rfl ?_
    refine e_if_lt 9 rfl rfl (fun hc => absurd hc h0) (fun _ => ?_)
    refine e_blk 2 4 _ _ (pc' := 6) (L' := [some (.int i), some (.int n), none]) (st' := [.int n, .int i]) rfl ?_
    refine e_icmp_lt 16 rfl rfl (fun _ => ?_) (fun hc => absurd h1 hc)
    refine e_blk 1 16 _ _ (pc' := 17) (L' := [some (.int i), some (.int n), none]) (st' := [.int i]) rfl ?_
    exact e_reti rfl rfl (by decide) (by decide) h
theorem x_J0_checkIndex_df160 {G : Gx} {K : Rs → Mm → Prop} {M : Mm} {i n : Int32} (h0 : ¬ i < 0) (h1 : i < n) (h : K (.inl none) M) : MC G mi_J0_checkIndex_df160 [.int i, .int n] M K := by
  refine mc_of rfl (by decide +kernel) dc_J0_checkIndex_df160 (Nat.le_of_ble_eq_true rfl) 0 (Nat.le_of_ble_eq_true rfl) ?_
  show E G mi_J0_checkIndex_df160 K M 0 0 0 [some (.int i), some (.int n)] []
  refine e_blk 2 0 _ _ (pc' := 2) (L' := [some (.int i), some (.int n)]) (st' := [.int n, .int i]) rfl ?_
  refine e_getsQ rfl (fun s hs => hs.2.2.2.2.2.2.2.2.2.2.2.2.1) (aw (i := 653) (by decide +kernel) rfl) (fun o => ?_)
  refine e_callS (As := [.int i, .int n, va_rf o]) (rest := []) (Q' := kI (fun r M' => M' = M) (fun _ _ => False)) rfl (x_J3_checkIndex_8e157 h0 h1 rfl) rfl (aw (i := 655) (by decide +kernel) rfl) ws_J3_checkIndex_8e157 wi_J3_checkIndex_8e157 wc_J3_checkIndex_8e157 (show cok mi_J0_checkIndex_df160 mi_J3_checkIndex_8e157 0 0 3 = true by decide +kernel) (Nat.le_of_ble_eq_true rfl) (fun v9 M1 hq => ?_) (fun X M9 hq => False.elim hq)
  obtain ⟨r, rfl, rfl⟩ := kI_l hq
  refine e_blk 1 8 _ _ (pc' := 9) (L' := [some (.int i), some (.int n)]) (st' := []) rfl ?_
  exact e_ret rfl rfl (by decide) (by decide) h
theorem tx_in {j : Nat} (hj : j ∈ txI) {i : Int32} (hi : vp_in i (tx j).length) : ¬ i < 0 ∧ i < Int32.ofNat (tx j).length ∧ (tx j).getD i.toNatClampNeg 0 ∈ tx j := by
  have hl := tx_len j hj
  obtain ⟨z, hz, rfl⟩ := vp_in_of hi (by omega)
  refine ⟨nI_pos (by omega), nI_lt hz (by omega), ?_⟩
  rw [nI_clamp (by omega)]
  simp [List.getD, hz]
theorem x_J1_charAt_3b067 {G : Gx} {K : Rs → Mm → Prop} {M : Mm} {j : Nat} {i : Int32} (hj : j ∈ txI) (hi : vp_in i (tx j).length) (h : K (.inl (some (.int ((tx j).getD i.toNatClampNeg 0)))) M) : MC G mi_J1_charAt_3b067 [.ref (gS G (j + 64)), .int i] M K := by
  obtain ⟨i0, i1, i2⟩ := tx_in hj hi
  obtain ⟨c1, c2⟩ := tx_ch j hj _ i2
  refine mc_of rfl (by decide +kernel) dc_J1_charAt_3b067 (Nat.le_of_ble_eq_true rfl) 0 (Nat.le_of_ble_eq_true rfl) ?_
  show E G mi_J1_charAt_3b067 K M 0 0 0 [some (.ref (gS G (j + 64))), some (.int i)] []
  refine e_blk 2 0 _ _ (pc' := 2) (L' := [some (.ref (gS G (j + 64))), some (.int i)]) (st' := [.ref (gS G (j + 64)), .int i]) rfl ?_
  refine e_tL rfl (fun s hs => (hs.txs hj).2.2.2) ?_
  refine e_callS (As := [.int i, .int (Int32.ofNat (tx j).length)]) (rest := []) (Q' := kV (fun M' => M' = M) (fun _ _ => False)) rfl (x_J0_checkIndex_df160 i0 i1 rfl) rfl (aw (i := 650) (by decide +kernel) rfl) ws_J0_checkIndex_df160 wi_J0_checkIndex_df160 wc_J0_checkIndex_df160 (show cok mi_J1_charAt_3b067 mi_J0_checkIndex_df160 0 0 2 = true by decide +kernel) (Nat.le_of_ble_eq_true rfl) (fun v9 M1 hq => ?_) (fun X M9 hq => False.elim hq)
  obtain ⟨rfl, rfl⟩ := kV_l hq
  refine e_blk 2 6 _ _ (pc' := 8) (L' := [some (.ref (gS G (j + 64))), some (.int i)]) (st' := [.int i, .ref (gS G (j + 64))]) rfl ?_
  refine e_tB (.int ((tx j).getD i.toNatClampNeg 0)) rfl (fun s hs => (hs.txs hj).2.2.2) hi rfl ?_
  refine e_blk 3 9 _ _ (pc' := 14) (L' := [some (.ref (gS G (j + 64))), some (.int i)]) (st' := [.int ((((tx j).getD i.toNatClampNeg 0) &&& (255 : Int32)).toUInt32 % 65536).toInt32]) rfl ?_
  rw [c1, c2]
  refine e_retc rfl rfl ?_ (by decide) (by decide) h
  have := pk_nc ((tx j).getD i.toNatClampNeg 0)
  rw [c2] at this
  exact this
def V_J0_charAt_5068e (K : Rs → Mm → Prop) (M : Mm) (j : Nat) (i : Int32) : Prop := vp_in i (tx j).length ∧ K (.inl (some (.int ((tx j).getD i.toNatClampNeg 0)))) M
theorem x_J0_charAt_5068e {G : Gx} {K : Rs → Mm → Prop} {M : Mm} {j : Nat} {i : Int32} (hj : j ∈ txI) (h : V_J0_charAt_5068e K M j i) : MC G mi_J0_charAt_5068e [.ref (gS G j), .int i] M K := by
  obtain ⟨hi, h⟩ := h
  obtain ⟨i0, i1, i2⟩ := tx_in hj hi
  obtain ⟨c1, c2⟩ := tx_ch j hj _ i2
  refine mc_of rfl (by decide +kernel) dc_J0_charAt_5068e (Nat.le_of_ble_eq_true rfl) 0 (Nat.le_of_ble_eq_true rfl) ?_
  show E G mi_J0_charAt_5068e K M 0 0 0 [some (.ref (gS G j)), some (.int i)] []
  refine e_blk 1 0 _ _ (pc' := 1) (L' := [some (.ref (gS G j)), some (.int i)]) (st' := [.ref (gS G j)]) rfl ?_
  refine e_callO (As := []) (rest := []) (Q' := kI (fun r M' => r = 1 ∧ M' = M) (fun _ _ => False)) rfl (x_J0_isLatin1_aae02 hj ⟨rfl, rfl⟩) (fun X M9 hq => hq) (txO hj) rfl (aw (i := 643) (by decide +kernel) rfl) wn_J0_isLatin1_aae02 wv_J0_isLatin1_aae02 wi_J0_isLatin1_aae02 wc_J0_isLatin1_aae02 (show cok mi_J0_charAt_5068e mi_J0_isLatin1_aae02 0 0 0 = true by decide +kernel) (Nat.le_of_ble_eq_true rfl) (fun v9 M1 hq => ?_)
  obtain ⟨r, rfl, rfl, rfl⟩ := kI_l hq
  refine e_if_eq 16 rfl rfl (fun hc => absurd hc (by decide)) (fun _ => ?_)
  refine e_blk 1 7 _ _ (pc' := 8) (L' := [some (.ref (gS G j)), some (.int i)]) (st' := [.ref (gS G j)]) rfl ?_
  refine e_oG (.ref (gS G (j + 64))) rfl (fun s hs => (hs.txs hj).2.2.1) (aw (i := 1594) (by decide +kernel) rfl) ?_
  refine e_blk 1 11 _ _ (pc' := 12) (L' := [some (.ref (gS G j)), some (.int i)]) (st' := [.int i, .ref (gS G (j + 64))]) rfl ?_
  refine e_callS (As := [.ref (gS G (j + 64)), .int i]) (rest := []) (Q' := kI (fun r M' => r = (tx j).getD i.toNatClampNeg 0 ∧ M' = M1) (fun _ _ => False)) rfl (x_J1_charAt_3b067 hj hi ⟨rfl, rfl⟩) rfl (aw (i := 647) (by decide +kernel) rfl) ws_J1_charAt_3b067 wi_J1_charAt_3b067 wc_J1_charAt_3b067 (show cok mi_J0_charAt_5068e mi_J1_charAt_3b067 0 0 2 = true by decide +kernel) (Nat.le_of_ble_eq_true rfl) (fun v9 M2 hq => ?_) (fun X M9 hq => False.elim hq)
  obtain ⟨r, rfl, rfl, rfl⟩ := kI_l hq
  refine e_retc rfl rfl ?_ (by decide) (by decide) h
  have := pk_nc ((tx j).getD i.toNatClampNeg 0)
  rw [c2] at this
  exact this
def V_X4_wordWith (f : Nat → Mm → Prop) (M : Mm) (a0 : Int32) : Prop := ((a0 = 104 → f 14 M) ∧ (a0 = 100 → f 15 M) ∧ (a0 = 119 → f 16 M) ∧ (a0 = 109 → f 17 M) ∧ (¬ a0 = 104 → ¬ a0 = 100 → ¬ a0 = 119 → ¬ a0 = 109 → f 18 M))
theorem x_X4_wordWith {G : Gx} {f : Nat → Mm → Prop} {M : Mm} {a0 : Int32} (h : V_X4_wordWith f M a0) : MC G mi_X4_wordWith [.int a0] M (kS G f) := by
  refine mc_of rfl (by decide +kernel) dc_X4_wordWith (Nat.le_of_ble_eq_true rfl) 0 (Nat.le_of_ble_eq_true rfl) ?_
  show E G mi_X4_wordWith (kS G f) M 0 0 0 [some (.int a0)] []
  refine e_blk 1 0 _ _ (pc' := 1) (L' := [some (.int a0)]) (st' := [.int a0]) rfl ?_
  by_cases e1 : a0 = 104
  · refine e_lsw 43 44 rfl (by decide) (by rw [e1]; decide) rfl ?_
    refine e_ldS (text := "hourly") 14 rfl (by decide) ?_
    exact e_reta (v := some (gS G 14)) rfl rfl (by decide) (by decide) ⟨_, rfl, h.1 e1⟩
  by_cases e2 : a0 = 100
  · refine e_lsw 46 47 rfl (by decide) (by rw [e2]; decide) rfl ?_
    refine e_ldS (text := "daily") 15 rfl (by decide) ?_
    exact e_reta (v := some (gS G 15)) rfl rfl (by decide) (by decide) ⟨_, rfl, h.2.1 e2⟩
  by_cases e3 : a0 = 119
  · refine e_lsw 49 50 rfl (by decide) (by rw [e3]; decide) rfl ?_
    refine e_ldS (text := "weekly") 16 rfl (by decide) ?_
    exact e_reta (v := some (gS G 16)) rfl rfl (by decide) (by decide) ⟨_, rfl, h.2.2.1 e3⟩
  by_cases e4 : a0 = 109
  · refine e_lsw 52 53 rfl (by decide) (by rw [e4]; decide) rfl ?_
    refine e_ldS (text := "monthly") 17 rfl (by decide) ?_
    exact e_reta (v := some (gS G 17)) rfl rfl (by decide) (by decide) ⟨_, rfl, h.2.2.2.1 e4⟩
  · have t1 : a0.toInt ≠ 104 := fun q => e1 (Int32.toInt_inj.mp (q.trans (by decide)))
    have t2 : a0.toInt ≠ 100 := fun q => e2 (Int32.toInt_inj.mp (q.trans (by decide)))
    have t3 : a0.toInt ≠ 119 := fun q => e3 (Int32.toInt_inj.mp (q.trans (by decide)))
    have t4 : a0.toInt ≠ 109 := fun q => e4 (Int32.toInt_inj.mp (q.trans (by decide)))
    refine e_lsw 55 56 rfl (by decide) (by simp [Op.lookupswitch.offset, t1.symm, t2.symm, t3.symm, t4.symm]) rfl ?_
    refine e_ldS (text := "yearly") 18 rfl (by decide) ?_
    exact e_reta (v := some (gS G 18)) rfl rfl (by decide) (by decide) ⟨_, rfl, h.2.2.2.2 e1 e2 e3 e4⟩
end
