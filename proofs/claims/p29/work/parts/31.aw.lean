/-! words that the law wants -/
set_option maxRecDepth 100000 in
theorem wd_1004 : (Jvm.Cond.methodLink "LeadlightHallLaw" (288 : Nat) yL_meanCells) ∈ am_WS := am_in (am_intb (List.mem_of_getElem? (i := 1004) (by decide +kernel))) (by decide +kernel)
set_option maxRecDepth 100000 in
theorem wd_1005 : (Jvm.Cond.static yL_meanCells) ∈ am_WS := am_in (am_intb (List.mem_of_getElem? (i := 1005) (by decide +kernel))) (by decide +kernel)
set_option maxRecDepth 100000 in
theorem wd_1494 : (Jvm.Cond.methodLink "LeadlightHallLaw" (283 : Nat) yX8_checksum) ∈ am_WS := am_in (am_intb (List.mem_of_getElem? (i := 1494) (by decide +kernel))) (by decide +kernel)
set_option maxRecDepth 100000 in
theorem wd_1495 : (Jvm.Cond.instanceMethod yX8_checksum) ∈ am_WS := am_in (am_intb (List.mem_of_getElem? (i := 1495) (by decide +kernel))) (by decide +kernel)
set_option maxRecDepth 100000 in
theorem wd_1496 : (Jvm.Cond.selects "LeadlightHallModel" yX8_checksum yX8_checksum) ∈ am_WS := am_in (am_intb (List.mem_of_getElem? (i := 1496) (by decide +kernel))) (by decide +kernel)
set_option maxRecDepth 100000 in
theorem wd_1500 : (Jvm.Cond.methodLink "LeadlightHallLaw" (287 : Nat) yX8_litShare) ∈ am_WS := am_in (am_intb (List.mem_of_getElem? (i := 1500) (by decide +kernel))) (by decide +kernel)
set_option maxRecDepth 100000 in
theorem wd_1501 : (Jvm.Cond.instanceMethod yX8_litShare) ∈ am_WS := am_in (am_intb (List.mem_of_getElem? (i := 1501) (by decide +kernel))) (by decide +kernel)
set_option maxRecDepth 100000 in
theorem wd_1502 : (Jvm.Cond.selects "LeadlightHallModel" yX8_litShare yX8_litShare) ∈ am_WS := am_in (am_intb (List.mem_of_getElem? (i := 1502) (by decide +kernel))) (by decide +kernel)
set_option maxRecDepth 100000 in
theorem wd_1504 : (Jvm.Cond.methodLink "LeadlightHallLaw" (290 : Nat) yX8_meanCells) ∈ am_WS := am_in (am_intb (List.mem_of_getElem? (i := 1504) (by decide +kernel))) (by decide +kernel)
set_option maxRecDepth 100000 in
theorem wd_1505 : (Jvm.Cond.instanceMethod yX8_meanCells) ∈ am_WS := am_in (am_intb (List.mem_of_getElem? (i := 1505) (by decide +kernel))) (by decide +kernel)
set_option maxRecDepth 100000 in
theorem wd_1506 : (Jvm.Cond.selects "LeadlightHallModel" yX8_meanCells yX8_meanCells) ∈ am_WS := am_in (am_intb (List.mem_of_getElem? (i := 1506) (by decide +kernel))) (by decide +kernel)
set_option maxRecDepth 100000 in
theorem wd_1508 : (Jvm.Cond.methodLink "LeadlightHallLaw" (294 : Nat) yX8_isSound) ∈ am_WS := am_in (am_intb (List.mem_of_getElem? (i := 1508) (by decide +kernel))) (by decide +kernel)
set_option maxRecDepth 100000 in
theorem wd_1509 : (Jvm.Cond.instanceMethod yX8_isSound) ∈ am_WS := am_in (am_intb (List.mem_of_getElem? (i := 1509) (by decide +kernel))) (by decide +kernel)
set_option maxRecDepth 100000 in
theorem wd_1510 : (Jvm.Cond.selects "LeadlightHallModel" yX8_isSound yX8_isSound) ∈ am_WS := am_in (am_intb (List.mem_of_getElem? (i := 1510) (by decide +kernel))) (by decide +kernel)
set_option maxRecDepth 100000 in
theorem wd_330 : (Jvm.Cond.methodLink "LeadlightHallLaw" (279 : Nat) yX7_checksum) ∈ am_WS := am_in (am_intb (List.mem_of_getElem? (i := 330) (by decide +kernel))) (by decide +kernel)
set_option maxRecDepth 100000 in
theorem wd_331 : (Jvm.Cond.instanceMethod yX7_checksum) ∈ am_WS := am_in (am_intb (List.mem_of_getElem? (i := 331) (by decide +kernel))) (by decide +kernel)
set_option maxRecDepth 100000 in
theorem wd_332 : (Jvm.Cond.selects "LeadlightHall" yX7_checksum yX7_checksum) ∈ am_WS := am_in (am_intb (List.mem_of_getElem? (i := 332) (by decide +kernel))) (by decide +kernel)
set_option maxRecDepth 100000 in
theorem wd_337 : (Jvm.Cond.methodLink "LeadlightHallLaw" (291 : Nat) yX7_isSound) ∈ am_WS := am_in (am_intb (List.mem_of_getElem? (i := 337) (by decide +kernel))) (by decide +kernel)
set_option maxRecDepth 100000 in
theorem wd_338 : (Jvm.Cond.instanceMethod yX7_isSound) ∈ am_WS := am_in (am_intb (List.mem_of_getElem? (i := 338) (by decide +kernel))) (by decide +kernel)
set_option maxRecDepth 100000 in
theorem wd_339 : (Jvm.Cond.selects "LeadlightHall" yX7_isSound yX7_isSound) ∈ am_WS := am_in (am_intb (List.mem_of_getElem? (i := 339) (by decide +kernel))) (by decide +kernel)
set_option maxRecDepth 100000 in
theorem wd_997 : (Jvm.Cond.methodLink "LeadlightHallLaw" (284 : Nat) yL_litShare) ∈ am_WS := am_in (am_intb (List.mem_of_getElem? (i := 997) (by decide +kernel))) (by decide +kernel)
set_option maxRecDepth 100000 in
theorem wd_998 : (Jvm.Cond.static yL_litShare) ∈ am_WS := am_in (am_intb (List.mem_of_getElem? (i := 998) (by decide +kernel))) (by decide +kernel)
