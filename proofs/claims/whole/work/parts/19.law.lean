theorem kc_X8_init : Cond.code yX8_init cX8_init 1 none ∈ wAll := wmi 60 (by decide +kernel) (by decide +kernel)
theorem ki_X8_init : Cond.instanceMethod yX8_init ∈ wAll := wmi 59 (by decide +kernel) (by decide +kernel)
theorem kc_X8_asOf : Cond.code yX8_asOf cX8_asOf 4 (some .int) ∈ wAll := wmi 648 (by decide +kernel) (by decide +kernel)
theorem ki_X8_asOf : Cond.instanceMethod yX8_asOf ∈ wAll := wmi 646 (by decide +kernel) (by decide +kernel)
theorem ks_X8_asOf : Cond.selects yX8_asOf.cls yX8_asOf yX8_asOf ∈ lw_tbl := List.mem_of_getElem? (i := 647) (by decide +kernel)
theorem ksg_X8_asOf : goodWord (Cond.selects yX8_asOf.cls yX8_asOf yX8_asOf) = true := by decide +kernel
theorem kc_X8_count : Cond.code yX8_count cX8_count 2 (some .int) ∈ wAll := wmi 677 (by decide +kernel) (by decide +kernel)
theorem ki_X8_count : Cond.instanceMethod yX8_count ∈ wAll := wmi 675 (by decide +kernel) (by decide +kernel)
theorem ks_X8_count : Cond.selects yX8_count.cls yX8_count yX8_count ∈ lw_tbl := List.mem_of_getElem? (i := 676) (by decide +kernel)
theorem ksg_X8_count : goodWord (Cond.selects yX8_count.cls yX8_count yX8_count) = true := by decide +kernel
theorem kc_X8_edit : Cond.code yX8_edit cX8_edit 6 (some .int) ∈ wAll := wmi 629 (by decide +kernel) (by decide +kernel)
theorem ki_X8_edit : Cond.instanceMethod yX8_edit ∈ wAll := wmi 627 (by decide +kernel) (by decide +kernel)
theorem ks_X8_edit : Cond.selects yX8_edit.cls yX8_edit yX8_edit ∈ lw_tbl := List.mem_of_getElem? (i := 628) (by decide +kernel)
theorem ksg_X8_edit : goodWord (Cond.selects yX8_edit.cls yX8_edit yX8_edit) = true := by decide +kernel
theorem kc_X8_end : Cond.code yX8_end cX8_end 2 (some .int) ∈ wAll := wmi 333 (by decide +kernel) (by decide +kernel)
theorem ki_X8_end : Cond.instanceMethod yX8_end ∈ wAll := wmi 331 (by decide +kernel) (by decide +kernel)
theorem ks_X8_end : Cond.selects yX8_end.cls yX8_end yX8_end ∈ lw_tbl := List.mem_of_getElem? (i := 332) (by decide +kernel)
theorem ksg_X8_end : goodWord (Cond.selects yX8_end.cls yX8_end yX8_end) = true := by decide +kernel
theorem kc_X8_fault : Cond.code yX8_fault cX8_fault 1 (some .int) ∈ wAll := wmi 496 (by decide +kernel) (by decide +kernel)
theorem ki_X8_fault : Cond.instanceMethod yX8_fault ∈ wAll := wmi 494 (by decide +kernel) (by decide +kernel)
theorem ks_X8_fault : Cond.selects yX8_fault.cls yX8_fault yX8_fault ∈ lw_tbl := List.mem_of_getElem? (i := 495) (by decide +kernel)
theorem ksg_X8_fault : goodWord (Cond.selects yX8_fault.cls yX8_fault yX8_fault) = true := by decide +kernel
theorem kc_X8_feed : Cond.code yX8_feed cX8_feed 6 (some .int) ∈ wAll := wmi 317 (by decide +kernel) (by decide +kernel)
theorem ki_X8_feed : Cond.instanceMethod yX8_feed ∈ wAll := wmi 315 (by decide +kernel) (by decide +kernel)
theorem ks_X8_feed : Cond.selects yX8_feed.cls yX8_feed yX8_feed ∈ lw_tbl := List.mem_of_getElem? (i := 316) (by decide +kernel)
theorem ksg_X8_feed : goodWord (Cond.selects yX8_feed.cls yX8_feed yX8_feed) = true := by decide +kernel
theorem kc_X8_go : Cond.code yX8_go cX8_go 3 (some .int) ∈ wAll := wmi 304 (by decide +kernel) (by decide +kernel)
theorem ki_X8_go : Cond.instanceMethod yX8_go ∈ wAll := wmi 302 (by decide +kernel) (by decide +kernel)
theorem ks_X8_go : Cond.selects yX8_go.cls yX8_go yX8_go ∈ lw_tbl := List.mem_of_getElem? (i := 303) (by decide +kernel)
theorem ksg_X8_go : goodWord (Cond.selects yX8_go.cls yX8_go yX8_go) = true := by decide +kernel
theorem kc_X8_holds : Cond.code yX8_holds cX8_holds 4 (some .int) ∈ wAll := wmi 617 (by decide +kernel) (by decide +kernel)
theorem ki_X8_holds : Cond.instanceMethod yX8_holds ∈ wAll := wmi 615 (by decide +kernel) (by decide +kernel)
theorem ks_X8_holds : Cond.selects yX8_holds.cls yX8_holds yX8_holds ∈ lw_tbl := List.mem_of_getElem? (i := 616) (by decide +kernel)
theorem ksg_X8_holds : goodWord (Cond.selects yX8_holds.cls yX8_holds yX8_holds) = true := by decide +kernel
theorem kc_X8_mark : Cond.code yX8_mark cX8_mark 3 (some .int) ∈ wAll := wmi 566 (by decide +kernel) (by decide +kernel)
theorem ki_X8_mark : Cond.instanceMethod yX8_mark ∈ wAll := wmi 564 (by decide +kernel) (by decide +kernel)
theorem ks_X8_mark : Cond.selects yX8_mark.cls yX8_mark yX8_mark ∈ lw_tbl := List.mem_of_getElem? (i := 565) (by decide +kernel)
theorem ksg_X8_mark : goodWord (Cond.selects yX8_mark.cls yX8_mark yX8_mark) = true := by decide +kernel
theorem kc_X8_of : Cond.code yX8_of cX8_of 4 (some .int) ∈ wAll := wmi 312 (by decide +kernel) (by decide +kernel)
theorem ki_X8_of : Cond.instanceMethod yX8_of ∈ wAll := wmi 310 (by decide +kernel) (by decide +kernel)
theorem ks_X8_of : Cond.selects yX8_of.cls yX8_of yX8_of ∈ lw_tbl := List.mem_of_getElem? (i := 311) (by decide +kernel)
theorem ksg_X8_of : goodWord (Cond.selects yX8_of.cls yX8_of yX8_of) = true := by decide +kernel
theorem kc_X8_page : Cond.code yX8_page cX8_page 10 (some .int) ∈ wAll := wmi 574 (by decide +kernel) (by decide +kernel)
theorem ki_X8_page : Cond.instanceMethod yX8_page ∈ wAll := wmi 572 (by decide +kernel) (by decide +kernel)
theorem ks_X8_page : Cond.selects yX8_page.cls yX8_page yX8_page ∈ lw_tbl := List.mem_of_getElem? (i := 573) (by decide +kernel)
theorem ksg_X8_page : goodWord (Cond.selects yX8_page.cls yX8_page yX8_page) = true := by decide +kernel
theorem kc_X8_reader : Cond.code yX8_reader cX8_reader 3 (some .int) ∈ wAll := wmi 584 (by decide +kernel) (by decide +kernel)
theorem ki_X8_reader : Cond.instanceMethod yX8_reader ∈ wAll := wmi 582 (by decide +kernel) (by decide +kernel)
theorem ks_X8_reader : Cond.selects yX8_reader.cls yX8_reader yX8_reader ∈ lw_tbl := List.mem_of_getElem? (i := 583) (by decide +kernel)
theorem ksg_X8_reader : goodWord (Cond.selects yX8_reader.cls yX8_reader yX8_reader) = true := by decide +kernel
theorem kc_X8_refer : Cond.code yX8_refer cX8_refer 5 (some .int) ∈ wAll := wmi 296 (by decide +kernel) (by decide +kernel)
theorem ki_X8_refer : Cond.instanceMethod yX8_refer ∈ wAll := wmi 294 (by decide +kernel) (by decide +kernel)
theorem ks_X8_refer : Cond.selects yX8_refer.cls yX8_refer yX8_refer ∈ lw_tbl := List.mem_of_getElem? (i := 295) (by decide +kernel)
theorem ksg_X8_refer : goodWord (Cond.selects yX8_refer.cls yX8_refer yX8_refer) = true := by decide +kernel
theorem kc_X8_row : Cond.code yX8_row cX8_row 6 (some .int) ∈ wAll := wmi 196 (by decide +kernel) (by decide +kernel)
theorem ki_X8_row : Cond.instanceMethod yX8_row ∈ wAll := wmi 194 (by decide +kernel) (by decide +kernel)
theorem ks_X8_row : Cond.selects yX8_row.cls yX8_row yX8_row ∈ lw_tbl := List.mem_of_getElem? (i := 195) (by decide +kernel)
theorem ksg_X8_row : goodWord (Cond.selects yX8_row.cls yX8_row yX8_row) = true := by decide +kernel
theorem kc_X8_same : Cond.code yX8_same cX8_same 3 (some .int) ∈ wAll := wmi 625 (by decide +kernel) (by decide +kernel)
theorem ki_X8_same : Cond.instanceMethod yX8_same ∈ wAll := wmi 623 (by decide +kernel) (by decide +kernel)
theorem ks_X8_same : Cond.selects yX8_same.cls yX8_same yX8_same ∈ lw_tbl := List.mem_of_getElem? (i := 624) (by decide +kernel)
theorem ksg_X8_same : goodWord (Cond.selects yX8_same.cls yX8_same yX8_same) = true := by decide +kernel
theorem kc_X8_send : Cond.code yX8_send cX8_send 4 (some .int) ∈ wAll := wmi 604 (by decide +kernel) (by decide +kernel)
theorem ki_X8_send : Cond.instanceMethod yX8_send ∈ wAll := wmi 602 (by decide +kernel) (by decide +kernel)
theorem ks_X8_send : Cond.selects yX8_send.cls yX8_send yX8_send ∈ lw_tbl := List.mem_of_getElem? (i := 603) (by decide +kernel)
theorem ksg_X8_send : goodWord (Cond.selects yX8_send.cls yX8_send yX8_send) = true := by decide +kernel
theorem kc_X8_shape : Cond.code yX8_shape cX8_shape 4 (some .int) ∈ wAll := wmi 345 (by decide +kernel) (by decide +kernel)
theorem ki_X8_shape : Cond.instanceMethod yX8_shape ∈ wAll := wmi 343 (by decide +kernel) (by decide +kernel)
theorem ks_X8_shape : Cond.selects yX8_shape.cls yX8_shape yX8_shape ∈ lw_tbl := List.mem_of_getElem? (i := 344) (by decide +kernel)
theorem ksg_X8_shape : goodWord (Cond.selects yX8_shape.cls yX8_shape yX8_shape) = true := by decide +kernel
theorem kc_X8_size : Cond.code yX8_size cX8_size 2 (some .int) ∈ wAll := wmi 500 (by decide +kernel) (by decide +kernel)
theorem ki_X8_size : Cond.instanceMethod yX8_size ∈ wAll := wmi 498 (by decide +kernel) (by decide +kernel)
theorem ks_X8_size : Cond.selects yX8_size.cls yX8_size yX8_size ∈ lw_tbl := List.mem_of_getElem? (i := 499) (by decide +kernel)
theorem ksg_X8_size : goodWord (Cond.selects yX8_size.cls yX8_size yX8_size) = true := by decide +kernel
theorem kc_X8_status : Cond.code yX8_status cX8_status 1 (some .int) ∈ wAll := wmi 686 (by decide +kernel) (by decide +kernel)
theorem ki_X8_status : Cond.instanceMethod yX8_status ∈ wAll := wmi 684 (by decide +kernel) (by decide +kernel)
theorem ks_X8_status : Cond.selects yX8_status.cls yX8_status yX8_status ∈ lw_tbl := List.mem_of_getElem? (i := 685) (by decide +kernel)
theorem ksg_X8_status : goodWord (Cond.selects yX8_status.cls yX8_status yX8_status) = true := by decide +kernel
theorem kc_X8_touched : Cond.code yX8_touched cX8_touched 7 (some .int) ∈ wAll := wmi 665 (by decide +kernel) (by decide +kernel)
theorem ki_X8_touched : Cond.instanceMethod yX8_touched ∈ wAll := wmi 663 (by decide +kernel) (by decide +kernel)
theorem ks_X8_touched : Cond.selects yX8_touched.cls yX8_touched yX8_touched ∈ lw_tbl := List.mem_of_getElem? (i := 664) (by decide +kernel)
theorem ksg_X8_touched : goodWord (Cond.selects yX8_touched.cls yX8_touched yX8_touched) = true := by decide +kernel
theorem kc_X8_value : Cond.code yX8_value cX8_value 4 (some .int) ∈ wAll := wmi 286 (by decide +kernel) (by decide +kernel)
theorem ki_X8_value : Cond.instanceMethod yX8_value ∈ wAll := wmi 284 (by decide +kernel) (by decide +kernel)
theorem ks_X8_value : Cond.selects yX8_value.cls yX8_value yX8_value ∈ lw_tbl := List.mem_of_getElem? (i := 285) (by decide +kernel)
theorem ksg_X8_value : goodWord (Cond.selects yX8_value.cls yX8_value yX8_value) = true := by decide +kernel
theorem kc_X9_init : Cond.code yX9_init cX9_init 1 none ∈ wAll := wmi 691 (by decide +kernel) (by decide +kernel)
theorem ki_X9_init : Cond.instanceMethod yX9_init ∈ wAll := wmi 690 (by decide +kernel) (by decide +kernel)
theorem kc_X9_asOf : Cond.code yX9_asOf cX9_asOf 5 (some .int) ∈ wAll := wmi 994 (by decide +kernel) (by decide +kernel)
theorem ki_X9_asOf : Cond.instanceMethod yX9_asOf ∈ wAll := wmi 992 (by decide +kernel) (by decide +kernel)
theorem ks_X9_asOf : Cond.selects yX9_asOf.cls yX9_asOf yX9_asOf ∈ lw_tbl := List.mem_of_getElem? (i := 993) (by decide +kernel)
theorem ksg_X9_asOf : goodWord (Cond.selects yX9_asOf.cls yX9_asOf yX9_asOf) = true := by decide +kernel
theorem kc_X9_count : Cond.code yX9_count cX9_count 4 (some .int) ∈ wAll := wmi 1034 (by decide +kernel) (by decide +kernel)
theorem ki_X9_count : Cond.instanceMethod yX9_count ∈ wAll := wmi 1032 (by decide +kernel) (by decide +kernel)
theorem ks_X9_count : Cond.selects yX9_count.cls yX9_count yX9_count ∈ lw_tbl := List.mem_of_getElem? (i := 1033) (by decide +kernel)
theorem ksg_X9_count : goodWord (Cond.selects yX9_count.cls yX9_count yX9_count) = true := by decide +kernel
theorem kc_X9_edit : Cond.code yX9_edit cX9_edit 6 (some .int) ∈ wAll := wmi 1026 (by decide +kernel) (by decide +kernel)
theorem ki_X9_edit : Cond.instanceMethod yX9_edit ∈ wAll := wmi 1024 (by decide +kernel) (by decide +kernel)
theorem ks_X9_edit : Cond.selects yX9_edit.cls yX9_edit yX9_edit ∈ lw_tbl := List.mem_of_getElem? (i := 1025) (by decide +kernel)
theorem ksg_X9_edit : goodWord (Cond.selects yX9_edit.cls yX9_edit yX9_edit) = true := by decide +kernel
theorem kc_X9_end : Cond.code yX9_end cX9_end 2 (some .int) ∈ wAll := wmi 916 (by decide +kernel) (by decide +kernel)
theorem ki_X9_end : Cond.instanceMethod yX9_end ∈ wAll := wmi 914 (by decide +kernel) (by decide +kernel)
theorem ks_X9_end : Cond.selects yX9_end.cls yX9_end yX9_end ∈ lw_tbl := List.mem_of_getElem? (i := 915) (by decide +kernel)
theorem ksg_X9_end : goodWord (Cond.selects yX9_end.cls yX9_end yX9_end) = true := by decide +kernel
theorem kc_X9_fault : Cond.code yX9_fault cX9_fault 1 (some .int) ∈ wAll := wmi 960 (by decide +kernel) (by decide +kernel)
theorem ki_X9_fault : Cond.instanceMethod yX9_fault ∈ wAll := wmi 958 (by decide +kernel) (by decide +kernel)
theorem ks_X9_fault : Cond.selects yX9_fault.cls yX9_fault yX9_fault ∈ lw_tbl := List.mem_of_getElem? (i := 959) (by decide +kernel)
theorem ksg_X9_fault : goodWord (Cond.selects yX9_fault.cls yX9_fault yX9_fault) = true := by decide +kernel
theorem kc_X9_feed : Cond.code yX9_feed cX9_feed 6 (some .int) ∈ wAll := wmi 908 (by decide +kernel) (by decide +kernel)
theorem ki_X9_feed : Cond.instanceMethod yX9_feed ∈ wAll := wmi 906 (by decide +kernel) (by decide +kernel)
theorem ks_X9_feed : Cond.selects yX9_feed.cls yX9_feed yX9_feed ∈ lw_tbl := List.mem_of_getElem? (i := 907) (by decide +kernel)
theorem ksg_X9_feed : goodWord (Cond.selects yX9_feed.cls yX9_feed yX9_feed) = true := by decide +kernel
theorem kc_X9_go : Cond.code yX9_go cX9_go 2 (some .int) ∈ wAll := wmi 900 (by decide +kernel) (by decide +kernel)
theorem ki_X9_go : Cond.instanceMethod yX9_go ∈ wAll := wmi 898 (by decide +kernel) (by decide +kernel)
theorem ks_X9_go : Cond.selects yX9_go.cls yX9_go yX9_go ∈ lw_tbl := List.mem_of_getElem? (i := 899) (by decide +kernel)
theorem ksg_X9_go : goodWord (Cond.selects yX9_go.cls yX9_go yX9_go) = true := by decide +kernel
theorem kc_X9_holds : Cond.code yX9_holds cX9_holds 3 (some .int) ∈ wAll := wmi 1014 (by decide +kernel) (by decide +kernel)
theorem ki_X9_holds : Cond.instanceMethod yX9_holds ∈ wAll := wmi 1012 (by decide +kernel) (by decide +kernel)
theorem ks_X9_holds : Cond.selects yX9_holds.cls yX9_holds yX9_holds ∈ lw_tbl := List.mem_of_getElem? (i := 1013) (by decide +kernel)
theorem ksg_X9_holds : goodWord (Cond.selects yX9_holds.cls yX9_holds yX9_holds) = true := by decide +kernel
theorem kc_X9_mark : Cond.code yX9_mark cX9_mark 3 (some .int) ∈ wAll := wmi 984 (by decide +kernel) (by decide +kernel)
theorem ki_X9_mark : Cond.instanceMethod yX9_mark ∈ wAll := wmi 982 (by decide +kernel) (by decide +kernel)
theorem ks_X9_mark : Cond.selects yX9_mark.cls yX9_mark yX9_mark ∈ lw_tbl := List.mem_of_getElem? (i := 983) (by decide +kernel)
theorem ksg_X9_mark : goodWord (Cond.selects yX9_mark.cls yX9_mark yX9_mark) = true := by decide +kernel
theorem kc_X9_of : Cond.code yX9_of cX9_of 3 (some .int) ∈ wAll := wmi 904 (by decide +kernel) (by decide +kernel)
theorem ki_X9_of : Cond.instanceMethod yX9_of ∈ wAll := wmi 902 (by decide +kernel) (by decide +kernel)
theorem ks_X9_of : Cond.selects yX9_of.cls yX9_of yX9_of ∈ lw_tbl := List.mem_of_getElem? (i := 903) (by decide +kernel)
theorem ksg_X9_of : goodWord (Cond.selects yX9_of.cls yX9_of yX9_of) = true := by decide +kernel
theorem kc_X9_page : Cond.code yX9_page cX9_page 8 (some .int) ∈ wAll := wmi 988 (by decide +kernel) (by decide +kernel)
theorem ki_X9_page : Cond.instanceMethod yX9_page ∈ wAll := wmi 986 (by decide +kernel) (by decide +kernel)
theorem ks_X9_page : Cond.selects yX9_page.cls yX9_page yX9_page ∈ lw_tbl := List.mem_of_getElem? (i := 987) (by decide +kernel)
theorem ksg_X9_page : goodWord (Cond.selects yX9_page.cls yX9_page yX9_page) = true := by decide +kernel
theorem kc_X9_reader : Cond.code yX9_reader cX9_reader 2 (some .int) ∈ wAll := wmi 1002 (by decide +kernel) (by decide +kernel)
theorem ki_X9_reader : Cond.instanceMethod yX9_reader ∈ wAll := wmi 1000 (by decide +kernel) (by decide +kernel)
theorem ks_X9_reader : Cond.selects yX9_reader.cls yX9_reader yX9_reader ∈ lw_tbl := List.mem_of_getElem? (i := 1001) (by decide +kernel)
theorem ksg_X9_reader : goodWord (Cond.selects yX9_reader.cls yX9_reader yX9_reader) = true := by decide +kernel
theorem kc_X9_refer : Cond.code yX9_refer cX9_refer 4 (some .int) ∈ wAll := wmi 896 (by decide +kernel) (by decide +kernel)
theorem ki_X9_refer : Cond.instanceMethod yX9_refer ∈ wAll := wmi 894 (by decide +kernel) (by decide +kernel)
theorem ks_X9_refer : Cond.selects yX9_refer.cls yX9_refer yX9_refer ∈ lw_tbl := List.mem_of_getElem? (i := 895) (by decide +kernel)
theorem ksg_X9_refer : goodWord (Cond.selects yX9_refer.cls yX9_refer yX9_refer) = true := by decide +kernel
theorem kc_X9_row : Cond.code yX9_row cX9_row 5 (some .int) ∈ wAll := wmi 863 (by decide +kernel) (by decide +kernel)
theorem ki_X9_row : Cond.instanceMethod yX9_row ∈ wAll := wmi 861 (by decide +kernel) (by decide +kernel)
theorem ks_X9_row : Cond.selects yX9_row.cls yX9_row yX9_row ∈ lw_tbl := List.mem_of_getElem? (i := 862) (by decide +kernel)
theorem ksg_X9_row : goodWord (Cond.selects yX9_row.cls yX9_row yX9_row) = true := by decide +kernel
theorem kc_X9_same : Cond.code yX9_same cX9_same 2 (some .int) ∈ wAll := wmi 1022 (by decide +kernel) (by decide +kernel)
theorem ki_X9_same : Cond.instanceMethod yX9_same ∈ wAll := wmi 1020 (by decide +kernel) (by decide +kernel)
theorem ks_X9_same : Cond.selects yX9_same.cls yX9_same yX9_same ∈ lw_tbl := List.mem_of_getElem? (i := 1021) (by decide +kernel)
theorem ksg_X9_same : goodWord (Cond.selects yX9_same.cls yX9_same yX9_same) = true := by decide +kernel
theorem kc_X9_send : Cond.code yX9_send cX9_send 4 (some .int) ∈ wAll := wmi 1006 (by decide +kernel) (by decide +kernel)
theorem ki_X9_send : Cond.instanceMethod yX9_send ∈ wAll := wmi 1004 (by decide +kernel) (by decide +kernel)
theorem ks_X9_send : Cond.selects yX9_send.cls yX9_send yX9_send ∈ lw_tbl := List.mem_of_getElem? (i := 1005) (by decide +kernel)
theorem ksg_X9_send : goodWord (Cond.selects yX9_send.cls yX9_send yX9_send) = true := by decide +kernel
theorem kc_X9_shape : Cond.code yX9_shape cX9_shape 3 (some .int) ∈ wAll := wmi 920 (by decide +kernel) (by decide +kernel)
theorem ki_X9_shape : Cond.instanceMethod yX9_shape ∈ wAll := wmi 918 (by decide +kernel) (by decide +kernel)
theorem ks_X9_shape : Cond.selects yX9_shape.cls yX9_shape yX9_shape ∈ lw_tbl := List.mem_of_getElem? (i := 919) (by decide +kernel)
theorem ksg_X9_shape : goodWord (Cond.selects yX9_shape.cls yX9_shape yX9_shape) = true := by decide +kernel
theorem kc_X9_size : Cond.code yX9_size cX9_size 2 (some .int) ∈ wAll := wmi 964 (by decide +kernel) (by decide +kernel)
theorem ki_X9_size : Cond.instanceMethod yX9_size ∈ wAll := wmi 962 (by decide +kernel) (by decide +kernel)
theorem ks_X9_size : Cond.selects yX9_size.cls yX9_size yX9_size ∈ lw_tbl := List.mem_of_getElem? (i := 963) (by decide +kernel)
theorem ksg_X9_size : goodWord (Cond.selects yX9_size.cls yX9_size yX9_size) = true := by decide +kernel
theorem kc_X9_status : Cond.code yX9_status cX9_status 1 (some .int) ∈ wAll := wmi 1038 (by decide +kernel) (by decide +kernel)
theorem ki_X9_status : Cond.instanceMethod yX9_status ∈ wAll := wmi 1036 (by decide +kernel) (by decide +kernel)
theorem ks_X9_status : Cond.selects yX9_status.cls yX9_status yX9_status ∈ lw_tbl := List.mem_of_getElem? (i := 1037) (by decide +kernel)
theorem ksg_X9_status : goodWord (Cond.selects yX9_status.cls yX9_status yX9_status) = true := by decide +kernel
theorem kc_X9_touched : Cond.code yX9_touched cX9_touched 9 (some .int) ∈ wAll := wmi 1030 (by decide +kernel) (by decide +kernel)
theorem ki_X9_touched : Cond.instanceMethod yX9_touched ∈ wAll := wmi 1028 (by decide +kernel) (by decide +kernel)
theorem ks_X9_touched : Cond.selects yX9_touched.cls yX9_touched yX9_touched ∈ lw_tbl := List.mem_of_getElem? (i := 1029) (by decide +kernel)
theorem ksg_X9_touched : goodWord (Cond.selects yX9_touched.cls yX9_touched yX9_touched) = true := by decide +kernel
theorem kc_X9_value : Cond.code yX9_value cX9_value 4 (some .int) ∈ wAll := wmi 892 (by decide +kernel) (by decide +kernel)
theorem ki_X9_value : Cond.instanceMethod yX9_value ∈ wAll := wmi 890 (by decide +kernel) (by decide +kernel)
theorem ks_X9_value : Cond.selects yX9_value.cls yX9_value yX9_value ∈ lw_tbl := List.mem_of_getElem? (i := 891) (by decide +kernel)
theorem ksg_X9_value : goodWord (Cond.selects yX9_value.cls yX9_value yX9_value) = true := by decide +kernel
theorem kp_R_law_10 : NP R_law 10 9 := ⟨(RX9, TX9, 55), tyX9, rfl, by decide, by decide, hin9, wmi 687 (by decide +kernel) (by decide +kernel), wmi 688 (by decide +kernel) (by decide +kernel), wmi 47 (by decide +kernel) (by decide +kernel), tyX9_ok, by decide +kernel⟩
theorem kp_R_law_7 : NP R_law 7 8 := ⟨(RX8, TX8, 13), tyX8, rfl, by decide, by decide, hin8, wmi 56 (by decide +kernel) (by decide +kernel), wmi 57 (by decide +kernel) (by decide +kernel), wmi 41 (by decide +kernel) (by decide +kernel), tyX8_ok, by decide +kernel⟩
theorem kw_R_law_102 : CW R_law 102 yX9_status cX9_status 1 (some .int) 0 := ⟨wmi 1035 (by decide +kernel) (by decide +kernel), wmi 47 (by decide +kernel) (by decide +kernel), kc_X9_status, by decide, by decide, by decide +kernel⟩
theorem kw_R_law_12 : CW R_law 12 yX9_init cX9_init 1 none 0 := ⟨wmi 689 (by decide +kernel) (by decide +kernel), wmi 47 (by decide +kernel) (by decide +kernel), kc_X9_init, by decide, by decide, by decide +kernel⟩
theorem kw_R_law_13 : CW R_law 13 yX8_row cX8_row 6 (some .int) 4 := ⟨wmi 193 (by decide +kernel) (by decide +kernel), wmi 41 (by decide +kernel) (by decide +kernel), kc_X8_row, by decide, by decide, by decide +kernel⟩
theorem kw_R_law_17 : CW R_law 17 yX9_row cX9_row 5 (some .int) 4 := ⟨wmi 860 (by decide +kernel) (by decide +kernel), wmi 47 (by decide +kernel) (by decide +kernel), kc_X9_row, by decide, by decide, by decide +kernel⟩
theorem kw_R_law_18 : CW R_law 18 yX8_value cX8_value 4 (some .int) 2 := ⟨wmi 283 (by decide +kernel) (by decide +kernel), wmi 41 (by decide +kernel) (by decide +kernel), kc_X8_value, by decide, by decide, by decide +kernel⟩
theorem kw_R_law_22 : CW R_law 22 yX9_value cX9_value 4 (some .int) 2 := ⟨wmi 889 (by decide +kernel) (by decide +kernel), wmi 47 (by decide +kernel) (by decide +kernel), kc_X9_value, by decide, by decide, by decide +kernel⟩
theorem kw_R_law_23 : CW R_law 23 yX8_refer cX8_refer 5 (some .int) 3 := ⟨wmi 293 (by decide +kernel) (by decide +kernel), wmi 41 (by decide +kernel) (by decide +kernel), kc_X8_refer, by decide, by decide, by decide +kernel⟩
theorem kw_R_law_27 : CW R_law 27 yX9_refer cX9_refer 4 (some .int) 3 := ⟨wmi 893 (by decide +kernel) (by decide +kernel), wmi 47 (by decide +kernel) (by decide +kernel), kc_X9_refer, by decide, by decide, by decide +kernel⟩
theorem kw_R_law_28 : CW R_law 28 yX8_go cX8_go 3 (some .int) 1 := ⟨wmi 301 (by decide +kernel) (by decide +kernel), wmi 41 (by decide +kernel) (by decide +kernel), kc_X8_go, by decide, by decide, by decide +kernel⟩
theorem kw_R_law_32 : CW R_law 32 yX9_go cX9_go 2 (some .int) 1 := ⟨wmi 897 (by decide +kernel) (by decide +kernel), wmi 47 (by decide +kernel) (by decide +kernel), kc_X9_go, by decide, by decide, by decide +kernel⟩
theorem kw_R_law_33 : CW R_law 33 yX8_of cX8_of 4 (some .int) 2 := ⟨wmi 309 (by decide +kernel) (by decide +kernel), wmi 41 (by decide +kernel) (by decide +kernel), kc_X8_of, by decide, by decide, by decide +kernel⟩
theorem kw_R_law_36 : CW R_law 36 yX9_of cX9_of 3 (some .int) 2 := ⟨wmi 901 (by decide +kernel) (by decide +kernel), wmi 47 (by decide +kernel) (by decide +kernel), kc_X9_of, by decide, by decide, by decide +kernel⟩
theorem kw_R_law_37 : CW R_law 37 yX8_feed cX8_feed 6 (some .int) 5 := ⟨wmi 314 (by decide +kernel) (by decide +kernel), wmi 41 (by decide +kernel) (by decide +kernel), kc_X8_feed, by decide, by decide, by decide +kernel⟩
theorem kw_R_law_41 : CW R_law 41 yX9_feed cX9_feed 6 (some .int) 5 := ⟨wmi 905 (by decide +kernel) (by decide +kernel), wmi 47 (by decide +kernel) (by decide +kernel), kc_X9_feed, by decide, by decide, by decide +kernel⟩
theorem kw_R_law_42 : CW R_law 42 yX8_end cX8_end 2 (some .int) 1 := ⟨wmi 330 (by decide +kernel) (by decide +kernel), wmi 41 (by decide +kernel) (by decide +kernel), kc_X8_end, by decide, by decide, by decide +kernel⟩
theorem kw_R_law_45 : CW R_law 45 yX9_end cX9_end 2 (some .int) 1 := ⟨wmi 913 (by decide +kernel) (by decide +kernel), wmi 47 (by decide +kernel) (by decide +kernel), kc_X9_end, by decide, by decide, by decide +kernel⟩
theorem kw_R_law_46 : CW R_law 46 yX8_shape cX8_shape 4 (some .int) 0 := ⟨wmi 342 (by decide +kernel) (by decide +kernel), wmi 41 (by decide +kernel) (by decide +kernel), kc_X8_shape, by decide, by decide, by decide +kernel⟩
theorem kw_R_law_50 : CW R_law 50 yX9_shape cX9_shape 3 (some .int) 0 := ⟨wmi 917 (by decide +kernel) (by decide +kernel), wmi 47 (by decide +kernel) (by decide +kernel), kc_X9_shape, by decide, by decide, by decide +kernel⟩
theorem kw_R_law_51 : CW R_law 51 yX8_fault cX8_fault 1 (some .int) 0 := ⟨wmi 493 (by decide +kernel) (by decide +kernel), wmi 41 (by decide +kernel) (by decide +kernel), kc_X8_fault, by decide, by decide, by decide +kernel⟩
theorem kw_R_law_54 : CW R_law 54 yX9_fault cX9_fault 1 (some .int) 0 := ⟨wmi 957 (by decide +kernel) (by decide +kernel), wmi 47 (by decide +kernel) (by decide +kernel), kc_X9_fault, by decide, by decide, by decide +kernel⟩
theorem kw_R_law_55 : CW R_law 55 yX8_size cX8_size 2 (some .int) 1 := ⟨wmi 497 (by decide +kernel) (by decide +kernel), wmi 41 (by decide +kernel) (by decide +kernel), kc_X8_size, by decide, by decide, by decide +kernel⟩
theorem kw_R_law_58 : CW R_law 58 yX9_size cX9_size 2 (some .int) 1 := ⟨wmi 961 (by decide +kernel) (by decide +kernel), wmi 47 (by decide +kernel) (by decide +kernel), kc_X9_size, by decide, by decide, by decide +kernel⟩
theorem kw_R_law_59 : CW R_law 59 yX8_mark cX8_mark 3 (some .int) 2 := ⟨wmi 563 (by decide +kernel) (by decide +kernel), wmi 41 (by decide +kernel) (by decide +kernel), kc_X8_mark, by decide, by decide, by decide +kernel⟩
theorem kw_R_law_62 : CW R_law 62 yX9_mark cX9_mark 3 (some .int) 2 := ⟨wmi 981 (by decide +kernel) (by decide +kernel), wmi 47 (by decide +kernel) (by decide +kernel), kc_X9_mark, by decide, by decide, by decide +kernel⟩
theorem kw_R_law_63 : CW R_law 63 yX8_page cX8_page 10 (some .int) 4 := ⟨wmi 571 (by decide +kernel) (by decide +kernel), wmi 41 (by decide +kernel) (by decide +kernel), kc_X8_page, by decide, by decide, by decide +kernel⟩
theorem kw_R_law_66 : CW R_law 66 yX9_page cX9_page 8 (some .int) 4 := ⟨wmi 985 (by decide +kernel) (by decide +kernel), wmi 47 (by decide +kernel) (by decide +kernel), kc_X9_page, by decide, by decide, by decide +kernel⟩
theorem kw_R_law_67 : CW R_law 67 yX8_reader cX8_reader 3 (some .int) 1 := ⟨wmi 581 (by decide +kernel) (by decide +kernel), wmi 41 (by decide +kernel) (by decide +kernel), kc_X8_reader, by decide, by decide, by decide +kernel⟩
theorem kw_R_law_70 : CW R_law 70 yX9_reader cX9_reader 2 (some .int) 1 := ⟨wmi 999 (by decide +kernel) (by decide +kernel), wmi 47 (by decide +kernel) (by decide +kernel), kc_X9_reader, by decide, by decide, by decide +kernel⟩
theorem kw_R_law_71 : CW R_law 71 yX8_send cX8_send 4 (some .int) 0 := ⟨wmi 601 (by decide +kernel) (by decide +kernel), wmi 41 (by decide +kernel) (by decide +kernel), kc_X8_send, by decide, by decide, by decide +kernel⟩
theorem kw_R_law_74 : CW R_law 74 yX9_send cX9_send 4 (some .int) 0 := ⟨wmi 1003 (by decide +kernel) (by decide +kernel), wmi 47 (by decide +kernel) (by decide +kernel), kc_X9_send, by decide, by decide, by decide +kernel⟩
theorem kw_R_law_75 : CW R_law 75 yX8_holds cX8_holds 4 (some .int) 2 := ⟨wmi 614 (by decide +kernel) (by decide +kernel), wmi 41 (by decide +kernel) (by decide +kernel), kc_X8_holds, by decide, by decide, by decide +kernel⟩
theorem kw_R_law_78 : CW R_law 78 yX9_holds cX9_holds 3 (some .int) 2 := ⟨wmi 1011 (by decide +kernel) (by decide +kernel), wmi 47 (by decide +kernel) (by decide +kernel), kc_X9_holds, by decide, by decide, by decide +kernel⟩
theorem kw_R_law_79 : CW R_law 79 yX8_same cX8_same 3 (some .int) 1 := ⟨wmi 622 (by decide +kernel) (by decide +kernel), wmi 41 (by decide +kernel) (by decide +kernel), kc_X8_same, by decide, by decide, by decide +kernel⟩
theorem kw_R_law_82 : CW R_law 82 yX9_same cX9_same 2 (some .int) 1 := ⟨wmi 1019 (by decide +kernel) (by decide +kernel), wmi 47 (by decide +kernel) (by decide +kernel), kc_X9_same, by decide, by decide, by decide +kernel⟩
theorem kw_R_law_83 : CW R_law 83 yX8_edit cX8_edit 6 (some .int) 3 := ⟨wmi 626 (by decide +kernel) (by decide +kernel), wmi 41 (by decide +kernel) (by decide +kernel), kc_X8_edit, by decide, by decide, by decide +kernel⟩
theorem kw_R_law_86 : CW R_law 86 yX9_edit cX9_edit 6 (some .int) 3 := ⟨wmi 1023 (by decide +kernel) (by decide +kernel), wmi 47 (by decide +kernel) (by decide +kernel), kc_X9_edit, by decide, by decide, by decide +kernel⟩
theorem kw_R_law_87 : CW R_law 87 yX8_asOf cX8_asOf 4 (some .int) 3 := ⟨wmi 645 (by decide +kernel) (by decide +kernel), wmi 41 (by decide +kernel) (by decide +kernel), kc_X8_asOf, by decide, by decide, by decide +kernel⟩
theorem kw_R_law_9 : CW R_law 9 yX8_init cX8_init 1 none 0 := ⟨wmi 58 (by decide +kernel) (by decide +kernel), wmi 41 (by decide +kernel) (by decide +kernel), kc_X8_init, by decide, by decide, by decide +kernel⟩
theorem kw_R_law_90 : CW R_law 90 yX9_asOf cX9_asOf 5 (some .int) 3 := ⟨wmi 991 (by decide +kernel) (by decide +kernel), wmi 47 (by decide +kernel) (by decide +kernel), kc_X9_asOf, by decide, by decide, by decide +kernel⟩
theorem kw_R_law_91 : CW R_law 91 yX8_touched cX8_touched 7 (some .int) 2 := ⟨wmi 662 (by decide +kernel) (by decide +kernel), wmi 41 (by decide +kernel) (by decide +kernel), kc_X8_touched, by decide, by decide, by decide +kernel⟩
theorem kw_R_law_94 : CW R_law 94 yX9_touched cX9_touched 9 (some .int) 2 := ⟨wmi 1027 (by decide +kernel) (by decide +kernel), wmi 47 (by decide +kernel) (by decide +kernel), kc_X9_touched, by decide, by decide, by decide +kernel⟩
theorem kw_R_law_95 : CW R_law 95 yX8_count cX8_count 2 (some .int) 1 := ⟨wmi 674 (by decide +kernel) (by decide +kernel), wmi 41 (by decide +kernel) (by decide +kernel), kc_X8_count, by decide, by decide, by decide +kernel⟩
theorem kw_R_law_98 : CW R_law 98 yX9_count cX9_count 4 (some .int) 1 := ⟨wmi 1031 (by decide +kernel) (by decide +kernel), wmi 47 (by decide +kernel) (by decide +kernel), kc_X9_count, by decide, by decide, by decide +kernel⟩
theorem kw_R_law_99 : CW R_law 99 yX8_status cX8_status 1 (some .int) 0 := ⟨wmi 683 (by decide +kernel) (by decide +kernel), wmi 41 (by decide +kernel) (by decide +kernel), kc_X8_status, by decide, by decide, by decide +kernel⟩
def F_law (L : Nat) (xs : Nat → Int32) (a1 a2 : Nat) (I : Int32 → Nat → Hp → Prop) (v3 : Int32) (n : Nat) (σ18 : Hp) : Prop :=
  n ≤ 512 ∧ (((Int32.ofNat L) - (6 : Int32)) < v3 → True) ∧ (¬ (((Int32.ofNat L) - (6 : Int32)) < v3) → n < 512 ∧ vp_in v3 L ∧ ((Int32.toInt ((xs (Int32.toNatClampNeg v3)) &&& (31 : Int32)) < 0 ∨ 20 < Int32.toInt ((xs (Int32.toNatClampNeg v3)) &&& (31 : Int32))) → I (v3 + (6 : Int32)) (n + 1) σ18) ∧ (Int32.toInt ((xs (Int32.toNatClampNeg v3)) &&& (31 : Int32)) = 0 → vp_in (v3 + (1 : Int32)) L ∧ vp_in (v3 + (2 : Int32)) L ∧ vp_in (v3 + (3 : Int32)) L ∧ vp_in (v3 + (4 : Int32)) L ∧ gk σ18 a1 = some (8, 0) ∧ P_X8_row a1 (xs (Int32.toNatClampNeg (v3 + (1 : Int32)))) (xs (Int32.toNatClampNeg (v3 + (2 : Int32)))) (xs (Int32.toNatClampNeg (v3 + (3 : Int32)))) (xs (Int32.toNatClampNeg (v3 + (4 : Int32)))) σ18 (fun (r1 : Int32) (σ1 : Hp) => vp_in (v3 + (1 : Int32)) L ∧ vp_in (v3 + (2 : Int32)) L ∧ vp_in (v3 + (3 : Int32)) L ∧ vp_in (v3 + (4 : Int32)) L ∧ gk σ1 a2 = some (9, 0) ∧ P_X9_row a2 (xs (Int32.toNatClampNeg (v3 + (1 : Int32)))) (xs (Int32.toNatClampNeg (v3 + (2 : Int32)))) (xs (Int32.toNatClampNeg (v3 + (3 : Int32)))) (xs (Int32.toNatClampNeg (v3 + (4 : Int32)))) σ1 (fun (r2 : Int32) (σ2 : Hp) => (r1 = r2 → I (v3 + (6 : Int32)) (n + 1) σ2) ∧ (¬ (r1 = r2) → False)))) ∧ (Int32.toInt ((xs (Int32.toNatClampNeg v3)) &&& (31 : Int32)) = 1 → vp_in (v3 + (1 : Int32)) L ∧ vp_in (v3 + (2 : Int32)) L ∧ gk σ18 a1 = some (8, 0) ∧ P_X8_value a1 (xs (Int32.toNatClampNeg (v3 + (1 : Int32)))) (xs (Int32.toNatClampNeg (v3 + (2 : Int32)))) σ18 (fun (r3 : Int32) (σ3 : Hp) => vp_in (v3 + (1 : Int32)) L ∧ vp_in (v3 + (2 : Int32)) L ∧ gk σ3 a2 = some (9, 0) ∧ P_X9_value a2 (xs (Int32.toNatClampNeg (v3 + (1 : Int32)))) (xs (Int32.toNatClampNeg (v3 + (2 : Int32)))) σ3 (fun (r4 : Int32) (σ4 : Hp) => (r3 = r4 → I (v3 + (6 : Int32)) (n + 1) σ4) ∧ (¬ (r3 = r4) → False)))) ∧ (Int32.toInt ((xs (Int32.toNatClampNeg v3)) &&& (31 : Int32)) = 2 → vp_in (v3 + (1 : Int32)) L ∧ vp_in (v3 + (2 : Int32)) L ∧ vp_in (v3 + (3 : Int32)) L ∧ gk σ18 a1 = some (8, 0) ∧ P_X8_refer a1 (xs (Int32.toNatClampNeg (v3 + (1 : Int32)))) (xs (Int32.toNatClampNeg (v3 + (2 : Int32)))) (xs (Int32.toNatClampNeg (v3 + (3 : Int32)))) σ18 (fun (r5 : Int32) (σ5 : Hp) => vp_in (v3 + (1 : Int32)) L ∧ vp_in (v3 + (2 : Int32)) L ∧ vp_in (v3 + (3 : Int32)) L ∧ gk σ5 a2 = some (9, 0) ∧ P_X9_refer a2 (xs (Int32.toNatClampNeg (v3 + (1 : Int32)))) (xs (Int32.toNatClampNeg (v3 + (2 : Int32)))) (xs (Int32.toNatClampNeg (v3 + (3 : Int32)))) σ5 (fun (r6 : Int32) (σ6 : Hp) => (r5 = r6 → I (v3 + (6 : Int32)) (n + 1) σ6) ∧ (¬ (r5 = r6) → False)))) ∧ (Int32.toInt ((xs (Int32.toNatClampNeg v3)) &&& (31 : Int32)) = 3 → vp_in (v3 + (1 : Int32)) L ∧ gk σ18 a1 = some (8, 0) ∧ P_X8_go a1 (xs (Int32.toNatClampNeg (v3 + (1 : Int32)))) σ18 (fun (r7 : Int32) (σ7 : Hp) => vp_in (v3 + (1 : Int32)) L ∧ gk σ7 a2 = some (9, 0) ∧ P_X9_go a2 (xs (Int32.toNatClampNeg (v3 + (1 : Int32)))) σ7 (fun (r8 : Int32) (σ8 : Hp) => (r7 = r8 → I (v3 + (6 : Int32)) (n + 1) σ8) ∧ (¬ (r7 = r8) → False)))) ∧ (Int32.toInt ((xs (Int32.toNatClampNeg v3)) &&& (31 : Int32)) = 4 → vp_in (v3 + (1 : Int32)) L ∧ vp_in (v3 + (2 : Int32)) L ∧ gk σ18 a1 = some (8, 0) ∧ P_X8_of a1 (xs (Int32.toNatClampNeg (v3 + (1 : Int32)))) (xs (Int32.toNatClampNeg (v3 + (2 : Int32)))) σ18 (fun (r9 : Int32) (σ9 : Hp) => vp_in (v3 + (1 : Int32)) L ∧ vp_in (v3 + (2 : Int32)) L ∧ gk σ9 a2 = some (9, 0) ∧ P_X9_of a2 (xs (Int32.toNatClampNeg (v3 + (1 : Int32)))) (xs (Int32.toNatClampNeg (v3 + (2 : Int32)))) σ9 (fun (r10 : Int32) (σ10 : Hp) => (r9 = r10 → I (v3 + (6 : Int32)) (n + 1) σ10) ∧ (¬ (r9 = r10) → False)))) ∧ (Int32.toInt ((xs (Int32.toNatClampNeg v3)) &&& (31 : Int32)) = 5 → vp_in (v3 + (1 : Int32)) L ∧ vp_in (v3 + (2 : Int32)) L ∧ vp_in (v3 + (3 : Int32)) L ∧ vp_in (v3 + (4 : Int32)) L ∧ vp_in (v3 + (5 : Int32)) L ∧ gk σ18 a1 = some (8, 0) ∧ P_X8_feed a1 (xs (Int32.toNatClampNeg (v3 + (1 : Int32)))) (xs (Int32.toNatClampNeg (v3 + (2 : Int32)))) (xs (Int32.toNatClampNeg (v3 + (3 : Int32)))) (xs (Int32.toNatClampNeg (v3 + (4 : Int32)))) (xs (Int32.toNatClampNeg (v3 + (5 : Int32)))) σ18 (fun (r11 : Int32) (σ11 : Hp) => vp_in (v3 + (1 : Int32)) L ∧ vp_in (v3 + (2 : Int32)) L ∧ vp_in (v3 + (3 : Int32)) L ∧ vp_in (v3 + (4 : Int32)) L ∧ vp_in (v3 + (5 : Int32)) L ∧ gk σ11 a2 = some (9, 0) ∧ P_X9_feed a2 (xs (Int32.toNatClampNeg (v3 + (1 : Int32)))) (xs (Int32.toNatClampNeg (v3 + (2 : Int32)))) (xs (Int32.toNatClampNeg (v3 + (3 : Int32)))) (xs (Int32.toNatClampNeg (v3 + (4 : Int32)))) (xs (Int32.toNatClampNeg (v3 + (5 : Int32)))) σ11 (fun (r12 : Int32) (σ12 : Hp) => (r11 = r12 → I (v3 + (6 : Int32)) (n + 1) σ12) ∧ (¬ (r11 = r12) → False)))) ∧ (Int32.toInt ((xs (Int32.toNatClampNeg v3)) &&& (31 : Int32)) = 6 → vp_in (v3 + (1 : Int32)) L ∧ gk σ18 a1 = some (8, 0) ∧ P_X8_end a1 (xs (Int32.toNatClampNeg (v3 + (1 : Int32)))) σ18 (fun (r13 : Int32) (σ13 : Hp) => vp_in (v3 + (1 : Int32)) L ∧ gk σ13 a2 = some (9, 0) ∧ P_X9_end a2 (xs (Int32.toNatClampNeg (v3 + (1 : Int32)))) σ13 (fun (r14 : Int32) (σ14 : Hp) => (r13 = r14 → I (v3 + (6 : Int32)) (n + 1) σ14) ∧ (¬ (r13 = r14) → False)))) ∧ (Int32.toInt ((xs (Int32.toNatClampNeg v3)) &&& (31 : Int32)) = 7 → gk σ18 a1 = some (8, 0) ∧ P_X8_shape a1 σ18 (fun (r15 : Int32) (σ15 : Hp) => gk σ15 a2 = some (9, 0) ∧ P_X9_shape a2 σ15 (fun (r16 : Int32) (σ16 : Hp) => (r15 = r16 → I (v3 + (6 : Int32)) (n + 1) σ16) ∧ (¬ (r15 = r16) → False)))) ∧ (Int32.toInt ((xs (Int32.toNatClampNeg v3)) &&& (31 : Int32)) = 8 → gk σ18 a1 = some (8, 0) ∧ P_X8_fault a1 σ18 (fun (r17 : Int32) (σ17 : Hp) => gk σ17 a2 = some (9, 0) ∧ P_X9_fault a2 σ17 (fun (r18 : Int32) (σ18 : Hp) => (r17 = r18 → I (v3 + (6 : Int32)) (n + 1) σ18) ∧ (¬ (r17 = r18) → False)))) ∧ (Int32.toInt ((xs (Int32.toNatClampNeg v3)) &&& (31 : Int32)) = 9 → vp_in (v3 + (1 : Int32)) L ∧ gk σ18 a1 = some (8, 0) ∧ P_X8_size a1 (xs (Int32.toNatClampNeg (v3 + (1 : Int32)))) σ18 (fun (r19 : Int32) (σ19 : Hp) => vp_in (v3 + (1 : Int32)) L ∧ gk σ19 a2 = some (9, 0) ∧ P_X9_size a2 (xs (Int32.toNatClampNeg (v3 + (1 : Int32)))) σ19 (fun (r20 : Int32) (σ20 : Hp) => (r19 = r20 → I (v3 + (6 : Int32)) (n + 1) σ20) ∧ (¬ (r19 = r20) → False)))) ∧ (Int32.toInt ((xs (Int32.toNatClampNeg v3)) &&& (31 : Int32)) = 10 → vp_in (v3 + (1 : Int32)) L ∧ vp_in (v3 + (2 : Int32)) L ∧ gk σ18 a1 = some (8, 0) ∧ P_X8_mark a1 (xs (Int32.toNatClampNeg (v3 + (1 : Int32)))) (xs (Int32.toNatClampNeg (v3 + (2 : Int32)))) σ18 (fun (r21 : Int32) (σ21 : Hp) => vp_in (v3 + (1 : Int32)) L ∧ vp_in (v3 + (2 : Int32)) L ∧ gk σ21 a2 = some (9, 0) ∧ P_X9_mark a2 (xs (Int32.toNatClampNeg (v3 + (1 : Int32)))) (xs (Int32.toNatClampNeg (v3 + (2 : Int32)))) σ21 (fun (r22 : Int32) (σ22 : Hp) => (r21 = r22 → I (v3 + (6 : Int32)) (n + 1) σ22) ∧ (¬ (r21 = r22) → False)))) ∧ (Int32.toInt ((xs (Int32.toNatClampNeg v3)) &&& (31 : Int32)) = 11 → vp_in (v3 + (1 : Int32)) L ∧ vp_in (v3 + (2 : Int32)) L ∧ vp_in (v3 + (3 : Int32)) L ∧ vp_in (v3 + (4 : Int32)) L ∧ gk σ18 a1 = some (8, 0) ∧ P_X8_page a1 (xs (Int32.toNatClampNeg (v3 + (1 : Int32)))) (xs (Int32.toNatClampNeg (v3 + (2 : Int32)))) (xs (Int32.toNatClampNeg (v3 + (3 : Int32)))) (xs (Int32.toNatClampNeg (v3 + (4 : Int32)))) σ18 (fun (r23 : Int32) (σ23 : Hp) => vp_in (v3 + (1 : Int32)) L ∧ vp_in (v3 + (2 : Int32)) L ∧ vp_in (v3 + (3 : Int32)) L ∧ vp_in (v3 + (4 : Int32)) L ∧ gk σ23 a2 = some (9, 0) ∧ P_X9_page a2 (xs (Int32.toNatClampNeg (v3 + (1 : Int32)))) (xs (Int32.toNatClampNeg (v3 + (2 : Int32)))) (xs (Int32.toNatClampNeg (v3 + (3 : Int32)))) (xs (Int32.toNatClampNeg (v3 + (4 : Int32)))) σ23 (fun (r24 : Int32) (σ24 : Hp) => (r23 = r24 → I (v3 + (6 : Int32)) (n + 1) σ24) ∧ (¬ (r23 = r24) → False)))) ∧ (Int32.toInt ((xs (Int32.toNatClampNeg v3)) &&& (31 : Int32)) = 12 → vp_in (v3 + (1 : Int32)) L ∧ gk σ18 a1 = some (8, 0) ∧ P_X8_reader a1 (xs (Int32.toNatClampNeg (v3 + (1 : Int32)))) σ18 (fun (r25 : Int32) (σ25 : Hp) => vp_in (v3 + (1 : Int32)) L ∧ gk σ25 a2 = some (9, 0) ∧ P_X9_reader a2 (xs (Int32.toNatClampNeg (v3 + (1 : Int32)))) σ25 (fun (r26 : Int32) (σ26 : Hp) => (r25 = r26 → I (v3 + (6 : Int32)) (n + 1) σ26) ∧ (¬ (r25 = r26) → False)))) ∧ (Int32.toInt ((xs (Int32.toNatClampNeg v3)) &&& (31 : Int32)) = 13 → gk σ18 a1 = some (8, 0) ∧ P_X8_send a1 σ18 (fun (r27 : Int32) (σ27 : Hp) => gk σ27 a2 = some (9, 0) ∧ P_X9_send a2 σ27 (fun (r28 : Int32) (σ28 : Hp) => (r27 = r28 → I (v3 + (6 : Int32)) (n + 1) σ28) ∧ (¬ (r27 = r28) → False)))) ∧ (Int32.toInt ((xs (Int32.toNatClampNeg v3)) &&& (31 : Int32)) = 14 → vp_in (v3 + (1 : Int32)) L ∧ vp_in (v3 + (2 : Int32)) L ∧ gk σ18 a1 = some (8, 0) ∧ P_X8_holds a1 (xs (Int32.toNatClampNeg (v3 + (1 : Int32)))) (xs (Int32.toNatClampNeg (v3 + (2 : Int32)))) σ18 (fun (r29 : Int32) (σ29 : Hp) => vp_in (v3 + (1 : Int32)) L ∧ vp_in (v3 + (2 : Int32)) L ∧ gk σ29 a2 = some (9, 0) ∧ P_X9_holds a2 (xs (Int32.toNatClampNeg (v3 + (1 : Int32)))) (xs (Int32.toNatClampNeg (v3 + (2 : Int32)))) σ29 (fun (r30 : Int32) (σ30 : Hp) => (r29 = r30 → I (v3 + (6 : Int32)) (n + 1) σ30) ∧ (¬ (r29 = r30) → False)))) ∧ (Int32.toInt ((xs (Int32.toNatClampNeg v3)) &&& (31 : Int32)) = 15 → vp_in (v3 + (1 : Int32)) L ∧ gk σ18 a1 = some (8, 0) ∧ P_X8_same a1 (xs (Int32.toNatClampNeg (v3 + (1 : Int32)))) σ18 (fun (r31 : Int32) (σ31 : Hp) => vp_in (v3 + (1 : Int32)) L ∧ gk σ31 a2 = some (9, 0) ∧ P_X9_same a2 (xs (Int32.toNatClampNeg (v3 + (1 : Int32)))) σ31 (fun (r32 : Int32) (σ32 : Hp) => (r31 = r32 → I (v3 + (6 : Int32)) (n + 1) σ32) ∧ (¬ (r31 = r32) → False)))) ∧ (Int32.toInt ((xs (Int32.toNatClampNeg v3)) &&& (31 : Int32)) = 16 → vp_in (v3 + (1 : Int32)) L ∧ vp_in (v3 + (2 : Int32)) L ∧ vp_in (v3 + (3 : Int32)) L ∧ gk σ18 a1 = some (8, 0) ∧ P_X8_edit a1 (xs (Int32.toNatClampNeg (v3 + (1 : Int32)))) (xs (Int32.toNatClampNeg (v3 + (2 : Int32)))) (xs (Int32.toNatClampNeg (v3 + (3 : Int32)))) σ18 (fun (r33 : Int32) (σ33 : Hp) => vp_in (v3 + (1 : Int32)) L ∧ vp_in (v3 + (2 : Int32)) L ∧ vp_in (v3 + (3 : Int32)) L ∧ gk σ33 a2 = some (9, 0) ∧ P_X9_edit a2 (xs (Int32.toNatClampNeg (v3 + (1 : Int32)))) (xs (Int32.toNatClampNeg (v3 + (2 : Int32)))) (xs (Int32.toNatClampNeg (v3 + (3 : Int32)))) σ33 (fun (r34 : Int32) (σ34 : Hp) => (r33 = r34 → I (v3 + (6 : Int32)) (n + 1) σ34) ∧ (¬ (r33 = r34) → False)))) ∧ (Int32.toInt ((xs (Int32.toNatClampNeg v3)) &&& (31 : Int32)) = 17 → vp_in (v3 + (1 : Int32)) L ∧ vp_in (v3 + (2 : Int32)) L ∧ vp_in (v3 + (3 : Int32)) L ∧ gk σ18 a1 = some (8, 0) ∧ P_X8_asOf a1 (xs (Int32.toNatClampNeg (v3 + (1 : Int32)))) (xs (Int32.toNatClampNeg (v3 + (2 : Int32)))) (xs (Int32.toNatClampNeg (v3 + (3 : Int32)))) σ18 (fun (r35 : Int32) (σ35 : Hp) => vp_in (v3 + (1 : Int32)) L ∧ vp_in (v3 + (2 : Int32)) L ∧ vp_in (v3 + (3 : Int32)) L ∧ gk σ35 a2 = some (9, 0) ∧ P_X9_asOf a2 (xs (Int32.toNatClampNeg (v3 + (1 : Int32)))) (xs (Int32.toNatClampNeg (v3 + (2 : Int32)))) (xs (Int32.toNatClampNeg (v3 + (3 : Int32)))) σ35 (fun (r36 : Int32) (σ36 : Hp) => (r35 = r36 → I (v3 + (6 : Int32)) (n + 1) σ36) ∧ (¬ (r35 = r36) → False)))) ∧ (Int32.toInt ((xs (Int32.toNatClampNeg v3)) &&& (31 : Int32)) = 18 → vp_in (v3 + (1 : Int32)) L ∧ vp_in (v3 + (2 : Int32)) L ∧ gk σ18 a1 = some (8, 0) ∧ P_X8_touched a1 (xs (Int32.toNatClampNeg (v3 + (1 : Int32)))) (xs (Int32.toNatClampNeg (v3 + (2 : Int32)))) σ18 (fun (r37 : Int32) (σ37 : Hp) => vp_in (v3 + (1 : Int32)) L ∧ vp_in (v3 + (2 : Int32)) L ∧ gk σ37 a2 = some (9, 0) ∧ P_X9_touched a2 (xs (Int32.toNatClampNeg (v3 + (1 : Int32)))) (xs (Int32.toNatClampNeg (v3 + (2 : Int32)))) σ37 (fun (r38 : Int32) (σ38 : Hp) => (r37 = r38 → I (v3 + (6 : Int32)) (n + 1) σ38) ∧ (¬ (r37 = r38) → False)))) ∧ (Int32.toInt ((xs (Int32.toNatClampNeg v3)) &&& (31 : Int32)) = 19 → vp_in (v3 + (1 : Int32)) L ∧ gk σ18 a1 = some (8, 0) ∧ P_X8_count a1 (xs (Int32.toNatClampNeg (v3 + (1 : Int32)))) σ18 (fun (r39 : Int32) (σ39 : Hp) => vp_in (v3 + (1 : Int32)) L ∧ gk σ39 a2 = some (9, 0) ∧ P_X9_count a2 (xs (Int32.toNatClampNeg (v3 + (1 : Int32)))) σ39 (fun (r40 : Int32) (σ40 : Hp) => (r39 = r40 → I (v3 + (6 : Int32)) (n + 1) σ40) ∧ (¬ (r39 = r40) → False)))) ∧ (Int32.toInt ((xs (Int32.toNatClampNeg v3)) &&& (31 : Int32)) = 20 → gk σ18 a1 = some (8, 0) ∧ P_X8_status a1 σ18 (fun (r41 : Int32) (σ41 : Hp) => gk σ41 a2 = some (9, 0) ∧ P_X9_status a2 σ41 (fun (r42 : Int32) (σ42 : Hp) => (r41 = r42 → I (v3 + (6 : Int32)) (n + 1) σ42) ∧ (¬ (r41 = r42) → False)))))
def P_law (L : Nat) (xs : Nat → Int32) (σ : Hp) : Prop :=
  ∀ q1 : Nat, gk σ q1 = none → P_X8_init q1 (nw σ q1 8 0) (fun (σ2 : Hp) => ∀ q3 : Nat, gk σ2 q3 = none → P_X9_init q3 (nw σ2 q3 9 0) (fun (σ4 : Hp) => lfp2 (F_law L xs q1 q3) (0 : Int32) 0 σ4))
section LAW
variable {p : Program} {l : Launch} {e : Env} {R : Room} {s : State} {m : MethodId} {args : Array Value} {below : List Frame} {meth : Method} {c : Code} {Q : State → Prop} {G : GG} {N0 : Nat} {own : String} {cc : ByteArray} {nL : Nat}
variable {σ : Hp} {cu su pc : Nat} {lv lv' : List (Nat × Value)} {st : List Value}
theorem V_slen (X : EX p s m args meth c G s.heap.size own cc nL) {b L : Nat} {xs : Nat → Int32} (hX : va_X b L xs s s.heap) (hbl : b < s.heap.size) (hd : decode cc pc = .ok (.arraylength, 1)) (k : V p l e R s m args below meth c Q G s.heap.size nL σ cu su (pc + 1) lv (.int (Int32.ofNat L) :: st)) : V p l e R s m args below meth c Q G s.heap.size nL σ cu su pc lv (.ref b :: st) := fun H locs ls hH hS hL =>
  va_slen (A := AN s.heap.size) X.1 X.2.1 hX hbl (Nat.not_le.mpr hbl) hS hd (k H locs ls hH hS hL)
theorem V_sld (X : EX p s m args meth c G s.heap.size own cc nL) {b L : Nat} {xs : Nat → Int32} {i : Int32} (hX : va_X b L xs s s.heap) (hbl : b < s.heap.size) (hi : vp_in i L) (hd : decode cc pc = .ok (.iaload, 1)) (k : V p l e R s m args below meth c Q G s.heap.size nL σ cu su (pc + 1) lv (.int (xs i.toNatClampNeg) :: st)) : V p l e R s m args below meth c Q G s.heap.size nL σ cu su pc lv (.int i :: .ref b :: st) := fun H locs ls hH hS hL =>
  va_sld (A := AN s.heap.size) X.1 X.2.1 hX hbl (Nat.not_le.mpr hbl) hS hi hd (k H locs ls hH hS hL)
theorem V_lawret {b : Nat} (X : EX p s m #[Value.ref b] meth c G s.heap.size own code nL) (hr : meth.sig.returnType = ret) (hd : decode code pc = .ok (.ireturn, 1)) (hc : cu ≤ 600000 ∧ su ≤ 7302250) : V p l e room_1 s m #[Value.ref b] below meth c (lw_Z below #[Value.ref b] s) G s.heap.size nL σ cu su pc lv [.int 1] := fun H locs ls hH hS hL =>
  va_forget hS.2.2 (W.widen hc.1 hc.2 (lw_ret X.1 X.2.1 hr X.2.2.2.2.2.1 hd))
end LAW
set_option maxHeartbeats 4000000 in
set_option maxRecDepth 100000 in
theorem law_loop {p : Program} (l : Launch) {e : Env} {s : State} {m : MethodId} {below : List Frame} {meth : Method} {c : Code} {G : GG} {b L : Nat} {xs : Nat → Int32} (hrl : meth.sig.returnType = ret) (X : EX p s m #[Value.ref b] meth c G s.heap.size R_law code 4) (hXs : va_X b L xs s s.heap) (hbl : b < s.heap.size) (a1 a2 : Nat) (v3 : Int32) (n : Nat) (σ : Hp) (hP : lfp2 (F_law L xs a1 a2) v3 n σ) : V p l e room_1 s m #[Value.ref b] below meth c (lw_Z below #[Value.ref b] s) G s.heap.size 4 σ (63 + 3 * n) (20676 + 605 * n) 18 [(0, .ref b), (1, .ref a1), (2, .ref a2), (3, .int v3)] [] := by
  refine lfp2_use (fun v3 n σ18 => V p l e room_1 s m #[Value.ref b] below meth c (lw_Z below #[Value.ref b] s) G s.heap.size 4 σ18 (63 + 3 * n) (20676 + 605 * n) 18 [(0, .ref b), (1, .ref a1), (2, .ref a2), (3, .int v3)] []) hP ?_
  intro v3 n σ18 hP
  unfold F_law at hP
  obtain ⟨hn, hP⟩ := hP
  refine V_iload_n X dL_law_18 rfl 3 rfl ?_
  refine V_aload_n X dL_law_19 rfl 0 rfl ?_
  refine V_slen X hXs hbl dL_law_20 ?_
  refine V_bipush X (v := (6 : Int32)) dL_law_21 (by decide) ?_
  refine V_isub X dL_law_23 ?_
  refine V_icmp_gt X (tgt := 791) dL_law_24 (by decide) (fun h1 => ?_) (fun h1 => ?_)
  · have hP := hP.1 h1
    refine V_iconst X (v := (1 : Int32)) dL_law_791 (by decide) ?_
    exact V_lawret X hrl dL_law_792 ⟨by omega, by omega⟩
  · have hP := hP.2 h1
    obtain ⟨hn512, hP⟩ := hP
    refine V_aload_n X dL_law_27 rfl 0 rfl ?_
    refine V_iload_n X dL_law_28 rfl 3 rfl ?_
    obtain ⟨h3, hP⟩ := hP
    refine V_sld X hXs hbl h3 dL_law_29 ?_
    refine V_bipush X (v := (31 : Int32)) dL_law_30 (by decide) ?_
    refine V_iand X dL_law_32 ?_
    rcases (show (Int32.toInt ((xs (Int32.toNatClampNeg v3)) &&& (31 : Int32)) < 0 ∨ 20 < Int32.toInt ((xs (Int32.toNatClampNeg v3)) &&& (31 : Int32))) ∨ Int32.toInt ((xs (Int32.toNatClampNeg v3)) &&& (31 : Int32)) = 0 ∨ Int32.toInt ((xs (Int32.toNatClampNeg v3)) &&& (31 : Int32)) = 1 ∨ Int32.toInt ((xs (Int32.toNatClampNeg v3)) &&& (31 : Int32)) = 2 ∨ Int32.toInt ((xs (Int32.toNatClampNeg v3)) &&& (31 : Int32)) = 3 ∨ Int32.toInt ((xs (Int32.toNatClampNeg v3)) &&& (31 : Int32)) = 4 ∨ Int32.toInt ((xs (Int32.toNatClampNeg v3)) &&& (31 : Int32)) = 5 ∨ Int32.toInt ((xs (Int32.toNatClampNeg v3)) &&& (31 : Int32)) = 6 ∨ Int32.toInt ((xs (Int32.toNatClampNeg v3)) &&& (31 : Int32)) = 7 ∨ Int32.toInt ((xs (Int32.toNatClampNeg v3)) &&& (31 : Int32)) = 8 ∨ Int32.toInt ((xs (Int32.toNatClampNeg v3)) &&& (31 : Int32)) = 9 ∨ Int32.toInt ((xs (Int32.toNatClampNeg v3)) &&& (31 : Int32)) = 10 ∨ Int32.toInt ((xs (Int32.toNatClampNeg v3)) &&& (31 : Int32)) = 11 ∨ Int32.toInt ((xs (Int32.toNatClampNeg v3)) &&& (31 : Int32)) = 12 ∨ Int32.toInt ((xs (Int32.toNatClampNeg v3)) &&& (31 : Int32)) = 13 ∨ Int32.toInt ((xs (Int32.toNatClampNeg v3)) &&& (31 : Int32)) = 14 ∨ Int32.toInt ((xs (Int32.toNatClampNeg v3)) &&& (31 : Int32)) = 15 ∨ Int32.toInt ((xs (Int32.toNatClampNeg v3)) &&& (31 : Int32)) = 16 ∨ Int32.toInt ((xs (Int32.toNatClampNeg v3)) &&& (31 : Int32)) = 17 ∨ Int32.toInt ((xs (Int32.toNatClampNeg v3)) &&& (31 : Int32)) = 18 ∨ Int32.toInt ((xs (Int32.toNatClampNeg v3)) &&& (31 : Int32)) = 19 ∨ Int32.toInt ((xs (Int32.toNatClampNeg v3)) &&& (31 : Int32)) = 20 by omega) with h4 | h4 | h4 | h4 | h4 | h4 | h4 | h4 | h4 | h4 | h4 | h4 | h4 | h4 | h4 | h4 | h4 | h4 | h4 | h4 | h4 | h4
    · have hP := hP.1 h4
      refine V_tabOut X (tgt := 785) dL_law_33 h4 (by decide) ?_
      refine V_iinc X (v := (v3 + (6 : Int32))) (lv' := [(3, .int (v3 + (6 : Int32))), (0, .ref b), (1, .ref a1), (2, .ref a2)]) dL_law_785 3 rfl rfl (by decide) rfl ?_
      refine V_goto X (tgt := 18) dL_law_788 (by decide) ?_
      exact V.to [1, 2, 3, 0] rfl rfl (V.widen (by omega) (by omega) hP)
    · have hP := hP.2.1 h4
      refine V_tabIn X (tgt := 132) (off := 99) dL_law_33 (by omega) (by omega) (by rw [h4]; rfl) (by decide) ?_
      refine V_aload_n X dL_law_132 rfl 1 rfl ?_
      refine V_aload_n X dL_law_133 rfl 0 rfl ?_
      refine V_iload_n X dL_law_134 rfl 3 rfl ?_
      refine V_iconst X (v := (1 : Int32)) dL_law_135 (by decide) ?_
      refine V_iadd X dL_law_136 ?_
      obtain ⟨h5, hP⟩ := hP
      refine V_sld X hXs hbl h5 dL_law_137 ?_
      refine V_aload_n X dL_law_138 rfl 0 rfl ?_
      refine V_iload_n X dL_law_139 rfl 3 rfl ?_
      refine V_iconst X (v := (2 : Int32)) dL_law_140 (by decide) ?_
      refine V_iadd X dL_law_141 ?_
      obtain ⟨h6, hP⟩ := hP
      refine V_sld X hXs hbl h6 dL_law_142 ?_
      refine V_aload_n X dL_law_143 rfl 0 rfl ?_
      refine V_iload_n X dL_law_144 rfl 3 rfl ?_
      refine V_iconst X (v := (3 : Int32)) dL_law_145 (by decide) ?_
      refine V_iadd X dL_law_146 ?_
      obtain ⟨h7, hP⟩ := hP
      refine V_sld X hXs hbl h7 dL_law_147 ?_
      refine V_aload_n X dL_law_148 rfl 0 rfl ?_
      refine V_iload_n X dL_law_149 rfl 3 rfl ?_
      refine V_iconst X (v := (4 : Int32)) dL_law_150 (by decide) ?_
      refine V_iadd X dL_law_151 ?_
      obtain ⟨h8, hP⟩ := hP
      refine V_sld X hXs hbl h8 dL_law_152 ?_
      obtain ⟨h9, hP⟩ := hP
      refine V_callV_i X [.int (xs (Int32.toNatClampNeg (v3 + (1 : Int32)))), .int (xs (Int32.toNatClampNeg (v3 + (2 : Int32)))), .int (xs (Int32.toNatClampNeg (v3 + (3 : Int32)))), .int (xs (Int32.toNatClampNeg (v3 + (4 : Int32))))] kw_R_law_13 ki_X8_row ks_X8_row ksg_X8_row (m_X8_row l G s.heap.size _ _ _ _ _ _ _ hP) h9 (by decide) rfl rfl ⟨Nat.le_of_ble_eq_true rfl, Nat.le_of_ble_eq_true rfl⟩ (Nat.le_of_ble_eq_true rfl) ⟨show 63 + 3 * n + 1 ≤ 600000 from by omega, show 20676 + 605 * n + 6 ≤ 7302250 from by omega⟩ rfl dL_law_153 (fun r1 σ1 hP => ?_)
      refine V_aload_n X dL_law_156 rfl 2 rfl ?_
      refine V_aload_n X dL_law_157 rfl 0 rfl ?_
      refine V_iload_n X dL_law_158 rfl 3 rfl ?_
      refine V_iconst X (v := (1 : Int32)) dL_law_159 (by decide) ?_
      refine V_iadd X dL_law_160 ?_
      obtain ⟨h10, hP⟩ := hP
      refine V_sld X hXs hbl h10 dL_law_161 ?_
      refine V_aload_n X dL_law_162 rfl 0 rfl ?_
      refine V_iload_n X dL_law_163 rfl 3 rfl ?_
      refine V_iconst X (v := (2 : Int32)) dL_law_164 (by decide) ?_
      refine V_iadd X dL_law_165 ?_
      obtain ⟨h11, hP⟩ := hP
      refine V_sld X hXs hbl h11 dL_law_166 ?_
      refine V_aload_n X dL_law_167 rfl 0 rfl ?_
      refine V_iload_n X dL_law_168 rfl 3 rfl ?_
      refine V_iconst X (v := (3 : Int32)) dL_law_169 (by decide) ?_
      refine V_iadd X dL_law_170 ?_
      obtain ⟨h12, hP⟩ := hP
      refine V_sld X hXs hbl h12 dL_law_171 ?_
      refine V_aload_n X dL_law_172 rfl 0 rfl ?_
      refine V_iload_n X dL_law_173 rfl 3 rfl ?_
      refine V_iconst X (v := (4 : Int32)) dL_law_174 (by decide) ?_
      refine V_iadd X dL_law_175 ?_
      obtain ⟨h13, hP⟩ := hP
      refine V_sld X hXs hbl h13 dL_law_176 ?_
      obtain ⟨h14, hP⟩ := hP
      refine V_callV_i X [.int (xs (Int32.toNatClampNeg (v3 + (1 : Int32)))), .int (xs (Int32.toNatClampNeg (v3 + (2 : Int32)))), .int (xs (Int32.toNatClampNeg (v3 + (3 : Int32)))), .int (xs (Int32.toNatClampNeg (v3 + (4 : Int32))))] kw_R_law_17 ki_X9_row ks_X9_row ksg_X9_row (m_X9_row l G s.heap.size _ _ _ _ _ _ _ hP) h14 (by decide) rfl rfl ⟨Nat.le_of_ble_eq_true rfl, Nat.le_of_ble_eq_true rfl⟩ (Nat.le_of_ble_eq_true rfl) ⟨show 63 + 3 * n + 1 + 0 ≤ 600000 from by omega, show 20676 + 605 * n + 6 + 0 ≤ 7302250 from by omega⟩ rfl dL_law_177 (fun r2 σ2 hP => ?_)
      refine V_icmp_eq X (tgt := 785) dL_law_180 (by decide) (fun h15 => ?_) (fun h15 => ?_)
      · have hP := hP.1 h15
        refine V_iinc X (v := (v3 + (6 : Int32))) (lv' := [(3, .int (v3 + (6 : Int32))), (0, .ref b), (1, .ref a1), (2, .ref a2)]) dL_law_785 3 rfl rfl (by decide) rfl ?_
        refine V_goto X (tgt := 18) dL_law_788 (by decide) ?_
        exact V.to [1, 2, 3, 0] rfl rfl (V.widen (by omega) (by omega) hP)
      · have hP := hP.2 h15
        refine V_iconst X (v := (0 : Int32)) dL_law_183 (by decide) ?_
        exact hP.elim
    · have hP := hP.2.2.1 h4
      refine V_tabIn X (tgt := 185) (off := 152) dL_law_33 (by omega) (by omega) (by rw [h4]; rfl) (by decide) ?_
      refine V_aload_n X dL_law_185 rfl 1 rfl ?_
      refine V_aload_n X dL_law_186 rfl 0 rfl ?_
      refine V_iload_n X dL_law_187 rfl 3 rfl ?_
      refine V_iconst X (v := (1 : Int32)) dL_law_188 (by decide) ?_
      refine V_iadd X dL_law_189 ?_
      obtain ⟨h16, hP⟩ := hP
      refine V_sld X hXs hbl h16 dL_law_190 ?_
      refine V_aload_n X dL_law_191 rfl 0 rfl ?_
      refine V_iload_n X dL_law_192 rfl 3 rfl ?_
      refine V_iconst X (v := (2 : Int32)) dL_law_193 (by decide) ?_
      refine V_iadd X dL_law_194 ?_
      obtain ⟨h17, hP⟩ := hP
      refine V_sld X hXs hbl h17 dL_law_195 ?_
      obtain ⟨h18, hP⟩ := hP
      refine V_callV_i X [.int (xs (Int32.toNatClampNeg (v3 + (1 : Int32)))), .int (xs (Int32.toNatClampNeg (v3 + (2 : Int32))))] kw_R_law_18 ki_X8_value ks_X8_value ksg_X8_value (m_X8_value l G s.heap.size _ _ _ _ _ hP) h18 (by decide) rfl rfl ⟨Nat.le_of_ble_eq_true rfl, Nat.le_of_ble_eq_true rfl⟩ (Nat.le_of_ble_eq_true rfl) ⟨show 63 + 3 * n + 1 ≤ 600000 from by omega, show 20676 + 605 * n + 6 ≤ 7302250 from by omega⟩ rfl dL_law_196 (fun r3 σ3 hP => ?_)
      refine V_aload_n X dL_law_199 rfl 2 rfl ?_
      refine V_aload_n X dL_law_200 rfl 0 rfl ?_
      refine V_iload_n X dL_law_201 rfl 3 rfl ?_
      refine V_iconst X (v := (1 : Int32)) dL_law_202 (by decide) ?_
      refine V_iadd X dL_law_203 ?_
      obtain ⟨h19, hP⟩ := hP
      refine V_sld X hXs hbl h19 dL_law_204 ?_
      refine V_aload_n X dL_law_205 rfl 0 rfl ?_
      refine V_iload_n X dL_law_206 rfl 3 rfl ?_
      refine V_iconst X (v := (2 : Int32)) dL_law_207 (by decide) ?_
      refine V_iadd X dL_law_208 ?_
      obtain ⟨h20, hP⟩ := hP
      refine V_sld X hXs hbl h20 dL_law_209 ?_
      obtain ⟨h21, hP⟩ := hP
      refine V_callV_i X [.int (xs (Int32.toNatClampNeg (v3 + (1 : Int32)))), .int (xs (Int32.toNatClampNeg (v3 + (2 : Int32))))] kw_R_law_22 ki_X9_value ks_X9_value ksg_X9_value (m_X9_value l G s.heap.size _ _ _ _ _ hP) h21 (by decide) rfl rfl ⟨Nat.le_of_ble_eq_true rfl, Nat.le_of_ble_eq_true rfl⟩ (Nat.le_of_ble_eq_true rfl) ⟨show 63 + 3 * n + 1 + 0 ≤ 600000 from by omega, show 20676 + 605 * n + 6 + 0 ≤ 7302250 from by omega⟩ rfl dL_law_210 (fun r4 σ4 hP => ?_)
      refine V_icmp_eq X (tgt := 785) dL_law_213 (by decide) (fun h22 => ?_) (fun h22 => ?_)
      · have hP := hP.1 h22
        refine V_iinc X (v := (v3 + (6 : Int32))) (lv' := [(3, .int (v3 + (6 : Int32))), (0, .ref b), (1, .ref a1), (2, .ref a2)]) dL_law_785 3 rfl rfl (by decide) rfl ?_
        refine V_goto X (tgt := 18) dL_law_788 (by decide) ?_
        exact V.to [1, 2, 3, 0] rfl rfl (V.widen (by omega) (by omega) hP)
      · have hP := hP.2 h22
        refine V_iconst X (v := (0 : Int32)) dL_law_216 (by decide) ?_
        exact hP.elim
    · have hP := hP.2.2.2.1 h4
      refine V_tabIn X (tgt := 218) (off := 185) dL_law_33 (by omega) (by omega) (by rw [h4]; rfl) (by decide) ?_
      refine V_aload_n X dL_law_218 rfl 1 rfl ?_
      refine V_aload_n X dL_law_219 rfl 0 rfl ?_
      refine V_iload_n X dL_law_220 rfl 3 rfl ?_
      refine V_iconst X (v := (1 : Int32)) dL_law_221 (by decide) ?_
      refine V_iadd X dL_law_222 ?_
      obtain ⟨h23, hP⟩ := hP
      refine V_sld X hXs hbl h23 dL_law_223 ?_
      refine V_aload_n X dL_law_224 rfl 0 rfl ?_
      refine V_iload_n X dL_law_225 rfl 3 rfl ?_
      refine V_iconst X (v := (2 : Int32)) dL_law_226 (by decide) ?_
      refine V_iadd X dL_law_227 ?_
      obtain ⟨h24, hP⟩ := hP
      refine V_sld X hXs hbl h24 dL_law_228 ?_
      refine V_aload_n X dL_law_229 rfl 0 rfl ?_
      refine V_iload_n X dL_law_230 rfl 3 rfl ?_
      refine V_iconst X (v := (3 : Int32)) dL_law_231 (by decide) ?_
      refine V_iadd X dL_law_232 ?_
      obtain ⟨h25, hP⟩ := hP
      refine V_sld X hXs hbl h25 dL_law_233 ?_
      obtain ⟨h26, hP⟩ := hP
      refine V_callV_i X [.int (xs (Int32.toNatClampNeg (v3 + (1 : Int32)))), .int (xs (Int32.toNatClampNeg (v3 + (2 : Int32)))), .int (xs (Int32.toNatClampNeg (v3 + (3 : Int32))))] kw_R_law_23 ki_X8_refer ks_X8_refer ksg_X8_refer (m_X8_refer l G s.heap.size _ _ _ _ _ _ hP) h26 (by decide) rfl rfl ⟨Nat.le_of_ble_eq_true rfl, Nat.le_of_ble_eq_true rfl⟩ (Nat.le_of_ble_eq_true rfl) ⟨show 63 + 3 * n + 1 ≤ 600000 from by omega, show 20676 + 605 * n + 6 ≤ 7302250 from by omega⟩ rfl dL_law_234 (fun r5 σ5 hP => ?_)
      refine V_aload_n X dL_law_237 rfl 2 rfl ?_
      refine V_aload_n X dL_law_238 rfl 0 rfl ?_
      refine V_iload_n X dL_law_239 rfl 3 rfl ?_
      refine V_iconst X (v := (1 : Int32)) dL_law_240 (by decide) ?_
      refine V_iadd X dL_law_241 ?_
      obtain ⟨h27, hP⟩ := hP
      refine V_sld X hXs hbl h27 dL_law_242 ?_
      refine V_aload_n X dL_law_243 rfl 0 rfl ?_
      refine V_iload_n X dL_law_244 rfl 3 rfl ?_
      refine V_iconst X (v := (2 : Int32)) dL_law_245 (by decide) ?_
      refine V_iadd X dL_law_246 ?_
      obtain ⟨h28, hP⟩ := hP
      refine V_sld X hXs hbl h28 dL_law_247 ?_
      refine V_aload_n X dL_law_248 rfl 0 rfl ?_
      refine V_iload_n X dL_law_249 rfl 3 rfl ?_
      refine V_iconst X (v := (3 : Int32)) dL_law_250 (by decide) ?_
      refine V_iadd X dL_law_251 ?_
      obtain ⟨h29, hP⟩ := hP
      refine V_sld X hXs hbl h29 dL_law_252 ?_
      obtain ⟨h30, hP⟩ := hP
      refine V_callV_i X [.int (xs (Int32.toNatClampNeg (v3 + (1 : Int32)))), .int (xs (Int32.toNatClampNeg (v3 + (2 : Int32)))), .int (xs (Int32.toNatClampNeg (v3 + (3 : Int32))))] kw_R_law_27 ki_X9_refer ks_X9_refer ksg_X9_refer (m_X9_refer l G s.heap.size _ _ _ _ _ _ hP) h30 (by decide) rfl rfl ⟨Nat.le_of_ble_eq_true rfl, Nat.le_of_ble_eq_true rfl⟩ (Nat.le_of_ble_eq_true rfl) ⟨show 63 + 3 * n + 1 + 0 ≤ 600000 from by omega, show 20676 + 605 * n + 6 + 0 ≤ 7302250 from by omega⟩ rfl dL_law_253 (fun r6 σ6 hP => ?_)
      refine V_icmp_eq X (tgt := 785) dL_law_256 (by decide) (fun h31 => ?_) (fun h31 => ?_)
      · have hP := hP.1 h31
        refine V_iinc X (v := (v3 + (6 : Int32))) (lv' := [(3, .int (v3 + (6 : Int32))), (0, .ref b), (1, .ref a1), (2, .ref a2)]) dL_law_785 3 rfl rfl (by decide) rfl ?_
        refine V_goto X (tgt := 18) dL_law_788 (by decide) ?_
        exact V.to [1, 2, 3, 0] rfl rfl (V.widen (by omega) (by omega) hP)
      · have hP := hP.2 h31
        refine V_iconst X (v := (0 : Int32)) dL_law_259 (by decide) ?_
        exact hP.elim
    · have hP := hP.2.2.2.2.1 h4
      refine V_tabIn X (tgt := 261) (off := 228) dL_law_33 (by omega) (by omega) (by rw [h4]; rfl) (by decide) ?_
      refine V_aload_n X dL_law_261 rfl 1 rfl ?_
      refine V_aload_n X dL_law_262 rfl 0 rfl ?_
      refine V_iload_n X dL_law_263 rfl 3 rfl ?_
      refine V_iconst X (v := (1 : Int32)) dL_law_264 (by decide) ?_
      refine V_iadd X dL_law_265 ?_
      obtain ⟨h32, hP⟩ := hP
      refine V_sld X hXs hbl h32 dL_law_266 ?_
      obtain ⟨h33, hP⟩ := hP
      refine V_callV_i X [.int (xs (Int32.toNatClampNeg (v3 + (1 : Int32))))] kw_R_law_28 ki_X8_go ks_X8_go ksg_X8_go (m_X8_go l G s.heap.size _ _ _ _ hP) h33 (by decide) rfl rfl ⟨Nat.le_of_ble_eq_true rfl, Nat.le_of_ble_eq_true rfl⟩ (Nat.le_of_ble_eq_true rfl) ⟨show 63 + 3 * n + 1 ≤ 600000 from by omega, show 20676 + 605 * n + 6 ≤ 7302250 from by omega⟩ rfl dL_law_267 (fun r7 σ7 hP => ?_)
      refine V_aload_n X dL_law_270 rfl 2 rfl ?_
      refine V_aload_n X dL_law_271 rfl 0 rfl ?_
      refine V_iload_n X dL_law_272 rfl 3 rfl ?_
      refine V_iconst X (v := (1 : Int32)) dL_law_273 (by decide) ?_
      refine V_iadd X dL_law_274 ?_
      obtain ⟨h34, hP⟩ := hP
      refine V_sld X hXs hbl h34 dL_law_275 ?_
      obtain ⟨h35, hP⟩ := hP
      refine V_callV_i X [.int (xs (Int32.toNatClampNeg (v3 + (1 : Int32))))] kw_R_law_32 ki_X9_go ks_X9_go ksg_X9_go (m_X9_go l G s.heap.size _ _ _ _ hP) h35 (by decide) rfl rfl ⟨Nat.le_of_ble_eq_true rfl, Nat.le_of_ble_eq_true rfl⟩ (Nat.le_of_ble_eq_true rfl) ⟨show 63 + 3 * n + 1 + 0 ≤ 600000 from by omega, show 20676 + 605 * n + 6 + 0 ≤ 7302250 from by omega⟩ rfl dL_law_276 (fun r8 σ8 hP => ?_)
      refine V_icmp_eq X (tgt := 785) dL_law_279 (by decide) (fun h36 => ?_) (fun h36 => ?_)
      · have hP := hP.1 h36
        refine V_iinc X (v := (v3 + (6 : Int32))) (lv' := [(3, .int (v3 + (6 : Int32))), (0, .ref b), (1, .ref a1), (2, .ref a2)]) dL_law_785 3 rfl rfl (by decide) rfl ?_
        refine V_goto X (tgt := 18) dL_law_788 (by decide) ?_
        exact V.to [1, 2, 3, 0] rfl rfl (V.widen (by omega) (by omega) hP)
      · have hP := hP.2 h36
        refine V_iconst X (v := (0 : Int32)) dL_law_282 (by decide) ?_
        exact hP.elim
    · have hP := hP.2.2.2.2.2.1 h4
      refine V_tabIn X (tgt := 284) (off := 251) dL_law_33 (by omega) (by omega) (by rw [h4]; rfl) (by decide) ?_
      refine V_aload_n X dL_law_284 rfl 1 rfl ?_
      refine V_aload_n X dL_law_285 rfl 0 rfl ?_
      refine V_iload_n X dL_law_286 rfl 3 rfl ?_
      refine V_iconst X (v := (1 : Int32)) dL_law_287 (by decide) ?_
      refine V_iadd X dL_law_288 ?_
      obtain ⟨h37, hP⟩ := hP
      refine V_sld X hXs hbl h37 dL_law_289 ?_
      refine V_aload_n X dL_law_290 rfl 0 rfl ?_
      refine V_iload_n X dL_law_291 rfl 3 rfl ?_
      refine V_iconst X (v := (2 : Int32)) dL_law_292 (by decide) ?_
      refine V_iadd X dL_law_293 ?_
      obtain ⟨h38, hP⟩ := hP
      refine V_sld X hXs hbl h38 dL_law_294 ?_
      obtain ⟨h39, hP⟩ := hP
      refine V_callV_i X [.int (xs (Int32.toNatClampNeg (v3 + (1 : Int32)))), .int (xs (Int32.toNatClampNeg (v3 + (2 : Int32))))] kw_R_law_33 ki_X8_of ks_X8_of ksg_X8_of (m_X8_of l G s.heap.size _ _ _ _ _ hP) h39 (by decide) rfl rfl ⟨Nat.le_of_ble_eq_true rfl, Nat.le_of_ble_eq_true rfl⟩ (Nat.le_of_ble_eq_true rfl) ⟨show 63 + 3 * n + 0 ≤ 600000 from by omega, show 20676 + 605 * n + 0 ≤ 7302250 from by omega⟩ rfl dL_law_295 (fun r9 σ9 hP => ?_)
      refine V_aload_n X dL_law_298 rfl 2 rfl ?_
      refine V_aload_n X dL_law_299 rfl 0 rfl ?_
      refine V_iload_n X dL_law_300 rfl 3 rfl ?_
      refine V_iconst X (v := (1 : Int32)) dL_law_301 (by decide) ?_
      refine V_iadd X dL_law_302 ?_
      obtain ⟨h40, hP⟩ := hP
      refine V_sld X hXs hbl h40 dL_law_303 ?_
      refine V_aload_n X dL_law_304 rfl 0 rfl ?_
      refine V_iload_n X dL_law_305 rfl 3 rfl ?_
      refine V_iconst X (v := (2 : Int32)) dL_law_306 (by decide) ?_
      refine V_iadd X dL_law_307 ?_
      obtain ⟨h41, hP⟩ := hP
      refine V_sld X hXs hbl h41 dL_law_308 ?_
      obtain ⟨h42, hP⟩ := hP
      refine V_callV_i X [.int (xs (Int32.toNatClampNeg (v3 + (1 : Int32)))), .int (xs (Int32.toNatClampNeg (v3 + (2 : Int32))))] kw_R_law_36 ki_X9_of ks_X9_of ksg_X9_of (m_X9_of l G s.heap.size _ _ _ _ _ hP) h42 (by decide) rfl rfl ⟨Nat.le_of_ble_eq_true rfl, Nat.le_of_ble_eq_true rfl⟩ (Nat.le_of_ble_eq_true rfl) ⟨show 63 + 3 * n + 0 + 0 ≤ 600000 from by omega, show 20676 + 605 * n + 0 + 0 ≤ 7302250 from by omega⟩ rfl dL_law_309 (fun r10 σ10 hP => ?_)
      refine V_icmp_eq X (tgt := 785) dL_law_312 (by decide) (fun h43 => ?_) (fun h43 => ?_)
      · have hP := hP.1 h43
        refine V_iinc X (v := (v3 + (6 : Int32))) (lv' := [(3, .int (v3 + (6 : Int32))), (0, .ref b), (1, .ref a1), (2, .ref a2)]) dL_law_785 3 rfl rfl (by decide) rfl ?_
        refine V_goto X (tgt := 18) dL_law_788 (by decide) ?_
        exact V.to [1, 2, 3, 0] rfl rfl (V.widen (by omega) (by omega) hP)
      · have hP := hP.2 h43
        refine V_iconst X (v := (0 : Int32)) dL_law_315 (by decide) ?_
        exact hP.elim
    · have hP := hP.2.2.2.2.2.2.1 h4
      refine V_tabIn X (tgt := 317) (off := 284) dL_law_33 (by omega) (by omega) (by rw [h4]; rfl) (by decide) ?_
      refine V_aload_n X dL_law_317 rfl 1 rfl ?_
      refine V_aload_n X dL_law_318 rfl 0 rfl ?_
      refine V_iload_n X dL_law_319 rfl 3 rfl ?_
      refine V_iconst X (v := (1 : Int32)) dL_law_320 (by decide) ?_
      refine V_iadd X dL_law_321 ?_
      obtain ⟨h44, hP⟩ := hP
      refine V_sld X hXs hbl h44 dL_law_322 ?_
      refine V_aload_n X dL_law_323 rfl 0 rfl ?_
      refine V_iload_n X dL_law_324 rfl 3 rfl ?_
      refine V_iconst X (v := (2 : Int32)) dL_law_325 (by decide) ?_
      refine V_iadd X dL_law_326 ?_
      obtain ⟨h45, hP⟩ := hP
      refine V_sld X hXs hbl h45 dL_law_327 ?_
      refine V_aload_n X dL_law_328 rfl 0 rfl ?_
      refine V_iload_n X dL_law_329 rfl 3 rfl ?_
      refine V_iconst X (v := (3 : Int32)) dL_law_330 (by decide) ?_
      refine V_iadd X dL_law_331 ?_
      obtain ⟨h46, hP⟩ := hP
      refine V_sld X hXs hbl h46 dL_law_332 ?_
      refine V_aload_n X dL_law_333 rfl 0 rfl ?_
      refine V_iload_n X dL_law_334 rfl 3 rfl ?_
      refine V_iconst X (v := (4 : Int32)) dL_law_335 (by decide) ?_
      refine V_iadd X dL_law_336 ?_
      obtain ⟨h47, hP⟩ := hP
      refine V_sld X hXs hbl h47 dL_law_337 ?_
      refine V_aload_n X dL_law_338 rfl 0 rfl ?_
      refine V_iload_n X dL_law_339 rfl 3 rfl ?_
      refine V_iconst X (v := (5 : Int32)) dL_law_340 (by decide) ?_
      refine V_iadd X dL_law_341 ?_
      obtain ⟨h48, hP⟩ := hP
      refine V_sld X hXs hbl h48 dL_law_342 ?_
      obtain ⟨h49, hP⟩ := hP
      refine V_callV_i X [.int (xs (Int32.toNatClampNeg (v3 + (1 : Int32)))), .int (xs (Int32.toNatClampNeg (v3 + (2 : Int32)))), .int (xs (Int32.toNatClampNeg (v3 + (3 : Int32)))), .int (xs (Int32.toNatClampNeg (v3 + (4 : Int32)))), .int (xs (Int32.toNatClampNeg (v3 + (5 : Int32))))] kw_R_law_37 ki_X8_feed ks_X8_feed ksg_X8_feed (m_X8_feed l G s.heap.size _ _ _ _ _ _ _ _ hP) h49 (by decide) rfl rfl ⟨Nat.le_of_ble_eq_true rfl, Nat.le_of_ble_eq_true rfl⟩ (Nat.le_of_ble_eq_true rfl) ⟨show 63 + 3 * n + 0 ≤ 600000 from by omega, show 20676 + 605 * n + 0 ≤ 7302250 from by omega⟩ rfl dL_law_343 (fun r11 σ11 hP => ?_)
      refine V_aload_n X dL_law_346 rfl 2 rfl ?_
      refine V_aload_n X dL_law_347 rfl 0 rfl ?_
      refine V_iload_n X dL_law_348 rfl 3 rfl ?_
      refine V_iconst X (v := (1 : Int32)) dL_law_349 (by decide) ?_
      refine V_iadd X dL_law_350 ?_
      obtain ⟨h50, hP⟩ := hP
      refine V_sld X hXs hbl h50 dL_law_351 ?_
      refine V_aload_n X dL_law_352 rfl 0 rfl ?_
      refine V_iload_n X dL_law_353 rfl 3 rfl ?_
      refine V_iconst X (v := (2 : Int32)) dL_law_354 (by decide) ?_
      refine V_iadd X dL_law_355 ?_
      obtain ⟨h51, hP⟩ := hP
      refine V_sld X hXs hbl h51 dL_law_356 ?_
      refine V_aload_n X dL_law_357 rfl 0 rfl ?_
      refine V_iload_n X dL_law_358 rfl 3 rfl ?_
      refine V_iconst X (v := (3 : Int32)) dL_law_359 (by decide) ?_
      refine V_iadd X dL_law_360 ?_
      obtain ⟨h52, hP⟩ := hP
      refine V_sld X hXs hbl h52 dL_law_361 ?_
      refine V_aload_n X dL_law_362 rfl 0 rfl ?_
      refine V_iload_n X dL_law_363 rfl 3 rfl ?_
      refine V_iconst X (v := (4 : Int32)) dL_law_364 (by decide) ?_
      refine V_iadd X dL_law_365 ?_
      obtain ⟨h53, hP⟩ := hP
      refine V_sld X hXs hbl h53 dL_law_366 ?_
      refine V_aload_n X dL_law_367 rfl 0 rfl ?_
      refine V_iload_n X dL_law_368 rfl 3 rfl ?_
      refine V_iconst X (v := (5 : Int32)) dL_law_369 (by decide) ?_
      refine V_iadd X dL_law_370 ?_
      obtain ⟨h54, hP⟩ := hP
      refine V_sld X hXs hbl h54 dL_law_371 ?_
      obtain ⟨h55, hP⟩ := hP
      refine V_callV_i X [.int (xs (Int32.toNatClampNeg (v3 + (1 : Int32)))), .int (xs (Int32.toNatClampNeg (v3 + (2 : Int32)))), .int (xs (Int32.toNatClampNeg (v3 + (3 : Int32)))), .int (xs (Int32.toNatClampNeg (v3 + (4 : Int32)))), .int (xs (Int32.toNatClampNeg (v3 + (5 : Int32))))] kw_R_law_41 ki_X9_feed ks_X9_feed ksg_X9_feed (m_X9_feed l G s.heap.size _ _ _ _ _ _ _ _ hP) h55 (by decide) rfl rfl ⟨Nat.le_of_ble_eq_true rfl, Nat.le_of_ble_eq_true rfl⟩ (Nat.le_of_ble_eq_true rfl) ⟨show 63 + 3 * n + 0 + 0 ≤ 600000 from by omega, show 20676 + 605 * n + 0 + 0 ≤ 7302250 from by omega⟩ rfl dL_law_372 (fun r12 σ12 hP => ?_)
      refine V_icmp_eq X (tgt := 785) dL_law_375 (by decide) (fun h56 => ?_) (fun h56 => ?_)
      · have hP := hP.1 h56
        refine V_iinc X (v := (v3 + (6 : Int32))) (lv' := [(3, .int (v3 + (6 : Int32))), (0, .ref b), (1, .ref a1), (2, .ref a2)]) dL_law_785 3 rfl rfl (by decide) rfl ?_
        refine V_goto X (tgt := 18) dL_law_788 (by decide) ?_
        exact V.to [1, 2, 3, 0] rfl rfl (V.widen (by omega) (by omega) hP)
      · have hP := hP.2 h56
        refine V_iconst X (v := (0 : Int32)) dL_law_378 (by decide) ?_
        exact hP.elim
    · have hP := hP.2.2.2.2.2.2.2.1 h4
      refine V_tabIn X (tgt := 380) (off := 347) dL_law_33 (by omega) (by omega) (by rw [h4]; rfl) (by decide) ?_
      refine V_aload_n X dL_law_380 rfl 1 rfl ?_
      refine V_aload_n X dL_law_381 rfl 0 rfl ?_
      refine V_iload_n X dL_law_382 rfl 3 rfl ?_
      refine V_iconst X (v := (1 : Int32)) dL_law_383 (by decide) ?_
      refine V_iadd X dL_law_384 ?_
      obtain ⟨h57, hP⟩ := hP
      refine V_sld X hXs hbl h57 dL_law_385 ?_
      obtain ⟨h58, hP⟩ := hP
      refine V_callV_i X [.int (xs (Int32.toNatClampNeg (v3 + (1 : Int32))))] kw_R_law_42 ki_X8_end ks_X8_end ksg_X8_end (m_X8_end l G s.heap.size _ _ _ _ hP) h58 (by decide) rfl rfl ⟨Nat.le_of_ble_eq_true rfl, Nat.le_of_ble_eq_true rfl⟩ (Nat.le_of_ble_eq_true rfl) ⟨show 63 + 3 * n + 0 ≤ 600000 from by omega, show 20676 + 605 * n + 0 ≤ 7302250 from by omega⟩ rfl dL_law_386 (fun r13 σ13 hP => ?_)
      refine V_aload_n X dL_law_389 rfl 2 rfl ?_
      refine V_aload_n X dL_law_390 rfl 0 rfl ?_
      refine V_iload_n X dL_law_391 rfl 3 rfl ?_
      refine V_iconst X (v := (1 : Int32)) dL_law_392 (by decide) ?_
      refine V_iadd X dL_law_393 ?_
      obtain ⟨h59, hP⟩ := hP
      refine V_sld X hXs hbl h59 dL_law_394 ?_
      obtain ⟨h60, hP⟩ := hP
      refine V_callV_i X [.int (xs (Int32.toNatClampNeg (v3 + (1 : Int32))))] kw_R_law_45 ki_X9_end ks_X9_end ksg_X9_end (m_X9_end l G s.heap.size _ _ _ _ hP) h60 (by decide) rfl rfl ⟨Nat.le_of_ble_eq_true rfl, Nat.le_of_ble_eq_true rfl⟩ (Nat.le_of_ble_eq_true rfl) ⟨show 63 + 3 * n + 0 + 0 ≤ 600000 from by omega, show 20676 + 605 * n + 0 + 0 ≤ 7302250 from by omega⟩ rfl dL_law_395 (fun r14 σ14 hP => ?_)
      refine V_icmp_eq X (tgt := 785) dL_law_398 (by decide) (fun h61 => ?_) (fun h61 => ?_)
      · have hP := hP.1 h61
        refine V_iinc X (v := (v3 + (6 : Int32))) (lv' := [(3, .int (v3 + (6 : Int32))), (0, .ref b), (1, .ref a1), (2, .ref a2)]) dL_law_785 3 rfl rfl (by decide) rfl ?_
        refine V_goto X (tgt := 18) dL_law_788 (by decide) ?_
        exact V.to [1, 2, 3, 0] rfl rfl (V.widen (by omega) (by omega) hP)
      · have hP := hP.2 h61
        refine V_iconst X (v := (0 : Int32)) dL_law_401 (by decide) ?_
        exact hP.elim
    · have hP := hP.2.2.2.2.2.2.2.2.1 h4
      refine V_tabIn X (tgt := 403) (off := 370) dL_law_33 (by omega) (by omega) (by rw [h4]; rfl) (by decide) ?_
      refine V_aload_n X dL_law_403 rfl 1 rfl ?_
      obtain ⟨h62, hP⟩ := hP
      refine V_callV_i X [] kw_R_law_46 ki_X8_shape ks_X8_shape ksg_X8_shape (m_X8_shape l G s.heap.size _ _ _ hP) h62 (by decide) rfl rfl ⟨Nat.le_of_ble_eq_true rfl, Nat.le_of_ble_eq_true rfl⟩ (Nat.le_of_ble_eq_true rfl) ⟨show 63 + 3 * n + 1 ≤ 600000 from by omega, show 20676 + 605 * n + 4 ≤ 7302250 from by omega⟩ rfl dL_law_404 (fun r15 σ15 hP => ?_)
      refine V_aload_n X dL_law_407 rfl 2 rfl ?_
      obtain ⟨h63, hP⟩ := hP
      refine V_callV_i X [] kw_R_law_50 ki_X9_shape ks_X9_shape ksg_X9_shape (m_X9_shape l G s.heap.size _ _ _ hP) h63 (by decide) rfl rfl ⟨Nat.le_of_ble_eq_true rfl, Nat.le_of_ble_eq_true rfl⟩ (Nat.le_of_ble_eq_true rfl) ⟨show 63 + 3 * n + 1 + 0 ≤ 600000 from by omega, show 20676 + 605 * n + 4 + 0 ≤ 7302250 from by omega⟩ rfl dL_law_408 (fun r16 σ16 hP => ?_)
      refine V_icmp_eq X (tgt := 785) dL_law_411 (by decide) (fun h64 => ?_) (fun h64 => ?_)
      · have hP := hP.1 h64
        refine V_iinc X (v := (v3 + (6 : Int32))) (lv' := [(3, .int (v3 + (6 : Int32))), (0, .ref b), (1, .ref a1), (2, .ref a2)]) dL_law_785 3 rfl rfl (by decide) rfl ?_
        refine V_goto X (tgt := 18) dL_law_788 (by decide) ?_
        exact V.to [1, 2, 3, 0] rfl rfl (V.widen (by omega) (by omega) hP)
      · have hP := hP.2 h64
        refine V_iconst X (v := (0 : Int32)) dL_law_414 (by decide) ?_
        exact hP.elim
    · have hP := hP.2.2.2.2.2.2.2.2.2.1 h4
      refine V_tabIn X (tgt := 416) (off := 383) dL_law_33 (by omega) (by omega) (by rw [h4]; rfl) (by decide) ?_
      refine V_aload_n X dL_law_416 rfl 1 rfl ?_
      obtain ⟨h65, hP⟩ := hP
      refine V_callV_i X [] kw_R_law_51 ki_X8_fault ks_X8_fault ksg_X8_fault (m_X8_fault l G s.heap.size _ _ _ hP) h65 (by decide) rfl rfl ⟨Nat.le_of_ble_eq_true rfl, Nat.le_of_ble_eq_true rfl⟩ (Nat.le_of_ble_eq_true rfl) ⟨show 63 + 3 * n + 0 ≤ 600000 from by omega, show 20676 + 605 * n + 0 ≤ 7302250 from by omega⟩ rfl dL_law_417 (fun r17 σ17 hP => ?_)
      refine V_aload_n X dL_law_420 rfl 2 rfl ?_
      obtain ⟨h66, hP⟩ := hP
      refine V_callV_i X [] kw_R_law_54 ki_X9_fault ks_X9_fault ksg_X9_fault (m_X9_fault l G s.heap.size _ _ _ hP) h66 (by decide) rfl rfl ⟨Nat.le_of_ble_eq_true rfl, Nat.le_of_ble_eq_true rfl⟩ (Nat.le_of_ble_eq_true rfl) ⟨show 63 + 3 * n + 0 + 0 ≤ 600000 from by omega, show 20676 + 605 * n + 0 + 0 ≤ 7302250 from by omega⟩ rfl dL_law_421 (fun r18 σ18 hP => ?_)
      refine V_icmp_eq X (tgt := 785) dL_law_424 (by decide) (fun h67 => ?_) (fun h67 => ?_)
      · have hP := hP.1 h67
        refine V_iinc X (v := (v3 + (6 : Int32))) (lv' := [(3, .int (v3 + (6 : Int32))), (0, .ref b), (1, .ref a1), (2, .ref a2)]) dL_law_785 3 rfl rfl (by decide) rfl ?_
        refine V_goto X (tgt := 18) dL_law_788 (by decide) ?_
        exact V.to [1, 2, 3, 0] rfl rfl (V.widen (by omega) (by omega) hP)
      · have hP := hP.2 h67
        refine V_iconst X (v := (0 : Int32)) dL_law_427 (by decide) ?_
        exact hP.elim
    · have hP := hP.2.2.2.2.2.2.2.2.2.2.1 h4
      refine V_tabIn X (tgt := 429) (off := 396) dL_law_33 (by omega) (by omega) (by rw [h4]; rfl) (by decide) ?_
      refine V_aload_n X dL_law_429 rfl 1 rfl ?_
      refine V_aload_n X dL_law_430 rfl 0 rfl ?_
      refine V_iload_n X dL_law_431 rfl 3 rfl ?_
      refine V_iconst X (v := (1 : Int32)) dL_law_432 (by decide) ?_
      refine V_iadd X dL_law_433 ?_
      obtain ⟨h68, hP⟩ := hP
      refine V_sld X hXs hbl h68 dL_law_434 ?_
      obtain ⟨h69, hP⟩ := hP
      refine V_callV_i X [.int (xs (Int32.toNatClampNeg (v3 + (1 : Int32))))] kw_R_law_55 ki_X8_size ks_X8_size ksg_X8_size (m_X8_size l G s.heap.size _ _ _ _ hP) h69 (by decide) rfl rfl ⟨Nat.le_of_ble_eq_true rfl, Nat.le_of_ble_eq_true rfl⟩ (Nat.le_of_ble_eq_true rfl) ⟨show 63 + 3 * n + 0 ≤ 600000 from by omega, show 20676 + 605 * n + 0 ≤ 7302250 from by omega⟩ rfl dL_law_435 (fun r19 σ19 hP => ?_)
      refine V_aload_n X dL_law_438 rfl 2 rfl ?_
      refine V_aload_n X dL_law_439 rfl 0 rfl ?_
      refine V_iload_n X dL_law_440 rfl 3 rfl ?_
      refine V_iconst X (v := (1 : Int32)) dL_law_441 (by decide) ?_
      refine V_iadd X dL_law_442 ?_
      obtain ⟨h70, hP⟩ := hP
      refine V_sld X hXs hbl h70 dL_law_443 ?_
      obtain ⟨h71, hP⟩ := hP
      refine V_callV_i X [.int (xs (Int32.toNatClampNeg (v3 + (1 : Int32))))] kw_R_law_58 ki_X9_size ks_X9_size ksg_X9_size (m_X9_size l G s.heap.size _ _ _ _ hP) h71 (by decide) rfl rfl ⟨Nat.le_of_ble_eq_true rfl, Nat.le_of_ble_eq_true rfl⟩ (Nat.le_of_ble_eq_true rfl) ⟨show 63 + 3 * n + 0 + 0 ≤ 600000 from by omega, show 20676 + 605 * n + 0 + 0 ≤ 7302250 from by omega⟩ rfl dL_law_444 (fun r20 σ20 hP => ?_)
      refine V_icmp_eq X (tgt := 785) dL_law_447 (by decide) (fun h72 => ?_) (fun h72 => ?_)
      · have hP := hP.1 h72
        refine V_iinc X (v := (v3 + (6 : Int32))) (lv' := [(3, .int (v3 + (6 : Int32))), (0, .ref b), (1, .ref a1), (2, .ref a2)]) dL_law_785 3 rfl rfl (by decide) rfl ?_
        refine V_goto X (tgt := 18) dL_law_788 (by decide) ?_
        exact V.to [1, 2, 3, 0] rfl rfl (V.widen (by omega) (by omega) hP)
      · have hP := hP.2 h72
        refine V_iconst X (v := (0 : Int32)) dL_law_450 (by decide) ?_
        exact hP.elim
    · have hP := hP.2.2.2.2.2.2.2.2.2.2.2.1 h4
      refine V_tabIn X (tgt := 452) (off := 419) dL_law_33 (by omega) (by omega) (by rw [h4]; rfl) (by decide) ?_
      refine V_aload_n X dL_law_452 rfl 1 rfl ?_
      refine V_aload_n X dL_law_453 rfl 0 rfl ?_
      refine V_iload_n X dL_law_454 rfl 3 rfl ?_
      refine V_iconst X (v := (1 : Int32)) dL_law_455 (by decide) ?_
      refine V_iadd X dL_law_456 ?_
      obtain ⟨h73, hP⟩ := hP
      refine V_sld X hXs hbl h73 dL_law_457 ?_
      refine V_aload_n X dL_law_458 rfl 0 rfl ?_
      refine V_iload_n X dL_law_459 rfl 3 rfl ?_
      refine V_iconst X (v := (2 : Int32)) dL_law_460 (by decide) ?_
      refine V_iadd X dL_law_461 ?_
      obtain ⟨h74, hP⟩ := hP
      refine V_sld X hXs hbl h74 dL_law_462 ?_
      obtain ⟨h75, hP⟩ := hP
      refine V_callV_i X [.int (xs (Int32.toNatClampNeg (v3 + (1 : Int32)))), .int (xs (Int32.toNatClampNeg (v3 + (2 : Int32))))] kw_R_law_59 ki_X8_mark ks_X8_mark ksg_X8_mark (m_X8_mark l G s.heap.size _ _ _ _ _ hP) h75 (by decide) rfl rfl ⟨Nat.le_of_ble_eq_true rfl, Nat.le_of_ble_eq_true rfl⟩ (Nat.le_of_ble_eq_true rfl) ⟨show 63 + 3 * n + 0 ≤ 600000 from by omega, show 20676 + 605 * n + 0 ≤ 7302250 from by omega⟩ rfl dL_law_463 (fun r21 σ21 hP => ?_)
      refine V_aload_n X dL_law_466 rfl 2 rfl ?_
      refine V_aload_n X dL_law_467 rfl 0 rfl ?_
      refine V_iload_n X dL_law_468 rfl 3 rfl ?_
      refine V_iconst X (v := (1 : Int32)) dL_law_469 (by decide) ?_
      refine V_iadd X dL_law_470 ?_
      obtain ⟨h76, hP⟩ := hP
      refine V_sld X hXs hbl h76 dL_law_471 ?_
      refine V_aload_n X dL_law_472 rfl 0 rfl ?_
      refine V_iload_n X dL_law_473 rfl 3 rfl ?_
      refine V_iconst X (v := (2 : Int32)) dL_law_474 (by decide) ?_
      refine V_iadd X dL_law_475 ?_
      obtain ⟨h77, hP⟩ := hP
      refine V_sld X hXs hbl h77 dL_law_476 ?_
      obtain ⟨h78, hP⟩ := hP
      refine V_callV_i X [.int (xs (Int32.toNatClampNeg (v3 + (1 : Int32)))), .int (xs (Int32.toNatClampNeg (v3 + (2 : Int32))))] kw_R_law_62 ki_X9_mark ks_X9_mark ksg_X9_mark (m_X9_mark l G s.heap.size _ _ _ _ _ hP) h78 (by decide) rfl rfl ⟨Nat.le_of_ble_eq_true rfl, Nat.le_of_ble_eq_true rfl⟩ (Nat.le_of_ble_eq_true rfl) ⟨show 63 + 3 * n + 0 + 0 ≤ 600000 from by omega, show 20676 + 605 * n + 0 + 0 ≤ 7302250 from by omega⟩ rfl dL_law_477 (fun r22 σ22 hP => ?_)
      refine V_icmp_eq X (tgt := 785) dL_law_480 (by decide) (fun h79 => ?_) (fun h79 => ?_)
      · have hP := hP.1 h79
        refine V_iinc X (v := (v3 + (6 : Int32))) (lv' := [(3, .int (v3 + (6 : Int32))), (0, .ref b), (1, .ref a1), (2, .ref a2)]) dL_law_785 3 rfl rfl (by decide) rfl ?_
        refine V_goto X (tgt := 18) dL_law_788 (by decide) ?_
        exact V.to [1, 2, 3, 0] rfl rfl (V.widen (by omega) (by omega) hP)
      · have hP := hP.2 h79
        refine V_iconst X (v := (0 : Int32)) dL_law_483 (by decide) ?_
        exact hP.elim
    · have hP := hP.2.2.2.2.2.2.2.2.2.2.2.2.1 h4
      refine V_tabIn X (tgt := 485) (off := 452) dL_law_33 (by omega) (by omega) (by rw [h4]; rfl) (by decide) ?_
      refine V_aload_n X dL_law_485 rfl 1 rfl ?_
      refine V_aload_n X dL_law_486 rfl 0 rfl ?_
      refine V_iload_n X dL_law_487 rfl 3 rfl ?_
      refine V_iconst X (v := (1 : Int32)) dL_law_488 (by decide) ?_
      refine V_iadd X dL_law_489 ?_
      obtain ⟨h80, hP⟩ := hP
      refine V_sld X hXs hbl h80 dL_law_490 ?_
      refine V_aload_n X dL_law_491 rfl 0 rfl ?_
      refine V_iload_n X dL_law_492 rfl 3 rfl ?_
      refine V_iconst X (v := (2 : Int32)) dL_law_493 (by decide) ?_
      refine V_iadd X dL_law_494 ?_
      obtain ⟨h81, hP⟩ := hP
      refine V_sld X hXs hbl h81 dL_law_495 ?_
      refine V_aload_n X dL_law_496 rfl 0 rfl ?_
      refine V_iload_n X dL_law_497 rfl 3 rfl ?_
      refine V_iconst X (v := (3 : Int32)) dL_law_498 (by decide) ?_
      refine V_iadd X dL_law_499 ?_
      obtain ⟨h82, hP⟩ := hP
      refine V_sld X hXs hbl h82 dL_law_500 ?_
      refine V_aload_n X dL_law_501 rfl 0 rfl ?_
      refine V_iload_n X dL_law_502 rfl 3 rfl ?_
      refine V_iconst X (v := (4 : Int32)) dL_law_503 (by decide) ?_
      refine V_iadd X dL_law_504 ?_
      obtain ⟨h83, hP⟩ := hP
      refine V_sld X hXs hbl h83 dL_law_505 ?_
      obtain ⟨h84, hP⟩ := hP
      refine V_callV_i X [.int (xs (Int32.toNatClampNeg (v3 + (1 : Int32)))), .int (xs (Int32.toNatClampNeg (v3 + (2 : Int32)))), .int (xs (Int32.toNatClampNeg (v3 + (3 : Int32)))), .int (xs (Int32.toNatClampNeg (v3 + (4 : Int32))))] kw_R_law_63 ki_X8_page ks_X8_page ksg_X8_page (m_X8_page l G s.heap.size _ _ _ _ _ _ _ hP) h84 (by decide) rfl rfl ⟨Nat.le_of_ble_eq_true rfl, Nat.le_of_ble_eq_true rfl⟩ (Nat.le_of_ble_eq_true rfl) ⟨show 63 + 3 * n + 0 ≤ 600000 from by omega, show 20676 + 605 * n + 0 ≤ 7302250 from by omega⟩ rfl dL_law_506 (fun r23 σ23 hP => ?_)
      refine V_aload_n X dL_law_509 rfl 2 rfl ?_
      refine V_aload_n X dL_law_510 rfl 0 rfl ?_
      refine V_iload_n X dL_law_511 rfl 3 rfl ?_
      refine V_iconst X (v := (1 : Int32)) dL_law_512 (by decide) ?_
      refine V_iadd X dL_law_513 ?_
      obtain ⟨h85, hP⟩ := hP
      refine V_sld X hXs hbl h85 dL_law_514 ?_
      refine V_aload_n X dL_law_515 rfl 0 rfl ?_
      refine V_iload_n X dL_law_516 rfl 3 rfl ?_
      refine V_iconst X (v := (2 : Int32)) dL_law_517 (by decide) ?_
      refine V_iadd X dL_law_518 ?_
      obtain ⟨h86, hP⟩ := hP
      refine V_sld X hXs hbl h86 dL_law_519 ?_
      refine V_aload_n X dL_law_520 rfl 0 rfl ?_
      refine V_iload_n X dL_law_521 rfl 3 rfl ?_
      refine V_iconst X (v := (3 : Int32)) dL_law_522 (by decide) ?_
      refine V_iadd X dL_law_523 ?_
      obtain ⟨h87, hP⟩ := hP
      refine V_sld X hXs hbl h87 dL_law_524 ?_
      refine V_aload_n X dL_law_525 rfl 0 rfl ?_
      refine V_iload_n X dL_law_526 rfl 3 rfl ?_
      refine V_iconst X (v := (4 : Int32)) dL_law_527 (by decide) ?_
      refine V_iadd X dL_law_528 ?_
      obtain ⟨h88, hP⟩ := hP
      refine V_sld X hXs hbl h88 dL_law_529 ?_
      obtain ⟨h89, hP⟩ := hP
      refine V_callV_i X [.int (xs (Int32.toNatClampNeg (v3 + (1 : Int32)))), .int (xs (Int32.toNatClampNeg (v3 + (2 : Int32)))), .int (xs (Int32.toNatClampNeg (v3 + (3 : Int32)))), .int (xs (Int32.toNatClampNeg (v3 + (4 : Int32))))] kw_R_law_66 ki_X9_page ks_X9_page ksg_X9_page (m_X9_page l G s.heap.size _ _ _ _ _ _ _ hP) h89 (by decide) rfl rfl ⟨Nat.le_of_ble_eq_true rfl, Nat.le_of_ble_eq_true rfl⟩ (Nat.le_of_ble_eq_true rfl) ⟨show 63 + 3 * n + 0 + 0 ≤ 600000 from by omega, show 20676 + 605 * n + 0 + 0 ≤ 7302250 from by omega⟩ rfl dL_law_530 (fun r24 σ24 hP => ?_)
      refine V_icmp_eq X (tgt := 785) dL_law_533 (by decide) (fun h90 => ?_) (fun h90 => ?_)
      · have hP := hP.1 h90
        refine V_iinc X (v := (v3 + (6 : Int32))) (lv' := [(3, .int (v3 + (6 : Int32))), (0, .ref b), (1, .ref a1), (2, .ref a2)]) dL_law_785 3 rfl rfl (by decide) rfl ?_
        refine V_goto X (tgt := 18) dL_law_788 (by decide) ?_
        exact V.to [1, 2, 3, 0] rfl rfl (V.widen (by omega) (by omega) hP)
      · have hP := hP.2 h90
        refine V_iconst X (v := (0 : Int32)) dL_law_536 (by decide) ?_
        exact hP.elim
    · have hP := hP.2.2.2.2.2.2.2.2.2.2.2.2.2.1 h4
      refine V_tabIn X (tgt := 538) (off := 505) dL_law_33 (by omega) (by omega) (by rw [h4]; rfl) (by decide) ?_
      refine V_aload_n X dL_law_538 rfl 1 rfl ?_
      refine V_aload_n X dL_law_539 rfl 0 rfl ?_
      refine V_iload_n X dL_law_540 rfl 3 rfl ?_
      refine V_iconst X (v := (1 : Int32)) dL_law_541 (by decide) ?_
      refine V_iadd X dL_law_542 ?_
      obtain ⟨h91, hP⟩ := hP
      refine V_sld X hXs hbl h91 dL_law_543 ?_
      obtain ⟨h92, hP⟩ := hP
      refine V_callV_i X [.int (xs (Int32.toNatClampNeg (v3 + (1 : Int32))))] kw_R_law_67 ki_X8_reader ks_X8_reader ksg_X8_reader (m_X8_reader l G s.heap.size _ _ _ _ hP) h92 (by decide) rfl rfl ⟨Nat.le_of_ble_eq_true rfl, Nat.le_of_ble_eq_true rfl⟩ (Nat.le_of_ble_eq_true rfl) ⟨show 63 + 3 * n + 3 ≤ 600000 from by omega, show 20676 + 605 * n + 605 ≤ 7302250 from by omega⟩ rfl dL_law_544 (fun r25 σ25 hP => ?_)
      refine V_aload_n X dL_law_547 rfl 2 rfl ?_
      refine V_aload_n X dL_law_548 rfl 0 rfl ?_
      refine V_iload_n X dL_law_549 rfl 3 rfl ?_
      refine V_iconst X (v := (1 : Int32)) dL_law_550 (by decide) ?_
      refine V_iadd X dL_law_551 ?_
      obtain ⟨h93, hP⟩ := hP
      refine V_sld X hXs hbl h93 dL_law_552 ?_
      obtain ⟨h94, hP⟩ := hP
      refine V_callV_i X [.int (xs (Int32.toNatClampNeg (v3 + (1 : Int32))))] kw_R_law_70 ki_X9_reader ks_X9_reader ksg_X9_reader (m_X9_reader l G s.heap.size _ _ _ _ hP) h94 (by decide) rfl rfl ⟨Nat.le_of_ble_eq_true rfl, Nat.le_of_ble_eq_true rfl⟩ (Nat.le_of_ble_eq_true rfl) ⟨show 63 + 3 * n + 3 + 0 ≤ 600000 from by omega, show 20676 + 605 * n + 605 + 0 ≤ 7302250 from by omega⟩ rfl dL_law_553 (fun r26 σ26 hP => ?_)
      refine V_icmp_eq X (tgt := 785) dL_law_556 (by decide) (fun h95 => ?_) (fun h95 => ?_)
      · have hP := hP.1 h95
        refine V_iinc X (v := (v3 + (6 : Int32))) (lv' := [(3, .int (v3 + (6 : Int32))), (0, .ref b), (1, .ref a1), (2, .ref a2)]) dL_law_785 3 rfl rfl (by decide) rfl ?_
        refine V_goto X (tgt := 18) dL_law_788 (by decide) ?_
        exact V.to [1, 2, 3, 0] rfl rfl (V.widen (by omega) (by omega) hP)
      · have hP := hP.2 h95
        refine V_iconst X (v := (0 : Int32)) dL_law_559 (by decide) ?_
        exact hP.elim
    · have hP := hP.2.2.2.2.2.2.2.2.2.2.2.2.2.2.1 h4
      refine V_tabIn X (tgt := 561) (off := 528) dL_law_33 (by omega) (by omega) (by rw [h4]; rfl) (by decide) ?_
      refine V_aload_n X dL_law_561 rfl 1 rfl ?_
      obtain ⟨h96, hP⟩ := hP
      refine V_callV_i X [] kw_R_law_71 ki_X8_send ks_X8_send ksg_X8_send (m_X8_send l G s.heap.size _ _ _ hP) h96 (by decide) rfl rfl ⟨Nat.le_of_ble_eq_true rfl, Nat.le_of_ble_eq_true rfl⟩ (Nat.le_of_ble_eq_true rfl) ⟨show 63 + 3 * n + 0 ≤ 600000 from by omega, show 20676 + 605 * n + 0 ≤ 7302250 from by omega⟩ rfl dL_law_562 (fun r27 σ27 hP => ?_)
      refine V_aload_n X dL_law_565 rfl 2 rfl ?_
      obtain ⟨h97, hP⟩ := hP
      refine V_callV_i X [] kw_R_law_74 ki_X9_send ks_X9_send ksg_X9_send (m_X9_send l G s.heap.size _ _ _ hP) h97 (by decide) rfl rfl ⟨Nat.le_of_ble_eq_true rfl, Nat.le_of_ble_eq_true rfl⟩ (Nat.le_of_ble_eq_true rfl) ⟨show 63 + 3 * n + 0 + 0 ≤ 600000 from by omega, show 20676 + 605 * n + 0 + 0 ≤ 7302250 from by omega⟩ rfl dL_law_566 (fun r28 σ28 hP => ?_)
      refine V_icmp_eq X (tgt := 785) dL_law_569 (by decide) (fun h98 => ?_) (fun h98 => ?_)
      · have hP := hP.1 h98
        refine V_iinc X (v := (v3 + (6 : Int32))) (lv' := [(3, .int (v3 + (6 : Int32))), (0, .ref b), (1, .ref a1), (2, .ref a2)]) dL_law_785 3 rfl rfl (by decide) rfl ?_
        refine V_goto X (tgt := 18) dL_law_788 (by decide) ?_
        exact V.to [1, 2, 3, 0] rfl rfl (V.widen (by omega) (by omega) hP)
      · have hP := hP.2 h98
        refine V_iconst X (v := (0 : Int32)) dL_law_572 (by decide) ?_
        exact hP.elim
    · have hP := hP.2.2.2.2.2.2.2.2.2.2.2.2.2.2.2.1 h4
      refine V_tabIn X (tgt := 574) (off := 541) dL_law_33 (by omega) (by omega) (by rw [h4]; rfl) (by decide) ?_
      refine V_aload_n X dL_law_574 rfl 1 rfl ?_
      refine V_aload_n X dL_law_575 rfl 0 rfl ?_
      refine V_iload_n X dL_law_576 rfl 3 rfl ?_
      refine V_iconst X (v := (1 : Int32)) dL_law_577 (by decide) ?_
      refine V_iadd X dL_law_578 ?_
      obtain ⟨h99, hP⟩ := hP
      refine V_sld X hXs hbl h99 dL_law_579 ?_
      refine V_aload_n X dL_law_580 rfl 0 rfl ?_
      refine V_iload_n X dL_law_581 rfl 3 rfl ?_
      refine V_iconst X (v := (2 : Int32)) dL_law_582 (by decide) ?_
      refine V_iadd X dL_law_583 ?_
      obtain ⟨h100, hP⟩ := hP
      refine V_sld X hXs hbl h100 dL_law_584 ?_
      obtain ⟨h101, hP⟩ := hP
      refine V_callV_i X [.int (xs (Int32.toNatClampNeg (v3 + (1 : Int32)))), .int (xs (Int32.toNatClampNeg (v3 + (2 : Int32))))] kw_R_law_75 ki_X8_holds ks_X8_holds ksg_X8_holds (m_X8_holds l G s.heap.size _ _ _ _ _ hP) h101 (by decide) rfl rfl ⟨Nat.le_of_ble_eq_true rfl, Nat.le_of_ble_eq_true rfl⟩ (Nat.le_of_ble_eq_true rfl) ⟨show 63 + 3 * n + 0 ≤ 600000 from by omega, show 20676 + 605 * n + 0 ≤ 7302250 from by omega⟩ rfl dL_law_585 (fun r29 σ29 hP => ?_)
      refine V_aload_n X dL_law_588 rfl 2 rfl ?_
      refine V_aload_n X dL_law_589 rfl 0 rfl ?_
      refine V_iload_n X dL_law_590 rfl 3 rfl ?_
      refine V_iconst X (v := (1 : Int32)) dL_law_591 (by decide) ?_
      refine V_iadd X dL_law_592 ?_
      obtain ⟨h102, hP⟩ := hP
      refine V_sld X hXs hbl h102 dL_law_593 ?_
      refine V_aload_n X dL_law_594 rfl 0 rfl ?_
      refine V_iload_n X dL_law_595 rfl 3 rfl ?_
      refine V_iconst X (v := (2 : Int32)) dL_law_596 (by decide) ?_
      refine V_iadd X dL_law_597 ?_
      obtain ⟨h103, hP⟩ := hP
      refine V_sld X hXs hbl h103 dL_law_598 ?_
      obtain ⟨h104, hP⟩ := hP
      refine V_callV_i X [.int (xs (Int32.toNatClampNeg (v3 + (1 : Int32)))), .int (xs (Int32.toNatClampNeg (v3 + (2 : Int32))))] kw_R_law_78 ki_X9_holds ks_X9_holds ksg_X9_holds (m_X9_holds l G s.heap.size _ _ _ _ _ hP) h104 (by decide) rfl rfl ⟨Nat.le_of_ble_eq_true rfl, Nat.le_of_ble_eq_true rfl⟩ (Nat.le_of_ble_eq_true rfl) ⟨show 63 + 3 * n + 0 + 0 ≤ 600000 from by omega, show 20676 + 605 * n + 0 + 0 ≤ 7302250 from by omega⟩ rfl dL_law_599 (fun r30 σ30 hP => ?_)
      refine V_icmp_eq X (tgt := 785) dL_law_602 (by decide) (fun h105 => ?_) (fun h105 => ?_)
      · have hP := hP.1 h105
        refine V_iinc X (v := (v3 + (6 : Int32))) (lv' := [(3, .int (v3 + (6 : Int32))), (0, .ref b), (1, .ref a1), (2, .ref a2)]) dL_law_785 3 rfl rfl (by decide) rfl ?_
        refine V_goto X (tgt := 18) dL_law_788 (by decide) ?_
        exact V.to [1, 2, 3, 0] rfl rfl (V.widen (by omega) (by omega) hP)
      · have hP := hP.2 h105
        refine V_iconst X (v := (0 : Int32)) dL_law_605 (by decide) ?_
        exact hP.elim
    · have hP := hP.2.2.2.2.2.2.2.2.2.2.2.2.2.2.2.2.1 h4
      refine V_tabIn X (tgt := 607) (off := 574) dL_law_33 (by omega) (by omega) (by rw [h4]; rfl) (by decide) ?_
      refine V_aload_n X dL_law_607 rfl 1 rfl ?_
      refine V_aload_n X dL_law_608 rfl 0 rfl ?_
      refine V_iload_n X dL_law_609 rfl 3 rfl ?_
      refine V_iconst X (v := (1 : Int32)) dL_law_610 (by decide) ?_
      refine V_iadd X dL_law_611 ?_
      obtain ⟨h106, hP⟩ := hP
      refine V_sld X hXs hbl h106 dL_law_612 ?_
      obtain ⟨h107, hP⟩ := hP
      refine V_callV_i X [.int (xs (Int32.toNatClampNeg (v3 + (1 : Int32))))] kw_R_law_79 ki_X8_same ks_X8_same ksg_X8_same (m_X8_same l G s.heap.size _ _ _ _ hP) h107 (by decide) rfl rfl ⟨Nat.le_of_ble_eq_true rfl, Nat.le_of_ble_eq_true rfl⟩ (Nat.le_of_ble_eq_true rfl) ⟨show 63 + 3 * n + 0 ≤ 600000 from by omega, show 20676 + 605 * n + 0 ≤ 7302250 from by omega⟩ rfl dL_law_613 (fun r31 σ31 hP => ?_)
      refine V_aload_n X dL_law_616 rfl 2 rfl ?_
      refine V_aload_n X dL_law_617 rfl 0 rfl ?_
      refine V_iload_n X dL_law_618 rfl 3 rfl ?_
      refine V_iconst X (v := (1 : Int32)) dL_law_619 (by decide) ?_
      refine V_iadd X dL_law_620 ?_
      obtain ⟨h108, hP⟩ := hP
      refine V_sld X hXs hbl h108 dL_law_621 ?_
      obtain ⟨h109, hP⟩ := hP
      refine V_callV_i X [.int (xs (Int32.toNatClampNeg (v3 + (1 : Int32))))] kw_R_law_82 ki_X9_same ks_X9_same ksg_X9_same (m_X9_same l G s.heap.size _ _ _ _ hP) h109 (by decide) rfl rfl ⟨Nat.le_of_ble_eq_true rfl, Nat.le_of_ble_eq_true rfl⟩ (Nat.le_of_ble_eq_true rfl) ⟨show 63 + 3 * n + 0 + 0 ≤ 600000 from by omega, show 20676 + 605 * n + 0 + 0 ≤ 7302250 from by omega⟩ rfl dL_law_622 (fun r32 σ32 hP => ?_)
      refine V_icmp_eq X (tgt := 785) dL_law_625 (by decide) (fun h110 => ?_) (fun h110 => ?_)
      · have hP := hP.1 h110
        refine V_iinc X (v := (v3 + (6 : Int32))) (lv' := [(3, .int (v3 + (6 : Int32))), (0, .ref b), (1, .ref a1), (2, .ref a2)]) dL_law_785 3 rfl rfl (by decide) rfl ?_
        refine V_goto X (tgt := 18) dL_law_788 (by decide) ?_
        exact V.to [1, 2, 3, 0] rfl rfl (V.widen (by omega) (by omega) hP)
      · have hP := hP.2 h110
        refine V_iconst X (v := (0 : Int32)) dL_law_628 (by decide) ?_
        exact hP.elim
    · have hP := hP.2.2.2.2.2.2.2.2.2.2.2.2.2.2.2.2.2.1 h4
      refine V_tabIn X (tgt := 630) (off := 597) dL_law_33 (by omega) (by omega) (by rw [h4]; rfl) (by decide) ?_
      refine V_aload_n X dL_law_630 rfl 1 rfl ?_
      refine V_aload_n X dL_law_631 rfl 0 rfl ?_
      refine V_iload_n X dL_law_632 rfl 3 rfl ?_
      refine V_iconst X (v := (1 : Int32)) dL_law_633 (by decide) ?_
      refine V_iadd X dL_law_634 ?_
      obtain ⟨h111, hP⟩ := hP
      refine V_sld X hXs hbl h111 dL_law_635 ?_
      refine V_aload_n X dL_law_636 rfl 0 rfl ?_
      refine V_iload_n X dL_law_637 rfl 3 rfl ?_
      refine V_iconst X (v := (2 : Int32)) dL_law_638 (by decide) ?_
      refine V_iadd X dL_law_639 ?_
      obtain ⟨h112, hP⟩ := hP
      refine V_sld X hXs hbl h112 dL_law_640 ?_
      refine V_aload_n X dL_law_641 rfl 0 rfl ?_
      refine V_iload_n X dL_law_642 rfl 3 rfl ?_
      refine V_iconst X (v := (3 : Int32)) dL_law_643 (by decide) ?_
      refine V_iadd X dL_law_644 ?_
      obtain ⟨h113, hP⟩ := hP
      refine V_sld X hXs hbl h113 dL_law_645 ?_
      obtain ⟨h114, hP⟩ := hP
      refine V_callV_i X [.int (xs (Int32.toNatClampNeg (v3 + (1 : Int32)))), .int (xs (Int32.toNatClampNeg (v3 + (2 : Int32)))), .int (xs (Int32.toNatClampNeg (v3 + (3 : Int32))))] kw_R_law_83 ki_X8_edit ks_X8_edit ksg_X8_edit (m_X8_edit l G s.heap.size _ _ _ _ _ _ hP) h114 (by decide) rfl rfl ⟨Nat.le_of_ble_eq_true rfl, Nat.le_of_ble_eq_true rfl⟩ (Nat.le_of_ble_eq_true rfl) ⟨show 63 + 3 * n + 1 ≤ 600000 from by omega, show 20676 + 605 * n + 6 ≤ 7302250 from by omega⟩ rfl dL_law_646 (fun r33 σ33 hP => ?_)
      refine V_aload_n X dL_law_649 rfl 2 rfl ?_
      refine V_aload_n X dL_law_650 rfl 0 rfl ?_
      refine V_iload_n X dL_law_651 rfl 3 rfl ?_
      refine V_iconst X (v := (1 : Int32)) dL_law_652 (by decide) ?_
      refine V_iadd X dL_law_653 ?_
      obtain ⟨h115, hP⟩ := hP
      refine V_sld X hXs hbl h115 dL_law_654 ?_
      refine V_aload_n X dL_law_655 rfl 0 rfl ?_
      refine V_iload_n X dL_law_656 rfl 3 rfl ?_
      refine V_iconst X (v := (2 : Int32)) dL_law_657 (by decide) ?_
      refine V_iadd X dL_law_658 ?_
      obtain ⟨h116, hP⟩ := hP
      refine V_sld X hXs hbl h116 dL_law_659 ?_
      refine V_aload_n X dL_law_660 rfl 0 rfl ?_
      refine V_iload_n X dL_law_661 rfl 3 rfl ?_
      refine V_iconst X (v := (3 : Int32)) dL_law_662 (by decide) ?_
      refine V_iadd X dL_law_663 ?_
      obtain ⟨h117, hP⟩ := hP
      refine V_sld X hXs hbl h117 dL_law_664 ?_
      obtain ⟨h118, hP⟩ := hP
      refine V_callV_i X [.int (xs (Int32.toNatClampNeg (v3 + (1 : Int32)))), .int (xs (Int32.toNatClampNeg (v3 + (2 : Int32)))), .int (xs (Int32.toNatClampNeg (v3 + (3 : Int32))))] kw_R_law_86 ki_X9_edit ks_X9_edit ksg_X9_edit (m_X9_edit l G s.heap.size _ _ _ _ _ _ hP) h118 (by decide) rfl rfl ⟨Nat.le_of_ble_eq_true rfl, Nat.le_of_ble_eq_true rfl⟩ (Nat.le_of_ble_eq_true rfl) ⟨show 63 + 3 * n + 1 + 0 ≤ 600000 from by omega, show 20676 + 605 * n + 6 + 0 ≤ 7302250 from by omega⟩ rfl dL_law_665 (fun r34 σ34 hP => ?_)
      refine V_icmp_eq X (tgt := 785) dL_law_668 (by decide) (fun h119 => ?_) (fun h119 => ?_)
      · have hP := hP.1 h119
        refine V_iinc X (v := (v3 + (6 : Int32))) (lv' := [(3, .int (v3 + (6 : Int32))), (0, .ref b), (1, .ref a1), (2, .ref a2)]) dL_law_785 3 rfl rfl (by decide) rfl ?_
        refine V_goto X (tgt := 18) dL_law_788 (by decide) ?_
        exact V.to [1, 2, 3, 0] rfl rfl (V.widen (by omega) (by omega) hP)
      · have hP := hP.2 h119
        refine V_iconst X (v := (0 : Int32)) dL_law_671 (by decide) ?_
        exact hP.elim
    · have hP := hP.2.2.2.2.2.2.2.2.2.2.2.2.2.2.2.2.2.2.1 h4
      refine V_tabIn X (tgt := 673) (off := 640) dL_law_33 (by omega) (by omega) (by rw [h4]; rfl) (by decide) ?_
      refine V_aload_n X dL_law_673 rfl 1 rfl ?_
      refine V_aload_n X dL_law_674 rfl 0 rfl ?_
      refine V_iload_n X dL_law_675 rfl 3 rfl ?_
      refine V_iconst X (v := (1 : Int32)) dL_law_676 (by decide) ?_
      refine V_iadd X dL_law_677 ?_
      obtain ⟨h120, hP⟩ := hP
      refine V_sld X hXs hbl h120 dL_law_678 ?_
      refine V_aload_n X dL_law_679 rfl 0 rfl ?_
      refine V_iload_n X dL_law_680 rfl 3 rfl ?_
      refine V_iconst X (v := (2 : Int32)) dL_law_681 (by decide) ?_
      refine V_iadd X dL_law_682 ?_
      obtain ⟨h121, hP⟩ := hP
      refine V_sld X hXs hbl h121 dL_law_683 ?_
      refine V_aload_n X dL_law_684 rfl 0 rfl ?_
      refine V_iload_n X dL_law_685 rfl 3 rfl ?_
      refine V_iconst X (v := (3 : Int32)) dL_law_686 (by decide) ?_
      refine V_iadd X dL_law_687 ?_
      obtain ⟨h122, hP⟩ := hP
      refine V_sld X hXs hbl h122 dL_law_688 ?_
      obtain ⟨h123, hP⟩ := hP
      refine V_callV_i X [.int (xs (Int32.toNatClampNeg (v3 + (1 : Int32)))), .int (xs (Int32.toNatClampNeg (v3 + (2 : Int32)))), .int (xs (Int32.toNatClampNeg (v3 + (3 : Int32))))] kw_R_law_87 ki_X8_asOf ks_X8_asOf ksg_X8_asOf (m_X8_asOf l G s.heap.size _ _ _ _ _ _ hP) h123 (by decide) rfl rfl ⟨Nat.le_of_ble_eq_true rfl, Nat.le_of_ble_eq_true rfl⟩ (Nat.le_of_ble_eq_true rfl) ⟨show 63 + 3 * n + 0 ≤ 600000 from by omega, show 20676 + 605 * n + 0 ≤ 7302250 from by omega⟩ rfl dL_law_689 (fun r35 σ35 hP => ?_)
      refine V_aload_n X dL_law_692 rfl 2 rfl ?_
      refine V_aload_n X dL_law_693 rfl 0 rfl ?_
      refine V_iload_n X dL_law_694 rfl 3 rfl ?_
      refine V_iconst X (v := (1 : Int32)) dL_law_695 (by decide) ?_
      refine V_iadd X dL_law_696 ?_
      obtain ⟨h124, hP⟩ := hP
      refine V_sld X hXs hbl h124 dL_law_697 ?_
      refine V_aload_n X dL_law_698 rfl 0 rfl ?_
      refine V_iload_n X dL_law_699 rfl 3 rfl ?_
      refine V_iconst X (v := (2 : Int32)) dL_law_700 (by decide) ?_
      refine V_iadd X dL_law_701 ?_
      obtain ⟨h125, hP⟩ := hP
      refine V_sld X hXs hbl h125 dL_law_702 ?_
      refine V_aload_n X dL_law_703 rfl 0 rfl ?_
      refine V_iload_n X dL_law_704 rfl 3 rfl ?_
      refine V_iconst X (v := (3 : Int32)) dL_law_705 (by decide) ?_
      refine V_iadd X dL_law_706 ?_
      obtain ⟨h126, hP⟩ := hP
      refine V_sld X hXs hbl h126 dL_law_707 ?_
      obtain ⟨h127, hP⟩ := hP
      refine V_callV_i X [.int (xs (Int32.toNatClampNeg (v3 + (1 : Int32)))), .int (xs (Int32.toNatClampNeg (v3 + (2 : Int32)))), .int (xs (Int32.toNatClampNeg (v3 + (3 : Int32))))] kw_R_law_90 ki_X9_asOf ks_X9_asOf ksg_X9_asOf (m_X9_asOf l G s.heap.size _ _ _ _ _ _ hP) h127 (by decide) rfl rfl ⟨Nat.le_of_ble_eq_true rfl, Nat.le_of_ble_eq_true rfl⟩ (Nat.le_of_ble_eq_true rfl) ⟨show 63 + 3 * n + 0 + 0 ≤ 600000 from by omega, show 20676 + 605 * n + 0 + 0 ≤ 7302250 from by omega⟩ rfl dL_law_708 (fun r36 σ36 hP => ?_)
      refine V_icmp_eq X (tgt := 785) dL_law_711 (by decide) (fun h128 => ?_) (fun h128 => ?_)
      · have hP := hP.1 h128
        refine V_iinc X (v := (v3 + (6 : Int32))) (lv' := [(3, .int (v3 + (6 : Int32))), (0, .ref b), (1, .ref a1), (2, .ref a2)]) dL_law_785 3 rfl rfl (by decide) rfl ?_
        refine V_goto X (tgt := 18) dL_law_788 (by decide) ?_
        exact V.to [1, 2, 3, 0] rfl rfl (V.widen (by omega) (by omega) hP)
      · have hP := hP.2 h128
        refine V_iconst X (v := (0 : Int32)) dL_law_714 (by decide) ?_
        exact hP.elim
    · have hP := hP.2.2.2.2.2.2.2.2.2.2.2.2.2.2.2.2.2.2.2.1 h4
      refine V_tabIn X (tgt := 716) (off := 683) dL_law_33 (by omega) (by omega) (by rw [h4]; rfl) (by decide) ?_
      refine V_aload_n X dL_law_716 rfl 1 rfl ?_
      refine V_aload_n X dL_law_717 rfl 0 rfl ?_
      refine V_iload_n X dL_law_718 rfl 3 rfl ?_
      refine V_iconst X (v := (1 : Int32)) dL_law_719 (by decide) ?_
      refine V_iadd X dL_law_720 ?_
      obtain ⟨h129, hP⟩ := hP
      refine V_sld X hXs hbl h129 dL_law_721 ?_
      refine V_aload_n X dL_law_722 rfl 0 rfl ?_
      refine V_iload_n X dL_law_723 rfl 3 rfl ?_
      refine V_iconst X (v := (2 : Int32)) dL_law_724 (by decide) ?_
      refine V_iadd X dL_law_725 ?_
      obtain ⟨h130, hP⟩ := hP
      refine V_sld X hXs hbl h130 dL_law_726 ?_
      obtain ⟨h131, hP⟩ := hP
      refine V_callV_i X [.int (xs (Int32.toNatClampNeg (v3 + (1 : Int32)))), .int (xs (Int32.toNatClampNeg (v3 + (2 : Int32))))] kw_R_law_91 ki_X8_touched ks_X8_touched ksg_X8_touched (m_X8_touched l G s.heap.size _ _ _ _ _ hP) h131 (by decide) rfl rfl ⟨Nat.le_of_ble_eq_true rfl, Nat.le_of_ble_eq_true rfl⟩ (Nat.le_of_ble_eq_true rfl) ⟨show 63 + 3 * n + 1 ≤ 600000 from by omega, show 20676 + 605 * n + 6 ≤ 7302250 from by omega⟩ rfl dL_law_727 (fun r37 σ37 hP => ?_)
      refine V_aload_n X dL_law_730 rfl 2 rfl ?_
      refine V_aload_n X dL_law_731 rfl 0 rfl ?_
      refine V_iload_n X dL_law_732 rfl 3 rfl ?_
      refine V_iconst X (v := (1 : Int32)) dL_law_733 (by decide) ?_
      refine V_iadd X dL_law_734 ?_
      obtain ⟨h132, hP⟩ := hP
      refine V_sld X hXs hbl h132 dL_law_735 ?_
      refine V_aload_n X dL_law_736 rfl 0 rfl ?_
      refine V_iload_n X dL_law_737 rfl 3 rfl ?_
      refine V_iconst X (v := (2 : Int32)) dL_law_738 (by decide) ?_
      refine V_iadd X dL_law_739 ?_
      obtain ⟨h133, hP⟩ := hP
      refine V_sld X hXs hbl h133 dL_law_740 ?_
      obtain ⟨h134, hP⟩ := hP
      refine V_callV_i X [.int (xs (Int32.toNatClampNeg (v3 + (1 : Int32)))), .int (xs (Int32.toNatClampNeg (v3 + (2 : Int32))))] kw_R_law_94 ki_X9_touched ks_X9_touched ksg_X9_touched (m_X9_touched l G s.heap.size _ _ _ _ _ hP) h134 (by decide) rfl rfl ⟨Nat.le_of_ble_eq_true rfl, Nat.le_of_ble_eq_true rfl⟩ (Nat.le_of_ble_eq_true rfl) ⟨show 63 + 3 * n + 1 + 0 ≤ 600000 from by omega, show 20676 + 605 * n + 6 + 0 ≤ 7302250 from by omega⟩ rfl dL_law_741 (fun r38 σ38 hP => ?_)
      refine V_icmp_eq X (tgt := 785) dL_law_744 (by decide) (fun h135 => ?_) (fun h135 => ?_)
      · have hP := hP.1 h135
        refine V_iinc X (v := (v3 + (6 : Int32))) (lv' := [(3, .int (v3 + (6 : Int32))), (0, .ref b), (1, .ref a1), (2, .ref a2)]) dL_law_785 3 rfl rfl (by decide) rfl ?_
        refine V_goto X (tgt := 18) dL_law_788 (by decide) ?_
        exact V.to [1, 2, 3, 0] rfl rfl (V.widen (by omega) (by omega) hP)
      · have hP := hP.2 h135
        refine V_iconst X (v := (0 : Int32)) dL_law_747 (by decide) ?_
        exact hP.elim
    · have hP := hP.2.2.2.2.2.2.2.2.2.2.2.2.2.2.2.2.2.2.2.2.1 h4
      refine V_tabIn X (tgt := 749) (off := 716) dL_law_33 (by omega) (by omega) (by rw [h4]; rfl) (by decide) ?_
      refine V_aload_n X dL_law_749 rfl 1 rfl ?_
      refine V_aload_n X dL_law_750 rfl 0 rfl ?_
      refine V_iload_n X dL_law_751 rfl 3 rfl ?_
      refine V_iconst X (v := (1 : Int32)) dL_law_752 (by decide) ?_
      refine V_iadd X dL_law_753 ?_
      obtain ⟨h136, hP⟩ := hP
      refine V_sld X hXs hbl h136 dL_law_754 ?_
      obtain ⟨h137, hP⟩ := hP
      refine V_callV_i X [.int (xs (Int32.toNatClampNeg (v3 + (1 : Int32))))] kw_R_law_95 ki_X8_count ks_X8_count ksg_X8_count (m_X8_count l G s.heap.size _ _ _ _ hP) h137 (by decide) rfl rfl ⟨Nat.le_of_ble_eq_true rfl, Nat.le_of_ble_eq_true rfl⟩ (Nat.le_of_ble_eq_true rfl) ⟨show 63 + 3 * n + 0 ≤ 600000 from by omega, show 20676 + 605 * n + 0 ≤ 7302250 from by omega⟩ rfl dL_law_755 (fun r39 σ39 hP => ?_)
      refine V_aload_n X dL_law_758 rfl 2 rfl ?_
      refine V_aload_n X dL_law_759 rfl 0 rfl ?_
      refine V_iload_n X dL_law_760 rfl 3 rfl ?_
      refine V_iconst X (v := (1 : Int32)) dL_law_761 (by decide) ?_
      refine V_iadd X dL_law_762 ?_
      obtain ⟨h138, hP⟩ := hP
      refine V_sld X hXs hbl h138 dL_law_763 ?_
      obtain ⟨h139, hP⟩ := hP
      refine V_callV_i X [.int (xs (Int32.toNatClampNeg (v3 + (1 : Int32))))] kw_R_law_98 ki_X9_count ks_X9_count ksg_X9_count (m_X9_count l G s.heap.size _ _ _ _ hP) h139 (by decide) rfl rfl ⟨Nat.le_of_ble_eq_true rfl, Nat.le_of_ble_eq_true rfl⟩ (Nat.le_of_ble_eq_true rfl) ⟨show 63 + 3 * n + 0 + 0 ≤ 600000 from by omega, show 20676 + 605 * n + 0 + 0 ≤ 7302250 from by omega⟩ rfl dL_law_764 (fun r40 σ40 hP => ?_)
      refine V_icmp_eq X (tgt := 785) dL_law_767 (by decide) (fun h140 => ?_) (fun h140 => ?_)
      · have hP := hP.1 h140
        refine V_iinc X (v := (v3 + (6 : Int32))) (lv' := [(3, .int (v3 + (6 : Int32))), (0, .ref b), (1, .ref a1), (2, .ref a2)]) dL_law_785 3 rfl rfl (by decide) rfl ?_
        refine V_goto X (tgt := 18) dL_law_788 (by decide) ?_
        exact V.to [1, 2, 3, 0] rfl rfl (V.widen (by omega) (by omega) hP)
      · have hP := hP.2 h140
        refine V_iconst X (v := (0 : Int32)) dL_law_770 (by decide) ?_
        exact hP.elim
    · have hP := hP.2.2.2.2.2.2.2.2.2.2.2.2.2.2.2.2.2.2.2.2.2 h4
      refine V_tabIn X (tgt := 772) (off := 739) dL_law_33 (by omega) (by omega) (by rw [h4]; rfl) (by decide) ?_
      refine V_aload_n X dL_law_772 rfl 1 rfl ?_
      obtain ⟨h141, hP⟩ := hP
      refine V_callV_i X [] kw_R_law_99 ki_X8_status ks_X8_status ksg_X8_status (m_X8_status l G s.heap.size _ _ _ hP) h141 (by decide) rfl rfl ⟨Nat.le_of_ble_eq_true rfl, Nat.le_of_ble_eq_true rfl⟩ (Nat.le_of_ble_eq_true rfl) ⟨show 63 + 3 * n + 0 ≤ 600000 from by omega, show 20676 + 605 * n + 0 ≤ 7302250 from by omega⟩ rfl dL_law_773 (fun r41 σ41 hP => ?_)
      refine V_aload_n X dL_law_776 rfl 2 rfl ?_
      obtain ⟨h142, hP⟩ := hP
      refine V_callV_i X [] kw_R_law_102 ki_X9_status ks_X9_status ksg_X9_status (m_X9_status l G s.heap.size _ _ _ hP) h142 (by decide) rfl rfl ⟨Nat.le_of_ble_eq_true rfl, Nat.le_of_ble_eq_true rfl⟩ (Nat.le_of_ble_eq_true rfl) ⟨show 63 + 3 * n + 0 + 0 ≤ 600000 from by omega, show 20676 + 605 * n + 0 + 0 ≤ 7302250 from by omega⟩ rfl dL_law_777 (fun r42 σ42 hP => ?_)
      refine V_icmp_eq X (tgt := 785) dL_law_780 (by decide) (fun h143 => ?_) (fun h143 => ?_)
      · have hP := hP.1 h143
        refine V_iinc X (v := (v3 + (6 : Int32))) (lv' := [(3, .int (v3 + (6 : Int32))), (0, .ref b), (1, .ref a1), (2, .ref a2)]) dL_law_785 3 rfl rfl (by decide) rfl ?_
        refine V_goto X (tgt := 18) dL_law_788 (by decide) ?_
        exact V.to [1, 2, 3, 0] rfl rfl (V.widen (by omega) (by omega) hP)
      · have hP := hP.2 h143
        refine V_iconst X (v := (0 : Int32)) dL_law_783 (by decide) ?_
        exact hP.elim
set_option maxHeartbeats 4000000 in
set_option maxRecDepth 100000 in
theorem law_walk0 {p : Program} (l : Launch) {e : Env} {s : State} {m : MethodId} {below : List Frame} {meth : Method} {c : Code} {G : GG} {b L : Nat} {xs : Nat → Int32} (hrl : meth.sig.returnType = ret) (X : EX p s m #[Value.ref b] meth c G s.heap.size R_law code 4) (hXs : va_X b L xs s s.heap) (hbl : b < s.heap.size) (σ : Hp) (hP : P_law L xs σ) : V p l e room_1 s m #[Value.ref b] below meth c (lw_Z below #[Value.ref b] s) G s.heap.size 4 σ 0 0 0 [(0, .ref b)] [] := by
  unfold P_law at hP
  refine V_new X (t := 8) kp_R_law_7 (show 0 + 1 ≤ 600000 from by omega) (show 0 + 13 ≤ 7302250 from by omega) dL_law_0 (fun q1 h1 => ?_)
  have hP := hP q1 h1
  have h2 : gk (nw σ q1 8 0) q1 = _ := gk_new
  refine V_dup X dL_law_3 rfl ?_
  refine V_callI_v X [] kw_R_law_9 ki_X8_init rfl (m_X8_init l G s.heap.size _ _ _ hP) rfl ⟨Nat.le_of_ble_eq_true rfl, Nat.le_of_ble_eq_true rfl⟩ (Nat.le_of_ble_eq_true rfl) ⟨show 0 + 1 + 25 ≤ 600000 from by omega, show 0 + 13 + 2698 ≤ 7302250 from by omega⟩ rfl dL_law_4 (fun σ2 hP => ?_)
  refine V_astore_n X (lv' := [(1, .ref q1), (0, .ref b)]) dL_law_7 rfl (by decide) rfl ?_
  refine V_new X (t := 9) kp_R_law_10 (show 0 + 1 + 25 + 1 ≤ 600000 from by omega) (show 0 + 13 + 2698 + 55 ≤ 7302250 from by omega) dL_law_8 (fun q3 h3 => ?_)
  have hP := hP q3 h3
  have h4 : gk (nw σ2 q3 9 0) q3 = _ := gk_new
  refine V_dup X dL_law_11 rfl ?_
  refine V_callI_v X [] kw_R_law_12 ki_X9_init rfl (m_X9_init l G s.heap.size _ _ _ hP) rfl ⟨Nat.le_of_ble_eq_true rfl, Nat.le_of_ble_eq_true rfl⟩ (Nat.le_of_ble_eq_true rfl) ⟨show 0 + 1 + 25 + 1 + 36 ≤ 600000 from by omega, show 0 + 13 + 2698 + 55 + 17910 ≤ 7302250 from by omega⟩ rfl dL_law_12 (fun σ4 hP => ?_)
  refine V_astore_n X (lv' := [(2, .ref q3), (1, .ref q1), (0, .ref b)]) dL_law_15 rfl (by decide) rfl ?_
  refine V_iconst X (v := (0 : Int32)) dL_law_16 (by decide) ?_
  refine V_istore_n X (lv' := [(3, .int (0 : Int32)), (2, .ref q3), (1, .ref q1), (0, .ref b)]) dL_law_17 rfl (by decide) rfl ?_
  exact V.to [3, 2, 1, 0] rfl rfl (V.widen (by decide) (by decide) (law_loop l hrl X hXs hbl q1 q3 (0 : Int32) 0 _ hP))
