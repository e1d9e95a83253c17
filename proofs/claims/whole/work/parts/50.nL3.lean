set_option maxRecDepth 20000 in
theorem gL_law_X9_init : GoodIn wsL_law (wsX9_init) := ggL_law_X9_init
set_option maxRecDepth 20000 in
theorem gL_law_X10_init : GoodIn wsL_law (wsX10_init) := ggL_law_X10_init
set_option maxRecDepth 20000 in
theorem gL_law_X9_erase : GoodIn wsL_law (wsV RL 13 RX9 yX9_erase wsX9_erase) := goodIn_app (goodIn_of _ (by decide +kernel)) ggL_law_X9_erase
set_option maxRecDepth 20000 in
theorem gL_law_X10_erase : GoodIn wsL_law (wsV RL 17 RX10 yX10_erase wsX10_erase) := goodIn_app (goodIn_of _ (by decide +kernel)) ggL_law_X10_erase
set_option maxRecDepth 20000 in
theorem gL_law_X9_forget : GoodIn wsL_law (wsV RL 18 RX9 yX9_forget wsX9_forget) := goodIn_app (goodIn_of _ (by decide +kernel)) ggL_law_X9_forget
set_option maxRecDepth 20000 in
theorem gL_law_X10_forget : GoodIn wsL_law (wsV RL 21 RX10 yX10_forget wsX10_forget) := goodIn_app (goodIn_of _ (by decide +kernel)) ggL_law_X10_forget
set_option maxRecDepth 20000 in
theorem gL_law_X9_append : GoodIn wsL_law (wsV RL 22 RX9 yX9_append wsX9_append) := goodIn_app (goodIn_of _ (by decide +kernel)) ggL_law_X9_append
set_option maxRecDepth 20000 in
theorem gL_law_X10_append : GoodIn wsL_law (wsV RL 26 RX10 yX10_append wsX10_append) := goodIn_app (goodIn_of _ (by decide +kernel)) ggL_law_X10_append
set_option maxRecDepth 20000 in
theorem gL_law_X9_length : GoodIn wsL_law (wsV RL 27 RX9 yX9_length wsX9_length) := goodIn_app (goodIn_of _ (by decide +kernel)) ggL_law_X9_length
set_option maxRecDepth 20000 in
theorem gL_law_X10_length : GoodIn wsL_law (wsV RL 30 RX10 yX10_length wsX10_length) := goodIn_app (goodIn_of _ (by decide +kernel)) ggL_law_X10_length
set_option maxRecDepth 20000 in
theorem gL_law_X9_characterAt : GoodIn wsL_law (wsV RL 31 RX9 yX9_characterAt wsX9_characterAt) := goodIn_app (goodIn_of _ (by decide +kernel)) ggL_law_X9_characterAt
set_option maxRecDepth 20000 in
theorem gL_law_X10_characterAt : GoodIn wsL_law (wsV RL 34 RX10 yX10_characterAt wsX10_characterAt) := goodIn_app (goodIn_of _ (by decide +kernel)) ggL_law_X10_characterAt
set_option maxRecDepth 20000 in
theorem gL_law_X9_copy : GoodIn wsL_law (wsV RL 35 RX9 yX9_copy wsX9_copy) := goodIn_app (goodIn_of _ (by decide +kernel)) ggL_law_X9_copy
set_option maxRecDepth 20000 in
theorem gL_law_X10_copy : GoodIn wsL_law (wsV RL 38 RX10 yX10_copy wsX10_copy) := goodIn_app (goodIn_of _ (by decide +kernel)) ggL_law_X10_copy
set_option maxRecDepth 20000 in
theorem gL_law_X9_same : GoodIn wsL_law (wsV RL 39 RX9 yX9_same wsX9_same) := goodIn_app (goodIn_of _ (by decide +kernel)) ggL_law_X9_same
set_option maxRecDepth 20000 in
theorem gL_law_X10_same : GoodIn wsL_law (wsV RL 42 RX10 yX10_same wsX10_same) := goodIn_app (goodIn_of _ (by decide +kernel)) ggL_law_X10_same
set_option maxRecDepth 20000 in
theorem gL_law_X9_type : GoodIn wsL_law (wsV RL 43 RX9 yX9_type wsX9_type) := goodIn_app (goodIn_of _ (by decide +kernel)) ggL_law_X9_type
set_option maxRecDepth 20000 in
theorem gL_law_X10_type : GoodIn wsL_law (wsV RL 46 RX10 yX10_type wsX10_type) := goodIn_app (goodIn_of _ (by decide +kernel)) ggL_law_X10_type
set_option maxRecDepth 20000 in
theorem gL_law_X9_tapeLength : GoodIn wsL_law (wsV RL 47 RX9 yX9_tapeLength wsX9_tapeLength) := goodIn_app (goodIn_of _ (by decide +kernel)) ggL_law_X9_tapeLength
set_option maxRecDepth 20000 in
theorem gL_law_X10_tapeLength : GoodIn wsL_law (wsV RL 51 RX10 yX10_tapeLength wsX10_tapeLength) := goodIn_app (goodIn_of _ (by decide +kernel)) ggL_law_X10_tapeLength
set_option maxRecDepth 20000 in
theorem gL_law_X9_tapeAt : GoodIn wsL_law (wsV RL 52 RX9 yX9_tapeAt wsX9_tapeAt) := goodIn_app (goodIn_of _ (by decide +kernel)) ggL_law_X9_tapeAt
set_option maxRecDepth 20000 in
theorem gL_law_X10_tapeAt : GoodIn wsL_law (wsV RL 55 RX10 yX10_tapeAt wsX10_tapeAt) := goodIn_app (goodIn_of _ (by decide +kernel)) ggL_law_X10_tapeAt
set_option maxRecDepth 20000 in
theorem gL_law_X9_wipe : GoodIn wsL_law (wsV RL 56 RX9 yX9_wipe wsX9_wipe) := goodIn_app (goodIn_of _ (by decide +kernel)) ggL_law_X9_wipe
set_option maxRecDepth 20000 in
theorem gL_law_X10_wipe : GoodIn wsL_law (wsV RL 59 RX10 yX10_wipe wsX10_wipe) := goodIn_app (goodIn_of _ (by decide +kernel)) ggL_law_X10_wipe
set_option maxRecDepth 20000 in
theorem gL_law_X9_load : GoodIn wsL_law (wsV RL 60 RX9 yX9_load wsX9_load) := goodIn_app (goodIn_of _ (by decide +kernel)) ggL_law_X9_load
set_option maxRecDepth 20000 in
theorem gL_law_X10_load : GoodIn wsL_law (wsV RL 63 RX10 yX10_load wsX10_load) := goodIn_app (goodIn_of _ (by decide +kernel)) ggL_law_X10_load
set_option maxRecDepth 20000 in
theorem gL_law_X9_brokenAt : GoodIn wsL_law (wsV RL 64 RX9 yX9_brokenAt wsX9_brokenAt) := goodIn_app (goodIn_of _ (by decide +kernel)) ggL_law_X9_brokenAt
set_option maxRecDepth 20000 in
theorem gL_law_X10_brokenAt : GoodIn wsL_law (wsV RL 67 RX10 yX10_brokenAt wsX10_brokenAt) := goodIn_app (goodIn_of _ (by decide +kernel)) ggL_law_X10_brokenAt
set_option maxRecDepth 20000 in
theorem gL_law_X9_write : GoodIn wsL_law (wsV RL 68 RX9 yX9_write wsX9_write) := goodIn_app (goodIn_of _ (by decide +kernel)) ggL_law_X9_write
set_option maxRecDepth 20000 in
theorem gL_law_X10_write : GoodIn wsL_law (wsV RL 71 RX10 yX10_write wsX10_write) := goodIn_app (goodIn_of _ (by decide +kernel)) ggL_law_X10_write
set_option maxRecDepth 20000 in
theorem gL_law_X9_get : GoodIn wsL_law (wsV RL 72 RX9 yX9_get wsX9_get) := goodIn_app (goodIn_of _ (by decide +kernel)) ggL_law_X9_get
set_option maxRecDepth 20000 in
theorem gL_law_X10_get : GoodIn wsL_law (wsV RL 76 RX10 yX10_get wsX10_get) := goodIn_app (goodIn_of _ (by decide +kernel)) ggL_law_X10_get
set_option maxRecDepth 20000 in
theorem gL_law_X9_getOr : GoodIn wsL_law (wsV RL 77 RX9 yX9_getOr wsX9_getOr) := goodIn_app (goodIn_of _ (by decide +kernel)) ggL_law_X9_getOr
set_option maxRecDepth 20000 in
theorem gL_law_X10_getOr : GoodIn wsL_law (wsV RL 81 RX10 yX10_getOr wsX10_getOr) := goodIn_app (goodIn_of _ (by decide +kernel)) ggL_law_X10_getOr
set_option maxRecDepth 20000 in
theorem gL_law_X9_has : GoodIn wsL_law (wsV RL 82 RX9 yX9_has wsX9_has) := goodIn_app (goodIn_of _ (by decide +kernel)) ggL_law_X9_has
set_option maxRecDepth 20000 in
theorem gL_law_X10_has : GoodIn wsL_law (wsV RL 85 RX10 yX10_has wsX10_has) := goodIn_app (goodIn_of _ (by decide +kernel)) ggL_law_X10_has
set_option maxRecDepth 20000 in
theorem gL_law_X9_layerOf : GoodIn wsL_law (wsV RL 86 RX9 yX9_layerOf wsX9_layerOf) := goodIn_app (goodIn_of _ (by decide +kernel)) ggL_law_X9_layerOf
set_option maxRecDepth 20000 in
theorem gL_law_X10_layerOf : GoodIn wsL_law (wsV RL 89 RX10 yX10_layerOf wsX10_layerOf) := goodIn_app (goodIn_of _ (by decide +kernel)) ggL_law_X10_layerOf
set_option maxRecDepth 20000 in
theorem gL_law_X9_set : GoodIn wsL_law (wsV RL 90 RX9 yX9_set wsX9_set) := goodIn_app (goodIn_of _ (by decide +kernel)) ggL_law_X9_set
set_option maxRecDepth 20000 in
theorem gL_law_X10_set : GoodIn wsL_law (wsV RL 93 RX10 yX10_set wsX10_set) := goodIn_app (goodIn_of _ (by decide +kernel)) ggL_law_X10_set
set_option maxRecDepth 20000 in
theorem gL_law_X9_drop : GoodIn wsL_law (wsV RL 94 RX9 yX9_drop wsX9_drop) := goodIn_app (goodIn_of _ (by decide +kernel)) ggL_law_X9_drop
set_option maxRecDepth 20000 in
theorem gL_law_X10_drop : GoodIn wsL_law (wsV RL 97 RX10 yX10_drop wsX10_drop) := goodIn_app (goodIn_of _ (by decide +kernel)) ggL_law_X10_drop
set_option maxRecDepth 20000 in
theorem gL_law_X9_empty : GoodIn wsL_law (wsV RL 98 RX9 yX9_empty wsX9_empty) := goodIn_app (goodIn_of _ (by decide +kernel)) ggL_law_X9_empty
set_option maxRecDepth 20000 in
theorem gL_law_X10_empty : GoodIn wsL_law (wsV RL 101 RX10 yX10_empty wsX10_empty) := goodIn_app (goodIn_of _ (by decide +kernel)) ggL_law_X10_empty
set_option maxRecDepth 20000 in
theorem gL_law_X9_size : GoodIn wsL_law (wsV RL 102 RX9 yX9_size wsX9_size) := goodIn_app (goodIn_of _ (by decide +kernel)) ggL_law_X9_size
set_option maxRecDepth 20000 in
theorem gL_law_X10_size : GoodIn wsL_law (wsV RL 105 RX10 yX10_size wsX10_size) := goodIn_app (goodIn_of _ (by decide +kernel)) ggL_law_X10_size
set_option maxRecDepth 20000 in
theorem gL_law_X9_names : GoodIn wsL_law (wsV RL 106 RX9 yX9_names wsX9_names) := goodIn_app (goodIn_of _ (by decide +kernel)) ggL_law_X9_names
set_option maxRecDepth 20000 in
theorem gL_law_X10_names : GoodIn wsL_law (wsV RL 109 RX10 yX10_names wsX10_names) := goodIn_app (goodIn_of _ (by decide +kernel)) ggL_law_X10_names
set_option maxRecDepth 20000 in
theorem gL_law_X9_name : GoodIn wsL_law (wsV RL 110 RX9 yX9_name wsX9_name) := goodIn_app (goodIn_of _ (by decide +kernel)) ggL_law_X9_name
set_option maxRecDepth 20000 in
theorem gL_law_X10_name : GoodIn wsL_law (wsV RL 113 RX10 yX10_name wsX10_name) := goodIn_app (goodIn_of _ (by decide +kernel)) ggL_law_X10_name
set_option maxRecDepth 20000 in
theorem gL_law_X9_keyFrom : GoodIn wsL_law (wsV RL 114 RX9 yX9_keyFrom wsX9_keyFrom) := goodIn_app (goodIn_of _ (by decide +kernel)) ggL_law_X9_keyFrom
set_option maxRecDepth 20000 in
theorem gL_law_X10_keyFrom : GoodIn wsL_law (wsV RL 117 RX10 yX10_keyFrom wsX10_keyFrom) := goodIn_app (goodIn_of _ (by decide +kernel)) ggL_law_X10_keyFrom
set_option maxRecDepth 20000 in
theorem gL_law_X9_alike : GoodIn wsL_law (wsV RL 118 RX9 yX9_alike wsX9_alike) := goodIn_app (goodIn_of _ (by decide +kernel)) ggL_law_X9_alike
set_option maxRecDepth 20000 in
theorem gL_law_X10_alike : GoodIn wsL_law (wsV RL 121 RX10 yX10_alike wsX10_alike) := goodIn_app (goodIn_of _ (by decide +kernel)) ggL_law_X10_alike
set_option maxRecDepth 20000 in
theorem gL_law_X9_digest : GoodIn wsL_law (wsV RL 122 RX9 yX9_digest wsX9_digest) := goodIn_app (goodIn_of _ (by decide +kernel)) ggL_law_X9_digest
set_option maxRecDepth 20000 in
theorem gL_law_X10_digest : GoodIn wsL_law (wsV RL 125 RX10 yX10_digest wsX10_digest) := goodIn_app (goodIn_of _ (by decide +kernel)) ggL_law_X10_digest
set_option maxRecDepth 20000 in
theorem gL_law_X9_tokenize : GoodIn wsL_law (wsV RL 126 RX9 yX9_tokenize wsX9_tokenize) := goodIn_app (goodIn_of _ (by decide +kernel)) ggL_law_X9_tokenize
set_option maxRecDepth 20000 in
theorem gL_law_X10_tokenize : GoodIn wsL_law (wsV RL 129 RX10 yX10_tokenize wsX10_tokenize) := goodIn_app (goodIn_of _ (by decide +kernel)) ggL_law_X10_tokenize
set_option maxRecDepth 20000 in
theorem gL_law_X9_tokenizeBy : GoodIn wsL_law (wsV RL 130 RX9 yX9_tokenizeBy wsX9_tokenizeBy) := goodIn_app (goodIn_of _ (by decide +kernel)) ggL_law_X9_tokenizeBy
set_option maxRecDepth 20000 in
theorem gL_law_X10_tokenizeBy : GoodIn wsL_law (wsV RL 133 RX10 yX10_tokenizeBy wsX10_tokenizeBy) := goodIn_app (goodIn_of _ (by decide +kernel)) ggL_law_X10_tokenizeBy
set_option maxRecDepth 20000 in
theorem gL_law_X9_tokenizeAll : GoodIn wsL_law (wsV RL 134 RX9 yX9_tokenizeAll wsX9_tokenizeAll) := goodIn_app (goodIn_of _ (by decide +kernel)) ggL_law_X9_tokenizeAll
set_option maxRecDepth 20000 in
theorem gL_law_X10_tokenizeAll : GoodIn wsL_law (wsV RL 137 RX10 yX10_tokenizeAll wsX10_tokenizeAll) := goodIn_app (goodIn_of _ (by decide +kernel)) ggL_law_X10_tokenizeAll
set_option maxRecDepth 20000 in
theorem gL_law_X9_tokenizeValue : GoodIn wsL_law (wsV RL 138 RX9 yX9_tokenizeValue wsX9_tokenizeValue) := goodIn_app (goodIn_of _ (by decide +kernel)) ggL_law_X9_tokenizeValue
set_option maxRecDepth 20000 in
theorem gL_law_X10_tokenizeValue : GoodIn wsL_law (wsV RL 141 RX10 yX10_tokenizeValue wsX10_tokenizeValue) := goodIn_app (goodIn_of _ (by decide +kernel)) ggL_law_X10_tokenizeValue
set_option maxRecDepth 20000 in
theorem gL_law_X9_more : GoodIn wsL_law (wsV RL 142 RX9 yX9_more wsX9_more) := goodIn_app (goodIn_of _ (by decide +kernel)) ggL_law_X9_more
set_option maxRecDepth 20000 in
theorem gL_law_X10_more : GoodIn wsL_law (wsV RL 145 RX10 yX10_more wsX10_more) := goodIn_app (goodIn_of _ (by decide +kernel)) ggL_law_X10_more
set_option maxRecDepth 20000 in
theorem gL_law_X9_count : GoodIn wsL_law (wsV RL 146 RX9 yX9_count wsX9_count) := goodIn_app (goodIn_of _ (by decide +kernel)) ggL_law_X9_count
set_option maxRecDepth 20000 in
theorem gL_law_X10_count : GoodIn wsL_law (wsV RL 149 RX10 yX10_count wsX10_count) := goodIn_app (goodIn_of _ (by decide +kernel)) ggL_law_X10_count
set_option maxRecDepth 20000 in
theorem gL_law_X9_next : GoodIn wsL_law (wsV RL 150 RX9 yX9_next wsX9_next) := goodIn_app (goodIn_of _ (by decide +kernel)) ggL_law_X9_next
set_option maxRecDepth 20000 in
theorem gL_law_X10_next : GoodIn wsL_law (wsV RL 153 RX10 yX10_next wsX10_next) := goodIn_app (goodIn_of _ (by decide +kernel)) ggL_law_X10_next
set_option maxRecDepth 20000 in
theorem gL_law_X9_nextBy : GoodIn wsL_law (wsV RL 154 RX9 yX9_nextBy wsX9_nextBy) := goodIn_app (goodIn_of _ (by decide +kernel)) ggL_law_X9_nextBy
set_option maxRecDepth 20000 in
theorem gL_law_X10_nextBy : GoodIn wsL_law (wsV RL 157 RX10 yX10_nextBy wsX10_nextBy) := goodIn_app (goodIn_of _ (by decide +kernel)) ggL_law_X10_nextBy
set_option maxRecDepth 20000 in
theorem gL_law_X9_join : GoodIn wsL_law (wsV RL 158 RX9 yX9_join wsX9_join) := goodIn_app (goodIn_of _ (by decide +kernel)) ggL_law_X9_join
set_option maxRecDepth 20000 in
theorem gL_law_X10_join : GoodIn wsL_law (wsV RL 161 RX10 yX10_join wsX10_join) := goodIn_app (goodIn_of _ (by decide +kernel)) ggL_law_X10_join
set_option maxRecDepth 20000 in
theorem gL_law_X9_joinWithin : GoodIn wsL_law (wsV RL 162 RX9 yX9_joinWithin wsX9_joinWithin) := goodIn_app (goodIn_of _ (by decide +kernel)) ggL_law_X9_joinWithin
set_option maxRecDepth 20000 in
theorem gL_law_X10_joinWithin : GoodIn wsL_law (wsV RL 165 RX10 yX10_joinWithin wsX10_joinWithin) := goodIn_app (goodIn_of _ (by decide +kernel)) ggL_law_X10_joinWithin
set_option maxRecDepth 20000 in
theorem gL_law_X9_add : GoodIn wsL_law (wsV RL 166 RX9 yX9_add wsX9_add) := goodIn_app (goodIn_of _ (by decide +kernel)) ggL_law_X9_add
set_option maxRecDepth 20000 in
theorem gL_law_X10_add : GoodIn wsL_law (wsV RL 169 RX10 yX10_add wsX10_add) := goodIn_app (goodIn_of _ (by decide +kernel)) ggL_law_X10_add
set_option maxRecDepth 20000 in
theorem gL_law_X9_ifEmpty : GoodIn wsL_law (wsV RL 170 RX9 yX9_ifEmpty wsX9_ifEmpty) := goodIn_app (goodIn_of _ (by decide +kernel)) ggL_law_X9_ifEmpty
set_option maxRecDepth 20000 in
theorem gL_law_X10_ifEmpty : GoodIn wsL_law (wsV RL 173 RX10 yX10_ifEmpty wsX10_ifEmpty) := goodIn_app (goodIn_of _ (by decide +kernel)) ggL_law_X10_ifEmpty
set_option maxRecDepth 20000 in
theorem gL_law_X9_merge : GoodIn wsL_law (wsV RL 174 RX9 yX9_merge wsX9_merge) := goodIn_app (goodIn_of _ (by decide +kernel)) ggL_law_X9_merge
set_option maxRecDepth 20000 in
theorem gL_law_X10_merge : GoodIn wsL_law (wsV RL 177 RX10 yX10_merge wsX10_merge) := goodIn_app (goodIn_of _ (by decide +kernel)) ggL_law_X10_merge
set_option maxRecDepth 20000 in
theorem gL_law_X9_joined : GoodIn wsL_law (wsV RL 178 RX9 yX9_joined wsX9_joined) := goodIn_app (goodIn_of _ (by decide +kernel)) ggL_law_X9_joined
set_option maxRecDepth 20000 in
theorem gL_law_X10_joined : GoodIn wsL_law (wsV RL 181 RX10 yX10_joined wsX10_joined) := goodIn_app (goodIn_of _ (by decide +kernel)) ggL_law_X10_joined
set_option maxRecDepth 20000 in
theorem gL_law_X9_joinedLength : GoodIn wsL_law (wsV RL 182 RX9 yX9_joinedLength wsX9_joinedLength) := goodIn_app (goodIn_of _ (by decide +kernel)) ggL_law_X9_joinedLength
set_option maxRecDepth 20000 in
theorem gL_law_X10_joinedLength : GoodIn wsL_law (wsV RL 185 RX10 yX10_joinedLength wsX10_joinedLength) := goodIn_app (goodIn_of _ (by decide +kernel)) ggL_law_X10_joinedLength
set_option maxRecDepth 20000 in
theorem gL_law_X9_setJoined : GoodIn wsL_law (wsV RL 186 RX9 yX9_setJoined wsX9_setJoined) := goodIn_app (goodIn_of _ (by decide +kernel)) ggL_law_X9_setJoined
set_option maxRecDepth 20000 in
theorem gL_law_X10_setJoined : GoodIn wsL_law (wsV RL 189 RX10 yX10_setJoined wsX10_setJoined) := goodIn_app (goodIn_of _ (by decide +kernel)) ggL_law_X10_setJoined
set_option maxRecDepth 20000 in
theorem gL_law_X9_keep : GoodIn wsL_law (wsV RL 190 RX9 yX9_keep wsX9_keep) := goodIn_app (goodIn_of _ (by decide +kernel)) ggL_law_X9_keep
set_option maxRecDepth 20000 in
theorem gL_law_X10_keep : GoodIn wsL_law (wsV RL 193 RX10 yX10_keep wsX10_keep) := goodIn_app (goodIn_of _ (by decide +kernel)) ggL_law_X10_keep
set_option maxRecDepth 20000 in
theorem gL_law_X9_restore : GoodIn wsL_law (wsV RL 194 RX9 yX9_restore wsX9_restore) := goodIn_app (goodIn_of _ (by decide +kernel)) ggL_law_X9_restore
set_option maxRecDepth 20000 in
theorem gL_law_X10_restore : GoodIn wsL_law (wsV RL 197 RX10 yX10_restore wsX10_restore) := goodIn_app (goodIn_of _ (by decide +kernel)) ggL_law_X10_restore
set_option maxRecDepth 20000 in
theorem gL_law_X9_refusals : GoodIn wsL_law (wsV RL 198 RX9 yX9_refusals wsX9_refusals) := goodIn_app (goodIn_of _ (by decide +kernel)) ggL_law_X9_refusals
set_option maxRecDepth 20000 in
theorem gL_law_X10_refusals : GoodIn wsL_law (wsV RL 201 RX10 yX10_refusals wsX10_refusals) := goodIn_app (goodIn_of _ (by decide +kernel)) ggL_law_X10_refusals
