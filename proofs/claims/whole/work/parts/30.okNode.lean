/-! the tables of 30.okNode are the bytes', and the words are there: by program (wip/whole/ok.py) -/
theorem ok_Node_init : gOk m_Node_init := fun q hq => List.all_eq_true.mp (show (mT m_Node_init).all (gOkQ m_Node_init) = true by decide +kernel) q hq
theorem ok_Node_isFull : gOk m_Node_isFull := fun q hq => List.all_eq_true.mp (show (mT m_Node_isFull).all (gOkQ m_Node_isFull) = true by decide +kernel) q hq
theorem ok_Node_hasEntry : gOk m_Node_hasEntry := fun q hq => List.all_eq_true.mp (show (mT m_Node_hasEntry).all (gOkQ m_Node_hasEntry) = true by decide +kernel) q hq
theorem ok_Node_word : gOk m_Node_word := fun q hq => List.all_eq_true.mp (show (mT m_Node_word).all (gOkQ m_Node_word) = true by decide +kernel) q hq
theorem ok_Node_firstAt : gOk m_Node_firstAt := fun q hq => List.all_eq_true.mp (show (mT m_Node_firstAt).all (gOkQ m_Node_firstAt) = true by decide +kernel) q hq
theorem ok_Node_belowAt : gOk m_Node_belowAt := fun q hq => List.all_eq_true.mp (show (mT m_Node_belowAt).all (gOkQ m_Node_belowAt) = true by decide +kernel) q hq
theorem ok_Node_lengthAt : gOk m_Node_lengthAt := fun q hq => List.all_eq_true.mp (show (mT m_Node_lengthAt).all (gOkQ m_Node_lengthAt) = true by decide +kernel) q hq
theorem ok_Node_isWrittenAt : gOk m_Node_isWrittenAt := fun q hq => List.all_eq_true.mp (show (mT m_Node_isWrittenAt).all (gOkQ m_Node_isWrittenAt) = true by decide +kernel) q hq
theorem ok_Node_volumeAt : gOk m_Node_volumeAt := fun q hq => List.all_eq_true.mp (show (mT m_Node_volumeAt).all (gOkQ m_Node_volumeAt) = true by decide +kernel) q hq
theorem ok_Node_setFirst : gOk m_Node_setFirst := fun q hq => List.all_eq_true.mp (show (mT m_Node_setFirst).all (gOkQ m_Node_setFirst) = true by decide +kernel) q hq
theorem ok_Node_setEntry : gOk m_Node_setEntry := fun q hq => List.all_eq_true.mp (show (mT m_Node_setEntry).all (gOkQ m_Node_setEntry) = true by decide +kernel) q hq
theorem ok_Node_lastUpTo : gOk m_Node_lastUpTo := fun q hq => List.all_eq_true.mp (show (mT m_Node_lastUpTo).all (gOkQ m_Node_lastUpTo) = true by decide +kernel) q hq
theorem ok_Node_insert : gOk m_Node_insert := fun q hq => List.all_eq_true.mp (show (mT m_Node_insert).all (gOkQ m_Node_insert) = true by decide +kernel) q hq
theorem ok_Node_remove : gOk m_Node_remove := fun q hq => List.all_eq_true.mp (show (mT m_Node_remove).all (gOkQ m_Node_remove) = true by decide +kernel) q hq
theorem ok_Node_moveTail : gOk m_Node_moveTail := fun q hq => List.all_eq_true.mp (show (mT m_Node_moveTail).all (gOkQ m_Node_moveTail) = true by decide +kernel) q hq
theorem ok_Node_byteAt : gOk m_Node_byteAt := fun q hq => List.all_eq_true.mp (show (mT m_Node_byteAt).all (gOkQ m_Node_byteAt) = true by decide +kernel) q hq
theorem ok_Node_wordOfBytes : gOk m_Node_wordOfBytes := fun q hq => List.all_eq_true.mp (show (mT m_Node_wordOfBytes).all (gOkQ m_Node_wordOfBytes) = true by decide +kernel) q hq
