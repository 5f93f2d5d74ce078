def RJ0 : String := "java/lang/String"
def TJ0 : u_T := fun k => match k with
  | 0 => ("java/lang/String", "value", "[B", true)
  | 1 => ("java/lang/String", "coder", "B", true)
  | 2 => ("java/lang/String", "hash", "I", false)
  | _ => ("java/lang/String", "hashIsZero", "Z", false)
def RJ4 : String := "java/lang/StringBuilder"
def TJ4 : u_T := fun k => match k with
  | 0 => ("java/lang/AbstractStringBuilder", "value", "[B", false)
  | 1 => ("java/lang/AbstractStringBuilder", "coder", "B", false)
  | 2 => ("java/lang/AbstractStringBuilder", "maybeLatin1", "Z", false)
  | _ => ("java/lang/AbstractStringBuilder", "count", "I", false)
def RJx00060 : String := "java/lang/ArrayIndexOutOfBoundsException"
def TJx00060 : u_T := fun k => match k with
  | 0 => ("java/lang/Throwable", "cause", "Ljava/lang/Throwable;", false)
  | 1 => ("java/lang/Throwable", "stackTrace", "[Ljava/lang/StackTraceElement;", false)
  | 2 => ("java/lang/Throwable", "suppressedExceptions", "Ljava/util/List;", false)
  | 3 => ("java/lang/Throwable", "detailMessage", "Ljava/lang/String;", false)
  | 4 => ("java/lang/Throwable", "backtrace", "Ljava/lang/Object;", false)
  | _ => ("java/lang/Throwable", "depth", "I", false)
def RJx4a65c : String := "java/util/ArrayList"
def TJx4a65c : u_T := fun k => match k with
  | 0 => ("java/util/AbstractList", "modCount", "I", false)
  | 1 => ("java/util/ArrayList", "elementData", "[Ljava/lang/Object;", false)
  | _ => ("java/util/ArrayList", "size", "I", false)
def RX0 : String := "SqlStore$Changer"
def TX0 : u_T := fun k => match k with
  | 0 => ("SqlStore$Changer", "changeCount", "I", false)
  | 1 => ("SqlStore$Changer", "tree", "LSqlStore$Tree;", true)
  | 2 => ("SqlStore$Changer", "runner", "LSqlStore$Runner;", true)
  | 3 => ("SqlStore$Changer", "checker", "LSqlStore$Checker;", true)
  | 4 => ("SqlStore$Changer", "text", "[B", false)
  | 5 => ("SqlStore$Changer", "textAt", "I", false)
  | 6 => ("SqlStore$Changer", "numbers", "[I", true)
  | 7 => ("SqlStore$Changer", "listTables", "[I", true)
  | 8 => ("SqlStore$Changer", "listRows", "[I", true)
  | 9 => ("SqlStore$Changer", "listCount", "I", false)
  | 10 => ("SqlStore$Changer", "refColumn", "I", false)
  | 11 => ("SqlStore$Changer", "refRow", "I", false)
  | 12 => ("SqlStore$Changer", "old", "[LSqlStore$Value;", true)
  | 13 => ("SqlStore$Changer", "gone", "[LSqlStore$Value;", true)
  | 14 => ("SqlStore$Changer", "probe", "[B", true)
  | 15 => ("SqlStore$Changer", "key", "[B", true)
  | _ => ("SqlStore$Changer", "oldKey", "[B", true)
def RX1 : String := "SqlStore$Checker"
def TX1 : u_T := fun k => match k with
  | 0 => ("SqlStore$Checker", "definitions", "[LSqlStore$Definition;", true)
  | 1 => ("SqlStore$Checker", "definitionCount", "I", false)
  | 2 => ("SqlStore$Checker", "made", "LSqlStore$Definition;", true)
  | 3 => ("SqlStore$Checker", "texts", "[B", true)
  | 4 => ("SqlStore$Checker", "errorPlace", "I", false)
  | 5 => ("SqlStore$Checker", "textEnd", "I", false)
  | 6 => ("SqlStore$Checker", "error", "I", false)
  | 7 => ("SqlStore$Checker", "tree", "LSqlStore$Tree;", true)
  | 8 => ("SqlStore$Checker", "parser", "LSqlStore$Parser;", true)
  | 9 => ("SqlStore$Checker", "known", "[B", true)
  | 10 => ("SqlStore$Checker", "knownLength", "I", false)
  | 11 => ("SqlStore$Checker", "fresh", "[B", true)
  | 12 => ("SqlStore$Checker", "freshLength", "I", false)
  | 13 => ("SqlStore$Checker", "begun", "I", false)
  | 14 => ("SqlStore$Checker", "creating", "Z", false)
  | _ => ("SqlStore$Checker", "inRule", "Z", false)
def RX2 : String := "SqlStore$Definition"
def TX2 : u_T := fun k => match k with
  | 0 => ("SqlStore$Definition", "kind", "I", false)
  | 1 => ("SqlStore$Definition", "number", "I", false)
  | 2 => ("SqlStore$Definition", "name", "J", false)
  | 3 => ("SqlStore$Definition", "textAt", "I", false)
  | 4 => ("SqlStore$Definition", "textLength", "I", false)
  | 5 => ("SqlStore$Definition", "target", "J", false)
  | 6 => ("SqlStore$Definition", "columnCount", "I", false)
  | 7 => ("SqlStore$Definition", "columns", "[LSqlStore$Node;", true)
  | 8 => ("SqlStore$Definition", "names", "[J", true)
  | 9 => ("SqlStore$Definition", "types", "[I", true)
  | 10 => ("SqlStore$Definition", "rules", "LSqlStore$Node;", false)
  | 11 => ("SqlStore$Definition", "roots", "[I", true)
  | 12 => ("SqlStore$Definition", "rootCount", "I", false)
  | 13 => ("SqlStore$Definition", "indexCount", "I", false)
  | 14 => ("SqlStore$Definition", "ownCount", "I", false)
  | 15 => ("SqlStore$Definition", "indexRoots", "[I", true)
  | 16 => ("SqlStore$Definition", "indexUnique", "[Z", true)
  | 17 => ("SqlStore$Definition", "indexWidths", "[I", true)
  | 18 => ("SqlStore$Definition", "indexColumns", "[I", true)
  | 19 => ("SqlStore$Definition", "scope", "LSqlStore$Select;", true)
  | _ => ("SqlStore$Definition", "source", "LSqlStore$Source;", true)
def RX3 : String := "SqlStore$Log"
def TX3 : u_T := fun k => match k with
  | 0 => ("SqlStore$Log", "file", "[B", true)
  | 1 => ("SqlStore$Log", "bytes", "[B", true)
  | 2 => ("SqlStore$Log", "appended", "[B", true)
  | 3 => ("SqlStore$Log", "length", "I", false)
  | 4 => ("SqlStore$Log", "safe", "I", false)
  | 5 => ("SqlStore$Log", "used", "I", false)
  | 6 => ("SqlStore$Log", "isOpened", "Z", false)
  | 7 => ("SqlStore$Log", "writing", "I", false)
  | 8 => ("SqlStore$Log", "marks", "[I", true)
  | 9 => ("SqlStore$Log", "begun", "[Z", true)
  | 10 => ("SqlStore$Log", "kept", "[I", true)
  | 11 => ("SqlStore$Log", "keptNames", "[J", true)
  | 12 => ("SqlStore$Log", "keptPages", "[Z", true)
  | 13 => ("SqlStore$Log", "keptBytes", "[B", true)
  | 14 => ("SqlStore$Log", "own", "[B", true)
  | 15 => ("SqlStore$Log", "seen", "[B", true)
  | 16 => ("SqlStore$Log", "seenMark", "I", false)
  | _ => ("SqlStore$Log", "before", "[B", true)
def RX4 : String := "SqlStore$Node"
def TX4 : u_T := fun k => match k with
  | 0 => ("SqlStore$Node", "kind", "I", false)
  | 1 => ("SqlStore$Node", "place", "I", false)
  | 2 => ("SqlStore$Node", "start", "I", false)
  | 3 => ("SqlStore$Node", "height", "I", false)
  | 4 => ("SqlStore$Node", "type", "I", false)
  | 5 => ("SqlStore$Node", "flags", "I", false)
  | 6 => ("SqlStore$Node", "name", "J", false)
  | 7 => ("SqlStore$Node", "second", "J", false)
  | 8 => ("SqlStore$Node", "secondPlace", "I", false)
  | 9 => ("SqlStore$Node", "first", "LSqlStore$Node;", false)
  | 10 => ("SqlStore$Node", "next", "LSqlStore$Node;", false)
  | 11 => ("SqlStore$Node", "link", "LSqlStore$Node;", false)
  | 12 => ("SqlStore$Node", "select", "LSqlStore$Select;", false)
  | 13 => ("SqlStore$Node", "source", "LSqlStore$Source;", false)
  | 14 => ("SqlStore$Node", "column", "I", false)
  | 15 => ("SqlStore$Node", "group", "I", false)
  | _ => ("SqlStore$Node", "value", "LSqlStore$Value;", true)
def RX5 : String := "SqlStore$Parser"
def TX5 : u_T := fun k => match k with
  | 0 => ("SqlStore$Parser", "statement", "LSqlStore$Statement;", true)
  | 1 => ("SqlStore$Parser", "errorPlace", "I", false)
  | 2 => ("SqlStore$Parser", "text", "[B", true)
  | 3 => ("SqlStore$Parser", "length", "I", false)
  | 4 => ("SqlStore$Parser", "tokens", "[I", true)
  | 5 => ("SqlStore$Parser", "places", "[I", true)
  | 6 => ("SqlStore$Parser", "values", "[J", true)
  | 7 => ("SqlStore$Parser", "tokenCount", "I", false)
  | 8 => ("SqlStore$Parser", "token", "I", false)
  | 9 => ("SqlStore$Parser", "place", "I", false)
  | 10 => ("SqlStore$Parser", "value", "J", false)
  | 11 => ("SqlStore$Parser", "looked", "I", false)
  | 12 => ("SqlStore$Parser", "words", "[J", true)
  | 13 => ("SqlStore$Parser", "open", "I", false)
  | 14 => ("SqlStore$Parser", "tall", "I", false)
  | 15 => ("SqlStore$Parser", "core", "LSqlStore$Select;", false)
  | 16 => ("SqlStore$Parser", "inView", "Z", false)
  | 17 => ("SqlStore$Parser", "nodes", "Ljava/util/ArrayList;", true)
  | 18 => ("SqlStore$Parser", "selects", "Ljava/util/ArrayList;", true)
  | 19 => ("SqlStore$Parser", "sources", "Ljava/util/ArrayList;", true)
  | _ => ("SqlStore$Parser", "taken", "[I", true)
def RX6 : String := "SqlStore$Runner"
def TX6 : u_T := fun k => match k with
  | 0 => ("SqlStore$Runner", "stepCount", "I", false)
  | 1 => ("SqlStore$Runner", "stopCode", "I", false)
  | 2 => ("SqlStore$Runner", "tree", "LSqlStore$Tree;", true)
  | 3 => ("SqlStore$Runner", "bound", "[LSqlStore$Value;", true)
  | 4 => ("SqlStore$Runner", "firstBound", "I", false)
  | 5 => ("SqlStore$Runner", "cells", "Ljava/util/ArrayList;", true)
  | 6 => ("SqlStore$Runner", "top", "I", false)
  | 7 => ("SqlStore$Runner", "openRows", "[I", true)
  | 8 => ("SqlStore$Runner", "openTop", "I", false)
  | 9 => ("SqlStore$Runner", "none", "LSqlStore$Value;", true)
  | 10 => ("SqlStore$Runner", "record", "[B", true)
  | 11 => ("SqlStore$Runner", "low", "[B", true)
  | 12 => ("SqlStore$Runner", "lowLength", "I", false)
  | 13 => ("SqlStore$Runner", "high", "[B", true)
  | _ => ("SqlStore$Runner", "highLength", "I", false)
def RX7 : String := "SqlStore$Select"
def TX7 : u_T := fun k => match k with
  | 0 => ("SqlStore$Select", "place", "I", false)
  | 1 => ("SqlStore$Select", "next", "LSqlStore$Select;", false)
  | 2 => ("SqlStore$Select", "operator", "I", false)
  | 3 => ("SqlStore$Select", "distinct", "Z", false)
  | 4 => ("SqlStore$Select", "items", "LSqlStore$Node;", false)
  | 5 => ("SqlStore$Select", "sources", "LSqlStore$Source;", false)
  | 6 => ("SqlStore$Select", "where", "LSqlStore$Node;", false)
  | 7 => ("SqlStore$Select", "groups", "LSqlStore$Node;", false)
  | 8 => ("SqlStore$Select", "having", "LSqlStore$Node;", false)
  | 9 => ("SqlStore$Select", "aggregates", "LSqlStore$Node;", false)
  | 10 => ("SqlStore$Select", "tail", "LSqlStore$Node;", false)
  | 11 => ("SqlStore$Select", "outer", "LSqlStore$Select;", false)
  | 12 => ("SqlStore$Select", "level", "I", false)
  | 13 => ("SqlStore$Select", "part", "I", false)
  | 14 => ("SqlStore$Select", "columns", "I", false)
  | 15 => ("SqlStore$Select", "names", "[J", true)
  | 16 => ("SqlStore$Select", "types", "[I", true)
  | 17 => ("SqlStore$Select", "list", "[I", true)
  | 18 => ("SqlStore$Select", "count", "I", false)
  | 19 => ("SqlStore$Select", "groupList", "[I", true)
  | 20 => ("SqlStore$Select", "groupCount", "I", false)
  | _ => ("SqlStore$Select", "group", "I", false)
def RX8 : String := "SqlStore$Source"
def TX8 : u_T := fun k => match k with
  | 0 => ("SqlStore$Source", "name", "J", false)
  | 1 => ("SqlStore$Source", "place", "I", false)
  | 2 => ("SqlStore$Source", "called", "J", false)
  | 3 => ("SqlStore$Source", "calledPlace", "I", false)
  | 4 => ("SqlStore$Source", "join", "I", false)
  | 5 => ("SqlStore$Source", "on", "LSqlStore$Node;", false)
  | 6 => ("SqlStore$Source", "select", "LSqlStore$Select;", false)
  | 7 => ("SqlStore$Source", "table", "LSqlStore$Definition;", false)
  | 8 => ("SqlStore$Source", "owner", "LSqlStore$Select;", false)
  | 9 => ("SqlStore$Source", "position", "I", false)
  | 10 => ("SqlStore$Source", "seen", "Z", false)
  | 11 => ("SqlStore$Source", "next", "LSqlStore$Source;", false)
  | 12 => ("SqlStore$Source", "nextInText", "LSqlStore$Source;", false)
  | 13 => ("SqlStore$Source", "row", "[LSqlStore$Value;", true)
  | 14 => ("SqlStore$Source", "index", "I", false)
  | 15 => ("SqlStore$Source", "worth", "I", false)
  | 16 => ("SqlStore$Source", "equalParts", "[LSqlStore$Node;", true)
  | 17 => ("SqlStore$Source", "equalCount", "I", false)
  | 18 => ("SqlStore$Source", "lower", "LSqlStore$Node;", false)
  | _ => ("SqlStore$Source", "upper", "LSqlStore$Node;", false)
def RX9 : String := "SqlStore$Statement"
def TX9 : u_T := fun k => match k with
  | 0 => ("SqlStore$Statement", "kind", "I", false)
  | 1 => ("SqlStore$Statement", "mode", "I", false)
  | 2 => ("SqlStore$Statement", "name", "J", false)
  | 3 => ("SqlStore$Statement", "namePlace", "I", false)
  | 4 => ("SqlStore$Statement", "target", "J", false)
  | 5 => ("SqlStore$Statement", "targetPlace", "I", false)
  | 6 => ("SqlStore$Statement", "list", "LSqlStore$Node;", false)
  | 7 => ("SqlStore$Statement", "more", "LSqlStore$Node;", false)
  | 8 => ("SqlStore$Statement", "query", "LSqlStore$Select;", false)
  | 9 => ("SqlStore$Statement", "scope", "LSqlStore$Select;", false)
  | 10 => ("SqlStore$Statement", "parameters", "I", false)
  | 11 => ("SqlStore$Statement", "textParameters", "I", false)
  | 12 => ("SqlStore$Statement", "begin", "I", false)
  | 13 => ("SqlStore$Statement", "end", "I", false)
  | 14 => ("SqlStore$Statement", "sources", "LSqlStore$Source;", false)
  | _ => ("SqlStore$Statement", "lastSource", "LSqlStore$Source;", false)
def RX10 : String := "SqlStore$Tree"
def TX10 : u_T := fun k => match k with
  | 0 => ("SqlStore$Tree", "image", "[B", false)
  | 1 => ("SqlStore$Tree", "cell", "I", false)
  | 2 => ("SqlStore$Tree", "found", "[I", true)
  | 3 => ("SqlStore$Tree", "path", "[I", true)
  | 4 => ("SqlStore$Tree", "slots", "[I", true)
  | 5 => ("SqlStore$Tree", "depth", "I", false)
  | 6 => ("SqlStore$Tree", "spot", "I", false)
  | 7 => ("SqlStore$Tree", "joined", "[B", true)
  | 8 => ("SqlStore$Tree", "fresh", "[B", true)
  | 9 => ("SqlStore$Tree", "freshLength", "I", false)
  | _ => ("SqlStore$Tree", "pending", "[I", true)
def RX11 : String := "SqlStore$Value"
def TX11 : u_T := fun k => match k with
  | 0 => ("SqlStore$Value", "kind", "I", false)
  | 1 => ("SqlStore$Value", "number", "J", false)
  | 2 => ("SqlStore$Value", "length", "I", false)
  | 3 => ("SqlStore$Value", "link", "I", false)
  | _ => ("SqlStore$Value", "text", "[B", false)
def RX12 : String := "SqlStore"
def TX12 : u_T := fun k => match k with
  | 0 => ("SqlStore", "tape", "[B", true)
  | 1 => ("SqlStore", "tapeLength", "I", false)
  | 2 => ("SqlStore", "slotTexts", "[B", true)
  | 3 => ("SqlStore", "slotLengths", "[I", true)
  | 4 => ("SqlStore", "slotParameters", "[I", true)
  | 5 => ("SqlStore", "slotTextParameters", "[I", true)
  | 6 => ("SqlStore", "bound", "[LSqlStore$Value;", true)
  | 7 => ("SqlStore", "prepareError", "I", false)
  | 8 => ("SqlStore", "inUse", "I", false)
  | 9 => ("SqlStore", "lastCode", "I", false)
  | 10 => ("SqlStore", "rowCount", "I", false)
  | 11 => ("SqlStore", "columnCount", "I", false)
  | 12 => ("SqlStore", "changeCount", "I", false)
  | 13 => ("SqlStore", "stepCount", "I", false)
  | 14 => ("SqlStore", "told", "[LSqlStore$Value;", true)
  | 15 => ("SqlStore", "log", "LSqlStore$Log;", true)
  | 16 => ("SqlStore", "tree", "LSqlStore$Tree;", true)
  | 17 => ("SqlStore", "parser", "LSqlStore$Parser;", true)
  | 18 => ("SqlStore", "reader", "LSqlStore$Parser;", true)
  | 19 => ("SqlStore", "checker", "LSqlStore$Checker;", true)
  | 20 => ("SqlStore", "runner", "LSqlStore$Runner;", true)
  | _ => ("SqlStore", "changer", "LSqlStore$Changer;", true)
def RX13 : String := "SqlStoreModel$Stop"
def TX13 : u_T := fun k => match k with
  | 0 => ("java/lang/Throwable", "cause", "Ljava/lang/Throwable;", false)
  | 1 => ("java/lang/Throwable", "stackTrace", "[Ljava/lang/StackTraceElement;", false)
  | 2 => ("java/lang/Throwable", "suppressedExceptions", "Ljava/util/List;", false)
  | 3 => ("java/lang/Throwable", "detailMessage", "Ljava/lang/String;", false)
  | 4 => ("java/lang/Throwable", "backtrace", "Ljava/lang/Object;", false)
  | _ => ("java/lang/Throwable", "depth", "I", false)
def RX14 : String := "SqlStoreModel"
def TX14 : u_T := fun k => match k with
  | 0 => ("SqlStoreModel", "thrown", "I", false)
  | 1 => ("SqlStoreModel", "wrong", "I", false)
  | 2 => ("SqlStoreModel", "wrongAt", "I", false)
  | 3 => ("SqlStoreModel", "tape", "[B", true)
  | 4 => ("SqlStoreModel", "size", "I", false)
  | 5 => ("SqlStoreModel", "errorAt", "I", false)
  | 6 => ("SqlStoreModel", "isFilled", "[Z", true)
  | 7 => ("SqlStoreModel", "slotText", "[B", true)
  | 8 => ("SqlStoreModel", "slotSize", "[I", true)
  | 9 => ("SqlStoreModel", "slotMany", "[I", true)
  | 10 => ("SqlStoreModel", "slotIsText", "[Z", true)
  | 11 => ("SqlStoreModel", "slotKind", "[I", true)
  | 12 => ("SqlStoreModel", "slotNumber", "[J", true)
  | 13 => ("SqlStoreModel", "slotLetters", "[B", true)
  | 14 => ("SqlStoreModel", "words", "[J", true)
  | 15 => ("SqlStoreModel", "source", "[B", false)
  | 16 => ("SqlStoreModel", "from", "I", false)
  | 17 => ("SqlStoreModel", "end", "I", false)
  | 18 => ("SqlStoreModel", "pos", "I", false)
  | 19 => ("SqlStoreModel", "tokenFrom", "I", false)
  | 20 => ("SqlStoreModel", "lastEnd", "I", false)
  | 21 => ("SqlStoreModel", "token", "I", false)
  | 22 => ("SqlStoreModel", "tokenNumber", "J", false)
  | 23 => ("SqlStoreModel", "opened", "I", false)
  | 24 => ("SqlStoreModel", "coreRead", "I", false)
  | 25 => ("SqlStoreModel", "tooTall", "I", false)
  | 26 => ("SqlStoreModel", "parameters", "I", false)
  | 27 => ("SqlStoreModel", "isText", "[Z", true)
  | 28 => ("SqlStoreModel", "nodes", "I", false)
  | 29 => ("SqlStoreModel", "op", "[I", false)
  | 30 => ("SqlStoreModel", "at", "[I", false)
  | 31 => ("SqlStoreModel", "one", "[I", false)
  | 32 => ("SqlStoreModel", "two", "[I", false)
  | 33 => ("SqlStoreModel", "three", "[I", false)
  | 34 => ("SqlStoreModel", "four", "[I", false)
  | 35 => ("SqlStoreModel", "next", "[I", false)
  | 36 => ("SqlStoreModel", "tall", "[I", false)
  | 37 => ("SqlStoreModel", "number", "[J", false)
  | 38 => ("SqlStoreModel", "other", "[J", false)
  | 39 => ("SqlStoreModel", "cores", "I", false)
  | 40 => ("SqlStoreModel", "core", "[[I", true)
  | 41 => ("SqlStoreModel", "asks", "I", false)
  | 42 => ("SqlStoreModel", "ask", "[[I", true)
  | 43 => ("SqlStoreModel", "froms", "I", false)
  | 44 => ("SqlStoreModel", "src", "[[I", true)
  | 45 => ("SqlStoreModel", "tableOf", "[J", false)
  | 46 => ("SqlStoreModel", "calledAs", "[J", false)
  | 47 => ("SqlStoreModel", "lookKind", "[I", false)
  | 48 => ("SqlStoreModel", "lookNumber", "[J", false)
  | 49 => ("SqlStoreModel", "kind", "I", false)
  | 50 => ("SqlStoreModel", "name", "J", false)
  | 51 => ("SqlStoreModel", "nameAt", "I", false)
  | 52 => ("SqlStoreModel", "mode", "I", false)
  | 53 => ("SqlStoreModel", "firstName", "I", false)
  | 54 => ("SqlStoreModel", "manyNames", "I", false)
  | 55 => ("SqlStoreModel", "firstRow", "I", false)
  | 56 => ("SqlStoreModel", "asked", "I", false)
  | 57 => ("SqlStoreModel", "target", "I", false)
  | 58 => ("SqlStoreModel", "test", "I", false)
  | 59 => ("SqlStoreModel", "testAt", "I", false)
  | 60 => ("SqlStoreModel", "ownSources", "I", false)
  | 61 => ("SqlStoreModel", "things", "I", false)
  | 62 => ("SqlStoreModel", "texts", "[B", true)
  | 63 => ("SqlStoreModel", "thingNumber", "[I", true)
  | 64 => ("SqlStoreModel", "thingKind", "[I", true)
  | 65 => ("SqlStoreModel", "thingName", "[J", true)
  | 66 => ("SqlStoreModel", "thingAt", "[I", true)
  | 67 => ("SqlStoreModel", "thingRoots", "[I", true)
  | 68 => ("SqlStoreModel", "manyRoots", "[I", true)
  | 69 => ("SqlStoreModel", "textFrom", "[I", true)
  | 70 => ("SqlStoreModel", "textSize", "[I", true)
  | 71 => ("SqlStoreModel", "columns", "[I", true)
  | 72 => ("SqlStoreModel", "columnName", "[J", false)
  | 73 => ("SqlStoreModel", "columnType", "[I", false)
  | 74 => ("SqlStoreModel", "columnAt", "[I", true)
  | 75 => ("SqlStoreModel", "isNeeded", "[Z", true)
  | 76 => ("SqlStoreModel", "isAlone", "[Z", true)
  | 77 => ("SqlStoreModel", "defaultAt", "[I", true)
  | 78 => ("SqlStoreModel", "defaultKind", "[I", true)
  | 79 => ("SqlStoreModel", "defaultNumber", "[J", true)
  | 80 => ("SqlStoreModel", "toTable", "[J", true)
  | 81 => ("SqlStoreModel", "toTableAt", "[I", true)
  | 82 => ("SqlStoreModel", "toColumn", "[J", true)
  | 83 => ("SqlStoreModel", "toColumnAt", "[I", true)
  | 84 => ("SqlStoreModel", "onDelete", "[I", true)
  | 85 => ("SqlStoreModel", "rules", "[I", true)
  | 86 => ("SqlStoreModel", "ruleAt", "[I", true)
  | 87 => ("SqlStoreModel", "ruleTest", "[I", true)
  | 88 => ("SqlStoreModel", "ruleMany", "[I", true)
  | 89 => ("SqlStoreModel", "ruleName", "[J", true)
  | 90 => ("SqlStoreModel", "ruleNameAt", "[I", true)
  | 91 => ("SqlStoreModel", "ownSource", "[I", true)
  | 92 => ("SqlStoreModel", "onTable", "[J", true)
  | 93 => ("SqlStoreModel", "onTableAt", "[I", true)
  | 94 => ("SqlStoreModel", "isUnique", "[Z", true)
  | 95 => ("SqlStoreModel", "indexMany", "[I", true)
  | 96 => ("SqlStoreModel", "indexName", "[J", true)
  | 97 => ("SqlStoreModel", "indexNameAt", "[I", true)
  | 98 => ("SqlStoreModel", "indices", "[I", true)
  | 99 => ("SqlStoreModel", "root", "[I", true)
  | 100 => ("SqlStoreModel", "width", "[I", true)
  | 101 => ("SqlStoreModel", "isSingle", "[Z", true)
  | 102 => ("SqlStoreModel", "indexColumn", "[I", true)
  | 103 => ("SqlStoreModel", "tableFirst", "[I", true)
  | 104 => ("SqlStoreModel", "tableRows", "[I", true)
  | 105 => ("SqlStoreModel", "scope", "I", false)
  | 106 => ("SqlStoreModel", "scopeBase", "I", false)
  | 107 => ("SqlStoreModel", "level", "I", false)
  | 108 => ("SqlStoreModel", "begun", "I", false)
  | 109 => ("SqlStoreModel", "isMade", "Z", false)
  | 110 => ("SqlStoreModel", "isInRule", "Z", false)
  | 111 => ("SqlStoreModel", "placeCore", "[I", true)
  | 112 => ("SqlStoreModel", "placeFirst", "[I", true)
  | 113 => ("SqlStoreModel", "placeLast", "[I", true)
  | 114 => ("SqlStoreModel", "placeItems", "[I", true)
  | 115 => ("SqlStoreModel", "placeSums", "[I", true)
  | 116 => ("SqlStoreModel", "top", "I", false)
  | 117 => ("SqlStoreModel", "kinds", "[B", false)
  | 118 => ("SqlStoreModel", "values", "[J", false)
  | 119 => ("SqlStoreModel", "link", "[I", false)
  | 120 => ("SqlStoreModel", "lettersTop", "I", false)
  | 121 => ("SqlStoreModel", "letters", "[B", false)
  | 122 => ("SqlStoreModel", "was", "I", false)
  | 123 => ("SqlStoreModel", "its", "J", false)
  | 124 => ("SqlStoreModel", "got", "I", false)
  | 125 => ("SqlStoreModel", "boundKind", "[I", true)
  | 126 => ("SqlStoreModel", "boundNumber", "[J", true)
  | 127 => ("SqlStoreModel", "parts", "[I", true)
  | 128 => ("SqlStoreModel", "manyParts", "I", false)
  | 129 => ("SqlStoreModel", "now", "[B", false)
  | 130 => ("SqlStoreModel", "leaf", "[I", true)
  | 131 => ("SqlStoreModel", "stack", "[I", true)
  | 132 => ("SqlStoreModel", "path", "[I", true)
  | 133 => ("SqlStoreModel", "deep", "I", false)
  | 134 => ("SqlStoreModel", "cell", "[B", true)
  | 135 => ("SqlStoreModel", "cellSize", "I", false)
  | 136 => ("SqlStoreModel", "wide", "[B", true)
  | 137 => ("SqlStoreModel", "record", "[B", true)
  | 138 => ("SqlStoreModel", "oldRecord", "[B", true)
  | 139 => ("SqlStoreModel", "key", "[B", true)
  | 140 => ("SqlStoreModel", "oldKey", "[B", true)
  | 141 => ("SqlStoreModel", "needle", "[B", true)
  | 142 => ("SqlStoreModel", "listed", "I", false)
  | 143 => ("SqlStoreModel", "listTable", "[I", true)
  | 144 => ("SqlStoreModel", "listRow", "[I", true)
  | 145 => ("SqlStoreModel", "listValues", "[I", true)
  | 146 => ("SqlStoreModel", "found", "[I", true)
  | 147 => ("SqlStoreModel", "isOpen", "Z", false)
  | 148 => ("SqlStoreModel", "client", "I", false)
  | 149 => ("SqlStoreModel", "writer", "I", false)
  | 150 => ("SqlStoreModel", "isBegun", "[Z", true)
  | 151 => ("SqlStoreModel", "mark", "[I", true)
  | 152 => ("SqlStoreModel", "view", "[[B", true)
  | 153 => ("SqlStoreModel", "saves", "[I", true)
  | 154 => ("SqlStoreModel", "saveName", "[J", true)
  | 155 => ("SqlStoreModel", "isClean", "[Z", true)
  | 156 => ("SqlStoreModel", "saved", "[[B", true)
  | 157 => ("SqlStoreModel", "file", "[B", true)
  | 158 => ("SqlStoreModel", "newest", "[B", true)
  | 159 => ("SqlStoreModel", "spare", "[B", true)
  | 160 => ("SqlStoreModel", "log", "[B", true)
  | 161 => ("SqlStoreModel", "appended", "[B", true)
  | 162 => ("SqlStoreModel", "logSize", "I", false)
  | 163 => ("SqlStoreModel", "\x75nsafe", "I", false)
  | 164 => ("SqlStoreModel", "usedUp", "I", false)
  | 165 => ("SqlStoreModel", "code", "I", false)
  | 166 => ("SqlStoreModel", "rowsTold", "I", false)
  | 167 => ("SqlStoreModel", "columnsTold", "I", false)
  | 168 => ("SqlStoreModel", "changes", "I", false)
  | 169 => ("SqlStoreModel", "steps", "I", false)
  | 170 => ("SqlStoreModel", "toldKind", "[I", true)
  | 171 => ("SqlStoreModel", "toldNumber", "[J", true)
  | _ => ("SqlStoreModel", "toldLetters", "[B", true)
abbrev vwCl : List vw_C := [(RJ0, TJ0, 2), (RJ4, TJ4, 0), (RJx00060, TJx00060, 0), (RJx4a65c, TJx4a65c, 3), (RX0, TX0, 17), (RX1, TX1, 16), (RX2, TX2, 21), (RX3, TX3, 18), (RX4, TX4, 17), (RX5, TX5, 21), (RX6, TX6, 15), (RX7, TX7, 22), (RX8, TX8, 20), (RX9, TX9, 16), (RX10, TX10, 11), (RX11, TX11, 5), (RX12, TX12, 22), (RX13, TX13, 0), (RX14, TX14, 173)]
def re_tbl : List Cond := lw_tbl.filter goodWord
def re_ws (w : Cond) : List Cond := w :: re_tbl
theorem re_of {w : Cond} {L : List Cond} (hL : ∀ w ∈ L, w ∈ lw_tbl) (i : Nat) (h : L[i]? = some w) (g : goodWord w = true) : w ∈ re_tbl := List.mem_filter.mpr ⟨hL _ (List.mem_of_getElem? h), g⟩
theorem re_os {q : MethodName × Nat} {L : List (MethodName × Nat)} (hL : ∀ q ∈ L, q ∈ lw_privs) (i : Nat) (h : L[i]? = some q) : Cond.selects q.1.cls q.1 q.1 ∈ re_tbl := List.mem_filter.mpr ⟨List.mem_append_left _ (List.mem_map.mpr ⟨q, hL _ (List.mem_of_getElem? h), rfl⟩), rfl⟩
def re_sub : List Cond → List Cond → Bool
  | [], _ => true
  | _ :: _, [] => false
  | w :: ws, x :: L => if w = x then re_sub ws L else re_sub (w :: ws) L
theorem re_sub_in : ∀ (L ws : List Cond), re_sub ws L = true → ∀ w ∈ ws, w ∈ L
  | _, [], _, w, h => nomatch h
  | [], w :: ws, h, _, _ => by simp [re_sub] at h
  | x :: L, w :: ws, h, v, hv => by
    unfold re_sub at h
    split at h
    · next e => exact (List.mem_cons.mp hv).elim (fun q => by rw [q, e]; exact List.mem_cons_self) (fun q => List.mem_cons_of_mem _ (re_sub_in L ws h v q))
    · exact List.mem_cons_of_mem _ (re_sub_in L (w :: ws) h v hv)
theorem re_bs {ws L : List Cond} (hL : ∀ w ∈ L, w ∈ lw_tbl) (h : re_sub ws L = true) (g : ws.all goodWord = true) : ∀ w ∈ ws, w ∈ re_tbl := fun w hw => List.mem_filter.mpr ⟨hL _ (re_sub_in L ws h w hw), List.all_eq_true.mp g w hw⟩
theorem re_lw {w : Cond} (h : w ∈ re_tbl) : w ∈ lw_tbl := (List.mem_filter.mp h).1
theorem re_hts {w : Cond} (h : w ∈ re_tbl) {x : Cond} {args : Array Value} {s : State} (hts : ∀ w ∈ re_ws x, w.before args s = true) : w.before args s = true := hts w (List.mem_cons_of_mem _ h)
theorem re_gg {x : Cond} {ws : List Cond} (h : ∀ w ∈ ws, w ∈ re_tbl) : GoodIn (re_ws x) ws := fun w hw => ⟨List.mem_cons_of_mem _ (h w hw), good_of_word (List.mem_filter.mp (h w hw)).2⟩
theorem re_gl {ws : List Cond} (h : ∀ w ∈ ws, w ∈ re_tbl) : GoodIn lw_tbl ws := fun w hw => ⟨(List.mem_filter.mp (h w hw)).1, good_of_word (List.mem_filter.mp (h w hw)).2⟩
theorem re_c {x : Cond} (h : x ∈ re_tbl) : ∀ w ∈ re_ws x, w ∈ re_tbl := fun w hw => (List.mem_cons.mp hw).elim (fun e => e ▸ h) id
theorem re_a {w : Cond} {ws : List Cond} (h : w ∈ re_tbl) (hs : ∀ w ∈ ws, w ∈ re_tbl) : ∀ w' ∈ w :: ws, w' ∈ re_tbl := fun w' hw => (List.mem_cons.mp hw).elim (fun e => e ▸ h) (hs w')
theorem re_by {ws : List Cond} (is : List Nat) (h : ws.length = is.length ∧ (ws.zip is).all (fun q => decide (lw_tbl[q.2]? = some q.1) && goodWord q.1) = true) : ∀ w ∈ ws, w ∈ re_tbl := by
  intro w hw
  obtain ⟨k, hk, rfl⟩ := List.mem_iff_getElem.mp hw
  have hz : (ws[k], is[k]'(h.1 ▸ hk)) ∈ ws.zip is := List.mem_iff_getElem.mpr ⟨k, by rw [List.length_zip, ← h.1, Nat.min_self]; exact hk, List.getElem_zip⟩
  have := List.all_eq_true.mp h.2 _ hz
  simp only [Bool.and_eq_true, decide_eq_true_eq] at this
  exact List.mem_filter.mpr ⟨List.mem_of_getElem? this.1, this.2⟩
/-- the top of the stack under another name of the same number -/
theorem re_ti {p : Program} {l : Launch} {e : Env} {R : Room} {s : State} {m : MethodId} {args : Array Value} {below : List Frame} {meth : Method} {c : Code} {H : Heap} {locs : List Loc} {cells slots : Nat} {Q : State → Prop} {pc : Nat} {ls : Array Slot} {rest : List Value} {x : Int32} (y : Int32) (h : x = y) (k : W p l e R s m args below meth c H locs cells slots Q (F0 m pc ls (.int y :: rest))) : W p l e R s m args below meth c H locs cells slots Q (F0 m pc ls (.int x :: rest)) := h ▸ k
theorem re_tl {p : Program} {l : Launch} {e : Env} {R : Room} {s : State} {m : MethodId} {args : Array Value} {below : List Frame} {meth : Method} {c : Code} {H : Heap} {locs : List Loc} {cells slots : Nat} {Q : State → Prop} {pc : Nat} {ls : Array Slot} {rest : List Value} {x : Int64} (y : Int64) (h : x = y) (k : W p l e R s m args below meth c H locs cells slots Q (F0 m pc ls (.long y :: rest))) : W p l e R s m args below meth c H locs cells slots Q (F0 m pc ls (.long x :: rest)) := h ▸ k
theorem re_t1 : ∀ w ∈ tables_1_1, w ∈ lw_tbl := fun _ h => List.mem_append_right _ (List.mem_append_left _ h)
theorem re_t2 : ∀ w ∈ tables_1_2, w ∈ lw_tbl := fun _ h => List.mem_append_right _ (List.mem_append_right _ (List.mem_append_left _ h))
theorem re_t3 : ∀ w ∈ tables_1_3, w ∈ lw_tbl := fun _ h => List.mem_append_right _ (List.mem_append_right _ (List.mem_append_right _ (List.mem_append_left _ h)))
theorem re_t4 : ∀ w ∈ tables_1_4, w ∈ lw_tbl := fun _ h => List.mem_append_right _ (List.mem_append_right _ (List.mem_append_right _ (List.mem_append_right _ (List.mem_append_left _ h))))
theorem re_t5 : ∀ w ∈ tables_1_5, w ∈ lw_tbl := fun _ h => List.mem_append_right _ (List.mem_append_right _ (List.mem_append_right _ (List.mem_append_right _ (List.mem_append_right _ (List.mem_append_left _ h)))))
theorem re_t6 : ∀ w ∈ tables_1_6, w ∈ lw_tbl := fun _ h => List.mem_append_right _ (List.mem_append_right _ (List.mem_append_right _ (List.mem_append_right _ (List.mem_append_right _ (List.mem_append_right _ (List.mem_append_left _ h))))))
theorem re_t7 : ∀ w ∈ tables_1_7, w ∈ lw_tbl := fun _ h => List.mem_append_right _ (List.mem_append_right _ (List.mem_append_right _ (List.mem_append_right _ (List.mem_append_right _ (List.mem_append_right _ (List.mem_append_right _ (List.mem_append_left _ h)))))))
theorem re_t8 : ∀ w ∈ tables_1_8, w ∈ lw_tbl := fun _ h => List.mem_append_right _ (List.mem_append_right _ (List.mem_append_right _ (List.mem_append_right _ (List.mem_append_right _ (List.mem_append_right _ (List.mem_append_right _ (List.mem_append_right _ (List.mem_append_left _ h))))))))
theorem re_t9 : ∀ w ∈ tables_1_9, w ∈ lw_tbl := fun _ h => List.mem_append_right _ (List.mem_append_right _ (List.mem_append_right _ (List.mem_append_right _ (List.mem_append_right _ (List.mem_append_right _ (List.mem_append_right _ (List.mem_append_right _ (List.mem_append_right _ (List.mem_append_left _ h)))))))))
theorem re_t10 : ∀ w ∈ tables_1_10, w ∈ lw_tbl := fun _ h => List.mem_append_right _ (List.mem_append_right _ (List.mem_append_right _ (List.mem_append_right _ (List.mem_append_right _ (List.mem_append_right _ (List.mem_append_right _ (List.mem_append_right _ (List.mem_append_right _ (List.mem_append_right _ (List.mem_append_left _ h))))))))))
theorem re_t11 : ∀ w ∈ tables_1_11, w ∈ lw_tbl := fun _ h => List.mem_append_right _ (List.mem_append_right _ (List.mem_append_right _ (List.mem_append_right _ (List.mem_append_right _ (List.mem_append_right _ (List.mem_append_right _ (List.mem_append_right _ (List.mem_append_right _ (List.mem_append_right _ (List.mem_append_right _ (List.mem_append_left _ h)))))))))))
theorem re_t12 : ∀ w ∈ tables_1_12, w ∈ lw_tbl := fun _ h => List.mem_append_right _ (List.mem_append_right _ (List.mem_append_right _ (List.mem_append_right _ (List.mem_append_right _ (List.mem_append_right _ (List.mem_append_right _ (List.mem_append_right _ (List.mem_append_right _ (List.mem_append_right _ (List.mem_append_right _ (List.mem_append_right _ (List.mem_append_left _ h))))))))))))
theorem re_t13 : ∀ w ∈ tables_1_13, w ∈ lw_tbl := fun _ h => List.mem_append_right _ (List.mem_append_right _ (List.mem_append_right _ (List.mem_append_right _ (List.mem_append_right _ (List.mem_append_right _ (List.mem_append_right _ (List.mem_append_right _ (List.mem_append_right _ (List.mem_append_right _ (List.mem_append_right _ (List.mem_append_right _ (List.mem_append_right _ (List.mem_append_left _ h)))))))))))))
theorem re_t14 : ∀ w ∈ tables_1_14, w ∈ lw_tbl := fun _ h => List.mem_append_right _ (List.mem_append_right _ (List.mem_append_right _ (List.mem_append_right _ (List.mem_append_right _ (List.mem_append_right _ (List.mem_append_right _ (List.mem_append_right _ (List.mem_append_right _ (List.mem_append_right _ (List.mem_append_right _ (List.mem_append_right _ (List.mem_append_right _ (List.mem_append_right _ (List.mem_append_left _ h))))))))))))))
theorem re_t15 : ∀ w ∈ tables_1_15, w ∈ lw_tbl := fun _ h => List.mem_append_right _ (List.mem_append_right _ (List.mem_append_right _ (List.mem_append_right _ (List.mem_append_right _ (List.mem_append_right _ (List.mem_append_right _ (List.mem_append_right _ (List.mem_append_right _ (List.mem_append_right _ (List.mem_append_right _ (List.mem_append_right _ (List.mem_append_right _ (List.mem_append_right _ (List.mem_append_right _ (List.mem_append_left _ h)))))))))))))))
theorem re_t16 : ∀ w ∈ tables_1_16, w ∈ lw_tbl := fun _ h => List.mem_append_right _ (List.mem_append_right _ (List.mem_append_right _ (List.mem_append_right _ (List.mem_append_right _ (List.mem_append_right _ (List.mem_append_right _ (List.mem_append_right _ (List.mem_append_right _ (List.mem_append_right _ (List.mem_append_right _ (List.mem_append_right _ (List.mem_append_right _ (List.mem_append_right _ (List.mem_append_right _ (List.mem_append_right _ (List.mem_append_left _ h))))))))))))))))
theorem re_t17 : ∀ w ∈ tables_1_17, w ∈ lw_tbl := fun _ h => List.mem_append_right _ (List.mem_append_right _ (List.mem_append_right _ (List.mem_append_right _ (List.mem_append_right _ (List.mem_append_right _ (List.mem_append_right _ (List.mem_append_right _ (List.mem_append_right _ (List.mem_append_right _ (List.mem_append_right _ (List.mem_append_right _ (List.mem_append_right _ (List.mem_append_right _ (List.mem_append_right _ (List.mem_append_right _ (List.mem_append_right _ (List.mem_append_left _ h)))))))))))))))))
theorem re_t18 : ∀ w ∈ tables_1_18, w ∈ lw_tbl := fun _ h => List.mem_append_right _ (List.mem_append_right _ (List.mem_append_right _ (List.mem_append_right _ (List.mem_append_right _ (List.mem_append_right _ (List.mem_append_right _ (List.mem_append_right _ (List.mem_append_right _ (List.mem_append_right _ (List.mem_append_right _ (List.mem_append_right _ (List.mem_append_right _ (List.mem_append_right _ (List.mem_append_right _ (List.mem_append_right _ (List.mem_append_right _ (List.mem_append_right _ (List.mem_append_left _ h))))))))))))))))))
theorem re_t19 : ∀ w ∈ tables_1_19, w ∈ lw_tbl := fun _ h => List.mem_append_right _ (List.mem_append_right _ (List.mem_append_right _ (List.mem_append_right _ (List.mem_append_right _ (List.mem_append_right _ (List.mem_append_right _ (List.mem_append_right _ (List.mem_append_right _ (List.mem_append_right _ (List.mem_append_right _ (List.mem_append_right _ (List.mem_append_right _ (List.mem_append_right _ (List.mem_append_right _ (List.mem_append_right _ (List.mem_append_right _ (List.mem_append_right _ (List.mem_append_right _ (List.mem_append_left _ h)))))))))))))))))))
theorem re_t20 : ∀ w ∈ tables_1_20, w ∈ lw_tbl := fun _ h => List.mem_append_right _ (List.mem_append_right _ (List.mem_append_right _ (List.mem_append_right _ (List.mem_append_right _ (List.mem_append_right _ (List.mem_append_right _ (List.mem_append_right _ (List.mem_append_right _ (List.mem_append_right _ (List.mem_append_right _ (List.mem_append_right _ (List.mem_append_right _ (List.mem_append_right _ (List.mem_append_right _ (List.mem_append_right _ (List.mem_append_right _ (List.mem_append_right _ (List.mem_append_right _ (List.mem_append_right _ (List.mem_append_left _ h))))))))))))))))))))
theorem re_t21 : ∀ w ∈ tables_1_21, w ∈ lw_tbl := fun _ h => List.mem_append_right _ (List.mem_append_right _ (List.mem_append_right _ (List.mem_append_right _ (List.mem_append_right _ (List.mem_append_right _ (List.mem_append_right _ (List.mem_append_right _ (List.mem_append_right _ (List.mem_append_right _ (List.mem_append_right _ (List.mem_append_right _ (List.mem_append_right _ (List.mem_append_right _ (List.mem_append_right _ (List.mem_append_right _ (List.mem_append_right _ (List.mem_append_right _ (List.mem_append_right _ (List.mem_append_right _ (List.mem_append_right _ (List.mem_append_left _ h)))))))))))))))))))))
theorem re_t22 : ∀ w ∈ tables_1_22, w ∈ lw_tbl := fun _ h => List.mem_append_right _ (List.mem_append_right _ (List.mem_append_right _ (List.mem_append_right _ (List.mem_append_right _ (List.mem_append_right _ (List.mem_append_right _ (List.mem_append_right _ (List.mem_append_right _ (List.mem_append_right _ (List.mem_append_right _ (List.mem_append_right _ (List.mem_append_right _ (List.mem_append_right _ (List.mem_append_right _ (List.mem_append_right _ (List.mem_append_right _ (List.mem_append_right _ (List.mem_append_right _ (List.mem_append_right _ (List.mem_append_right _ (List.mem_append_right _ (List.mem_append_left _ h))))))))))))))))))))))
theorem re_t23 : ∀ w ∈ tables_1_23, w ∈ lw_tbl := fun _ h => List.mem_append_right _ (List.mem_append_right _ (List.mem_append_right _ (List.mem_append_right _ (List.mem_append_right _ (List.mem_append_right _ (List.mem_append_right _ (List.mem_append_right _ (List.mem_append_right _ (List.mem_append_right _ (List.mem_append_right _ (List.mem_append_right _ (List.mem_append_right _ (List.mem_append_right _ (List.mem_append_right _ (List.mem_append_right _ (List.mem_append_right _ (List.mem_append_right _ (List.mem_append_right _ (List.mem_append_right _ (List.mem_append_right _ (List.mem_append_right _ (List.mem_append_right _ (List.mem_append_left _ h)))))))))))))))))))))))
theorem re_t24 : ∀ w ∈ tables_1_24, w ∈ lw_tbl := fun _ h => List.mem_append_right _ (List.mem_append_right _ (List.mem_append_right _ (List.mem_append_right _ (List.mem_append_right _ (List.mem_append_right _ (List.mem_append_right _ (List.mem_append_right _ (List.mem_append_right _ (List.mem_append_right _ (List.mem_append_right _ (List.mem_append_right _ (List.mem_append_right _ (List.mem_append_right _ (List.mem_append_right _ (List.mem_append_right _ (List.mem_append_right _ (List.mem_append_right _ (List.mem_append_right _ (List.mem_append_right _ (List.mem_append_right _ (List.mem_append_right _ (List.mem_append_right _ (List.mem_append_right _ (h))))))))))))))))))))))))
theorem re_p1 : ∀ q ∈ lw_privs_1, q ∈ lw_privs := fun _ h => List.mem_append_left _ h
theorem re_p2 : ∀ q ∈ lw_privs_2, q ∈ lw_privs := fun _ h => List.mem_append_right _ (List.mem_append_left _ h)
theorem re_p3 : ∀ q ∈ lw_privs_3, q ∈ lw_privs := fun _ h => List.mem_append_right _ (List.mem_append_right _ (List.mem_append_left _ h))
theorem re_p4 : ∀ q ∈ lw_privs_4, q ∈ lw_privs := fun _ h => List.mem_append_right _ (List.mem_append_right _ (List.mem_append_right _ (List.mem_append_left _ h)))
theorem re_p5 : ∀ q ∈ lw_privs_5, q ∈ lw_privs := fun _ h => List.mem_append_right _ (List.mem_append_right _ (List.mem_append_right _ (List.mem_append_right _ (List.mem_append_left _ h))))
theorem re_p6 : ∀ q ∈ lw_privs_6, q ∈ lw_privs := fun _ h => List.mem_append_right _ (List.mem_append_right _ (List.mem_append_right _ (List.mem_append_right _ (List.mem_append_right _ (List.mem_append_left _ h)))))
theorem re_p7 : ∀ q ∈ lw_privs_7, q ∈ lw_privs := fun _ h => List.mem_append_right _ (List.mem_append_right _ (List.mem_append_right _ (List.mem_append_right _ (List.mem_append_right _ (List.mem_append_right _ (List.mem_append_left _ h))))))
theorem re_p8 : ∀ q ∈ lw_privs_8, q ∈ lw_privs := fun _ h => List.mem_append_right _ (List.mem_append_right _ (List.mem_append_right _ (List.mem_append_right _ (List.mem_append_right _ (List.mem_append_right _ (List.mem_append_right _ (List.mem_append_left _ h)))))))
theorem re_p9 : ∀ q ∈ lw_privs_9, q ∈ lw_privs := fun _ h => List.mem_append_right _ (List.mem_append_right _ (List.mem_append_right _ (List.mem_append_right _ (List.mem_append_right _ (List.mem_append_right _ (List.mem_append_right _ (List.mem_append_right _ (List.mem_append_left _ h))))))))
theorem re_p10 : ∀ q ∈ lw_privs_10, q ∈ lw_privs := fun _ h => List.mem_append_right _ (List.mem_append_right _ (List.mem_append_right _ (List.mem_append_right _ (List.mem_append_right _ (List.mem_append_right _ (List.mem_append_right _ (List.mem_append_right _ (List.mem_append_right _ (List.mem_append_left _ h)))))))))
theorem re_p11 : ∀ q ∈ lw_privs_11, q ∈ lw_privs := fun _ h => List.mem_append_right _ (List.mem_append_right _ (List.mem_append_right _ (List.mem_append_right _ (List.mem_append_right _ (List.mem_append_right _ (List.mem_append_right _ (List.mem_append_right _ (List.mem_append_right _ (List.mem_append_right _ (List.mem_append_left _ h))))))))))
theorem re_p12 : ∀ q ∈ lw_privs_12, q ∈ lw_privs := fun _ h => List.mem_append_right _ (List.mem_append_right _ (List.mem_append_right _ (List.mem_append_right _ (List.mem_append_right _ (List.mem_append_right _ (List.mem_append_right _ (List.mem_append_right _ (List.mem_append_right _ (List.mem_append_right _ (List.mem_append_right _ (List.mem_append_left _ h)))))))))))
theorem re_p13 : ∀ q ∈ lw_privs_13, q ∈ lw_privs := fun _ h => List.mem_append_right _ (List.mem_append_right _ (List.mem_append_right _ (List.mem_append_right _ (List.mem_append_right _ (List.mem_append_right _ (List.mem_append_right _ (List.mem_append_right _ (List.mem_append_right _ (List.mem_append_right _ (List.mem_append_right _ (List.mem_append_right _ (List.mem_append_left _ h))))))))))))
theorem re_p14 : ∀ q ∈ lw_privs_14, q ∈ lw_privs := fun _ h => List.mem_append_right _ (List.mem_append_right _ (List.mem_append_right _ (List.mem_append_right _ (List.mem_append_right _ (List.mem_append_right _ (List.mem_append_right _ (List.mem_append_right _ (List.mem_append_right _ (List.mem_append_right _ (List.mem_append_right _ (List.mem_append_right _ (List.mem_append_right _ (List.mem_append_left _ h)))))))))))))
theorem re_p15 : ∀ q ∈ lw_privs_15, q ∈ lw_privs := fun _ h => List.mem_append_right _ (List.mem_append_right _ (List.mem_append_right _ (List.mem_append_right _ (List.mem_append_right _ (List.mem_append_right _ (List.mem_append_right _ (List.mem_append_right _ (List.mem_append_right _ (List.mem_append_right _ (List.mem_append_right _ (List.mem_append_right _ (List.mem_append_right _ (List.mem_append_right _ (List.mem_append_left _ h))))))))))))))
theorem re_p16 : ∀ q ∈ lw_privs_16, q ∈ lw_privs := fun _ h => List.mem_append_right _ (List.mem_append_right _ (List.mem_append_right _ (List.mem_append_right _ (List.mem_append_right _ (List.mem_append_right _ (List.mem_append_right _ (List.mem_append_right _ (List.mem_append_right _ (List.mem_append_right _ (List.mem_append_right _ (List.mem_append_right _ (List.mem_append_right _ (List.mem_append_right _ (List.mem_append_right _ (List.mem_append_left _ h)))))))))))))))
theorem re_p17 : ∀ q ∈ lw_privs_17, q ∈ lw_privs := fun _ h => List.mem_append_right _ (List.mem_append_right _ (List.mem_append_right _ (List.mem_append_right _ (List.mem_append_right _ (List.mem_append_right _ (List.mem_append_right _ (List.mem_append_right _ (List.mem_append_right _ (List.mem_append_right _ (List.mem_append_right _ (List.mem_append_right _ (List.mem_append_right _ (List.mem_append_right _ (List.mem_append_right _ (List.mem_append_right _ (List.mem_append_left _ h))))))))))))))))
theorem re_p18 : ∀ q ∈ lw_privs_18, q ∈ lw_privs := fun _ h => List.mem_append_right _ (List.mem_append_right _ (List.mem_append_right _ (List.mem_append_right _ (List.mem_append_right _ (List.mem_append_right _ (List.mem_append_right _ (List.mem_append_right _ (List.mem_append_right _ (List.mem_append_right _ (List.mem_append_right _ (List.mem_append_right _ (List.mem_append_right _ (List.mem_append_right _ (List.mem_append_right _ (List.mem_append_right _ (List.mem_append_right _ (List.mem_append_left _ h)))))))))))))))))
theorem re_p19 : ∀ q ∈ lw_privs_19, q ∈ lw_privs := fun _ h => List.mem_append_right _ (List.mem_append_right _ (List.mem_append_right _ (List.mem_append_right _ (List.mem_append_right _ (List.mem_append_right _ (List.mem_append_right _ (List.mem_append_right _ (List.mem_append_right _ (List.mem_append_right _ (List.mem_append_right _ (List.mem_append_right _ (List.mem_append_right _ (List.mem_append_right _ (List.mem_append_right _ (List.mem_append_right _ (List.mem_append_right _ (List.mem_append_right _ (List.mem_append_left _ h))))))))))))))))))
theorem re_p20 : ∀ q ∈ lw_privs_20, q ∈ lw_privs := fun _ h => List.mem_append_right _ (List.mem_append_right _ (List.mem_append_right _ (List.mem_append_right _ (List.mem_append_right _ (List.mem_append_right _ (List.mem_append_right _ (List.mem_append_right _ (List.mem_append_right _ (List.mem_append_right _ (List.mem_append_right _ (List.mem_append_right _ (List.mem_append_right _ (List.mem_append_right _ (List.mem_append_right _ (List.mem_append_right _ (List.mem_append_right _ (List.mem_append_right _ (List.mem_append_right _ (List.mem_append_left _ h)))))))))))))))))))
theorem re_p21 : ∀ q ∈ lw_privs_21, q ∈ lw_privs := fun _ h => List.mem_append_right _ (List.mem_append_right _ (List.mem_append_right _ (List.mem_append_right _ (List.mem_append_right _ (List.mem_append_right _ (List.mem_append_right _ (List.mem_append_right _ (List.mem_append_right _ (List.mem_append_right _ (List.mem_append_right _ (List.mem_append_right _ (List.mem_append_right _ (List.mem_append_right _ (List.mem_append_right _ (List.mem_append_right _ (List.mem_append_right _ (List.mem_append_right _ (List.mem_append_right _ (List.mem_append_right _ (List.mem_append_left _ h))))))))))))))))))))
theorem re_p22 : ∀ q ∈ lw_privs_22, q ∈ lw_privs := fun _ h => List.mem_append_right _ (List.mem_append_right _ (List.mem_append_right _ (List.mem_append_right _ (List.mem_append_right _ (List.mem_append_right _ (List.mem_append_right _ (List.mem_append_right _ (List.mem_append_right _ (List.mem_append_right _ (List.mem_append_right _ (List.mem_append_right _ (List.mem_append_right _ (List.mem_append_right _ (List.mem_append_right _ (List.mem_append_right _ (List.mem_append_right _ (List.mem_append_right _ (List.mem_append_right _ (List.mem_append_right _ (List.mem_append_right _ (List.mem_append_left _ h)))))))))))))))))))))
theorem re_p23 : ∀ q ∈ lw_privs_23, q ∈ lw_privs := fun _ h => List.mem_append_right _ (List.mem_append_right _ (List.mem_append_right _ (List.mem_append_right _ (List.mem_append_right _ (List.mem_append_right _ (List.mem_append_right _ (List.mem_append_right _ (List.mem_append_right _ (List.mem_append_right _ (List.mem_append_right _ (List.mem_append_right _ (List.mem_append_right _ (List.mem_append_right _ (List.mem_append_right _ (List.mem_append_right _ (List.mem_append_right _ (List.mem_append_right _ (List.mem_append_right _ (List.mem_append_right _ (List.mem_append_right _ (List.mem_append_right _ (List.mem_append_left _ h))))))))))))))))))))))
theorem re_p24 : ∀ q ∈ lw_privs_24, q ∈ lw_privs := fun _ h => List.mem_append_right _ (List.mem_append_right _ (List.mem_append_right _ (List.mem_append_right _ (List.mem_append_right _ (List.mem_append_right _ (List.mem_append_right _ (List.mem_append_right _ (List.mem_append_right _ (List.mem_append_right _ (List.mem_append_right _ (List.mem_append_right _ (List.mem_append_right _ (List.mem_append_right _ (List.mem_append_right _ (List.mem_append_right _ (List.mem_append_right _ (List.mem_append_right _ (List.mem_append_right _ (List.mem_append_right _ (List.mem_append_right _ (List.mem_append_right _ (List.mem_append_right _ (List.mem_append_left _ h)))))))))))))))))))))))
theorem re_p25 : ∀ q ∈ lw_privs_25, q ∈ lw_privs := fun _ h => List.mem_append_right _ (List.mem_append_right _ (List.mem_append_right _ (List.mem_append_right _ (List.mem_append_right _ (List.mem_append_right _ (List.mem_append_right _ (List.mem_append_right _ (List.mem_append_right _ (List.mem_append_right _ (List.mem_append_right _ (List.mem_append_right _ (List.mem_append_right _ (List.mem_append_right _ (List.mem_append_right _ (List.mem_append_right _ (List.mem_append_right _ (List.mem_append_right _ (List.mem_append_right _ (List.mem_append_right _ (List.mem_append_right _ (List.mem_append_right _ (List.mem_append_right _ (List.mem_append_right _ (List.mem_append_left _ h))))))))))))))))))))))))
theorem re_p26 : ∀ q ∈ lw_privs_26, q ∈ lw_privs := fun _ h => List.mem_append_right _ (List.mem_append_right _ (List.mem_append_right _ (List.mem_append_right _ (List.mem_append_right _ (List.mem_append_right _ (List.mem_append_right _ (List.mem_append_right _ (List.mem_append_right _ (List.mem_append_right _ (List.mem_append_right _ (List.mem_append_right _ (List.mem_append_right _ (List.mem_append_right _ (List.mem_append_right _ (List.mem_append_right _ (List.mem_append_right _ (List.mem_append_right _ (List.mem_append_right _ (List.mem_append_right _ (List.mem_append_right _ (List.mem_append_right _ (List.mem_append_right _ (List.mem_append_right _ (List.mem_append_right _ (List.mem_append_left _ h)))))))))))))))))))))))))
theorem re_p27 : ∀ q ∈ lw_privs_27, q ∈ lw_privs := fun _ h => List.mem_append_right _ (List.mem_append_right _ (List.mem_append_right _ (List.mem_append_right _ (List.mem_append_right _ (List.mem_append_right _ (List.mem_append_right _ (List.mem_append_right _ (List.mem_append_right _ (List.mem_append_right _ (List.mem_append_right _ (List.mem_append_right _ (List.mem_append_right _ (List.mem_append_right _ (List.mem_append_right _ (List.mem_append_right _ (List.mem_append_right _ (List.mem_append_right _ (List.mem_append_right _ (List.mem_append_right _ (List.mem_append_right _ (List.mem_append_right _ (List.mem_append_right _ (List.mem_append_right _ (List.mem_append_right _ (List.mem_append_right _ (List.mem_append_left _ h))))))))))))))))))))))))))
theorem re_p28 : ∀ q ∈ lw_privs_28, q ∈ lw_privs := fun _ h => List.mem_append_right _ (List.mem_append_right _ (List.mem_append_right _ (List.mem_append_right _ (List.mem_append_right _ (List.mem_append_right _ (List.mem_append_right _ (List.mem_append_right _ (List.mem_append_right _ (List.mem_append_right _ (List.mem_append_right _ (List.mem_append_right _ (List.mem_append_right _ (List.mem_append_right _ (List.mem_append_right _ (List.mem_append_right _ (List.mem_append_right _ (List.mem_append_right _ (List.mem_append_right _ (List.mem_append_right _ (List.mem_append_right _ (List.mem_append_right _ (List.mem_append_right _ (List.mem_append_right _ (List.mem_append_right _ (List.mem_append_right _ (List.mem_append_right _ (List.mem_append_left _ h)))))))))))))))))))))))))))
theorem re_p29 : ∀ q ∈ lw_privs_29, q ∈ lw_privs := fun _ h => List.mem_append_right _ (List.mem_append_right _ (List.mem_append_right _ (List.mem_append_right _ (List.mem_append_right _ (List.mem_append_right _ (List.mem_append_right _ (List.mem_append_right _ (List.mem_append_right _ (List.mem_append_right _ (List.mem_append_right _ (List.mem_append_right _ (List.mem_append_right _ (List.mem_append_right _ (List.mem_append_right _ (List.mem_append_right _ (List.mem_append_right _ (List.mem_append_right _ (List.mem_append_right _ (List.mem_append_right _ (List.mem_append_right _ (List.mem_append_right _ (List.mem_append_right _ (List.mem_append_right _ (List.mem_append_right _ (List.mem_append_right _ (List.mem_append_right _ (List.mem_append_right _ (List.mem_append_left _ h))))))))))))))))))))))))))))
theorem re_p30 : ∀ q ∈ lw_privs_30, q ∈ lw_privs := fun _ h => List.mem_append_right _ (List.mem_append_right _ (List.mem_append_right _ (List.mem_append_right _ (List.mem_append_right _ (List.mem_append_right _ (List.mem_append_right _ (List.mem_append_right _ (List.mem_append_right _ (List.mem_append_right _ (List.mem_append_right _ (List.mem_append_right _ (List.mem_append_right _ (List.mem_append_right _ (List.mem_append_right _ (List.mem_append_right _ (List.mem_append_right _ (List.mem_append_right _ (List.mem_append_right _ (List.mem_append_right _ (List.mem_append_right _ (List.mem_append_right _ (List.mem_append_right _ (List.mem_append_right _ (List.mem_append_right _ (List.mem_append_right _ (List.mem_append_right _ (List.mem_append_right _ (List.mem_append_right _ (List.mem_append_left _ h)))))))))))))))))))))))))))))
theorem re_p31 : ∀ q ∈ lw_privs_31, q ∈ lw_privs := fun _ h => List.mem_append_right _ (List.mem_append_right _ (List.mem_append_right _ (List.mem_append_right _ (List.mem_append_right _ (List.mem_append_right _ (List.mem_append_right _ (List.mem_append_right _ (List.mem_append_right _ (List.mem_append_right _ (List.mem_append_right _ (List.mem_append_right _ (List.mem_append_right _ (List.mem_append_right _ (List.mem_append_right _ (List.mem_append_right _ (List.mem_append_right _ (List.mem_append_right _ (List.mem_append_right _ (List.mem_append_right _ (List.mem_append_right _ (List.mem_append_right _ (List.mem_append_right _ (List.mem_append_right _ (List.mem_append_right _ (List.mem_append_right _ (List.mem_append_right _ (List.mem_append_right _ (List.mem_append_right _ (List.mem_append_right _ (h))))))))))))))))))))))))))))))
def tyJ0 : Nat → FieldType := fun k => match k with
  | 0 => .array .byte
  | 1 => .byte
  | 2 => .int
  | _ => .boolean
abbrev wsJ00 : List Cond := u_ws RJ0 TJ0 2
theorem nmJ0 : ∀ a, a < 2 → ∀ b, b < 2 → a ≠ b → (TJ0 a).2.1 ≠ (TJ0 b).2.1 := by decide +kernel
theorem tyJ0_ok : ∀ k, k < 2 → parseFieldDescriptor (TJ0 k).2.2.1 = some (tyJ0 k) := by decide +kernel
set_option maxRecDepth 100000 in
theorem reJ0 : ∀ w ∈ wsJ00, w ∈ re_tbl := re_by [5558, 5560] (by decide +kernel)
def tyJx4a65c : Nat → FieldType := fun k => match k with
  | 0 => .int
  | 1 => .array (.object "java/lang/Object")
  | _ => .int
abbrev wsJx4a65c0 : List Cond := u_ws RJx4a65c TJx4a65c 3
theorem nmJx4a65c : ∀ a, a < 3 → ∀ b, b < 3 → a ≠ b → (TJx4a65c a).2.1 ≠ (TJx4a65c b).2.1 := by decide +kernel
theorem tyJx4a65c_ok : ∀ k, k < 3 → parseFieldDescriptor (TJx4a65c k).2.2.1 = some (tyJx4a65c k) := by decide +kernel
set_option maxRecDepth 100000 in
theorem reJx4a65c : ∀ w ∈ wsJx4a65c0, w ∈ re_tbl := re_by [796, 792, 794] (by decide +kernel)
def tyX0 : Nat → FieldType := fun k => match k with
  | 0 => .int
  | 1 => .object "SqlStore$Tree"
  | 2 => .object "SqlStore$Runner"
  | 3 => .object "SqlStore$Checker"
  | 4 => .array .byte
  | 5 => .int
  | 6 => .array .int
  | 7 => .array .int
  | 8 => .array .int
  | 9 => .int
  | 10 => .int
  | 11 => .int
  | 12 => .array (.object "SqlStore$Value")
  | 13 => .array (.object "SqlStore$Value")
  | 14 => .array .byte
  | 15 => .array .byte
  | _ => .array .byte
abbrev wsX00 : List Cond := u_ws RX0 TX0 17
theorem nmX0 : ∀ a, a < 17 → ∀ b, b < 17 → a ≠ b → (TX0 a).2.1 ≠ (TX0 b).2.1 := by decide +kernel
theorem tyX0_ok : ∀ k, k < 17 → parseFieldDescriptor (TX0 k).2.2.1 = some (tyX0 k) := by decide +kernel
set_option maxRecDepth 100000 in
theorem reX0 : ∀ w ∈ wsX00, w ∈ re_tbl := re_bs (L := tables_1_4 ++ tables_1_5) (fun w h => (List.mem_append.mp h).elim ((re_t4) w) (re_t5 w)) (by decide +kernel) (by decide +kernel)
def tyX1 : Nat → FieldType := fun k => match k with
  | 0 => .array (.object "SqlStore$Definition")
  | 1 => .int
  | 2 => .object "SqlStore$Definition"
  | 3 => .array .byte
  | 4 => .int
  | 5 => .int
  | 6 => .int
  | 7 => .object "SqlStore$Tree"
  | 8 => .object "SqlStore$Parser"
  | 9 => .array .byte
  | 10 => .int
  | 11 => .array .byte
  | 12 => .int
  | 13 => .int
  | 14 => .boolean
  | _ => .boolean
abbrev wsX10 : List Cond := u_ws RX1 TX1 16
theorem nmX1 : ∀ a, a < 16 → ∀ b, b < 16 → a ≠ b → (TX1 a).2.1 ≠ (TX1 b).2.1 := by decide +kernel
theorem tyX1_ok : ∀ k, k < 16 → parseFieldDescriptor (TX1 k).2.2.1 = some (tyX1 k) := by decide +kernel
set_option maxRecDepth 100000 in
theorem reX1 : ∀ w ∈ wsX10, w ∈ re_tbl := re_bs (L := tables_1_4) (re_t4) (by decide +kernel) (by decide +kernel)
def tyX2 : Nat → FieldType := fun k => match k with
  | 0 => .int
  | 1 => .int
  | 2 => .long
  | 3 => .int
  | 4 => .int
  | 5 => .long
  | 6 => .int
  | 7 => .array (.object "SqlStore$Node")
  | 8 => .array .long
  | 9 => .array .int
  | 10 => .object "SqlStore$Node"
  | 11 => .array .int
  | 12 => .int
  | 13 => .int
  | 14 => .int
  | 15 => .array .int
  | 16 => .array .boolean
  | 17 => .array .int
  | 18 => .array .int
  | 19 => .object "SqlStore$Select"
  | _ => .object "SqlStore$Source"
abbrev wsX20 : List Cond := u_ws RX2 TX2 21
theorem nmX2 : ∀ a, a < 21 → ∀ b, b < 21 → a ≠ b → (TX2 a).2.1 ≠ (TX2 b).2.1 := by decide +kernel
theorem tyX2_ok : ∀ k, k < 21 → parseFieldDescriptor (TX2 k).2.2.1 = some (tyX2 k) := by decide +kernel
set_option maxRecDepth 100000 in
theorem reX2 : ∀ w ∈ wsX20, w ∈ re_tbl := re_bs (L := tables_1_4) (re_t4) (by decide +kernel) (by decide +kernel)
def tyX3 : Nat → FieldType := fun k => match k with
  | 0 => .array .byte
  | 1 => .array .byte
  | 2 => .array .byte
  | 3 => .int
  | 4 => .int
  | 5 => .int
  | 6 => .boolean
  | 7 => .int
  | 8 => .array .int
  | 9 => .array .boolean
  | 10 => .array .int
  | 11 => .array .long
  | 12 => .array .boolean
  | 13 => .array .byte
  | 14 => .array .byte
  | 15 => .array .byte
  | 16 => .int
  | _ => .array .byte
abbrev wsX30 : List Cond := u_ws RX3 TX3 18
theorem nmX3 : ∀ a, a < 18 → ∀ b, b < 18 → a ≠ b → (TX3 a).2.1 ≠ (TX3 b).2.1 := by decide +kernel
theorem tyX3_ok : ∀ k, k < 18 → parseFieldDescriptor (TX3 k).2.2.1 = some (tyX3 k) := by decide +kernel
set_option maxRecDepth 100000 in
theorem reX3 : ∀ w ∈ wsX30, w ∈ re_tbl := re_bs (L := tables_1_1) (re_t1) (by decide +kernel) (by decide +kernel)
def tyX4 : Nat → FieldType := fun k => match k with
  | 0 => .int
  | 1 => .int
  | 2 => .int
  | 3 => .int
  | 4 => .int
  | 5 => .int
  | 6 => .long
  | 7 => .long
  | 8 => .int
  | 9 => .object "SqlStore$Node"
  | 10 => .object "SqlStore$Node"
  | 11 => .object "SqlStore$Node"
  | 12 => .object "SqlStore$Select"
  | 13 => .object "SqlStore$Source"
  | 14 => .int
  | 15 => .int
  | _ => .object "SqlStore$Value"
abbrev wsX40 : List Cond := u_ws RX4 TX4 17
theorem nmX4 : ∀ a, a < 17 → ∀ b, b < 17 → a ≠ b → (TX4 a).2.1 ≠ (TX4 b).2.1 := by decide +kernel
theorem tyX4_ok : ∀ k, k < 17 → parseFieldDescriptor (TX4 k).2.2.1 = some (tyX4 k) := by decide +kernel
set_option maxRecDepth 100000 in
theorem reX4 : ∀ w ∈ wsX40, w ∈ re_tbl := re_bs (L := tables_1_6) (re_t6) (by decide +kernel) (by decide +kernel)
def tyX5 : Nat → FieldType := fun k => match k with
  | 0 => .object "SqlStore$Statement"
  | 1 => .int
  | 2 => .array .byte
  | 3 => .int
  | 4 => .array .int
  | 5 => .array .int
  | 6 => .array .long
  | 7 => .int
  | 8 => .int
  | 9 => .int
  | 10 => .long
  | 11 => .int
  | 12 => .array .long
  | 13 => .int
  | 14 => .int
  | 15 => .object "SqlStore$Select"
  | 16 => .boolean
  | 17 => .object "java/util/ArrayList"
  | 18 => .object "java/util/ArrayList"
  | 19 => .object "java/util/ArrayList"
  | _ => .array .int
abbrev wsX50 : List Cond := u_ws RX5 TX5 21
theorem nmX5 : ∀ a, a < 21 → ∀ b, b < 21 → a ≠ b → (TX5 a).2.1 ≠ (TX5 b).2.1 := by decide +kernel
theorem tyX5_ok : ∀ k, k < 21 → parseFieldDescriptor (TX5 k).2.2.1 = some (tyX5 k) := by decide +kernel
set_option maxRecDepth 100000 in
theorem reX5 : ∀ w ∈ wsX50, w ∈ re_tbl := re_bs (L := tables_1_2) (re_t2) (by decide +kernel) (by decide +kernel)
def tyX6 : Nat → FieldType := fun k => match k with
  | 0 => .int
  | 1 => .int
  | 2 => .object "SqlStore$Tree"
  | 3 => .array (.object "SqlStore$Value")
  | 4 => .int
  | 5 => .object "java/util/ArrayList"
  | 6 => .int
  | 7 => .array .int
  | 8 => .int
  | 9 => .object "SqlStore$Value"
  | 10 => .array .byte
  | 11 => .array .byte
  | 12 => .int
  | 13 => .array .byte
  | _ => .int
abbrev wsX60 : List Cond := u_ws RX6 TX6 15
theorem nmX6 : ∀ a, a < 15 → ∀ b, b < 15 → a ≠ b → (TX6 a).2.1 ≠ (TX6 b).2.1 := by decide +kernel
theorem tyX6_ok : ∀ k, k < 15 → parseFieldDescriptor (TX6 k).2.2.1 = some (tyX6 k) := by decide +kernel
set_option maxRecDepth 100000 in
theorem reX6 : ∀ w ∈ wsX60, w ∈ re_tbl := re_bs (L := tables_1_4) (re_t4) (by decide +kernel) (by decide +kernel)
def tyX7 : Nat → FieldType := fun k => match k with
  | 0 => .int
  | 1 => .object "SqlStore$Select"
  | 2 => .int
  | 3 => .boolean
  | 4 => .object "SqlStore$Node"
  | 5 => .object "SqlStore$Source"
  | 6 => .object "SqlStore$Node"
  | 7 => .object "SqlStore$Node"
  | 8 => .object "SqlStore$Node"
  | 9 => .object "SqlStore$Node"
  | 10 => .object "SqlStore$Node"
  | 11 => .object "SqlStore$Select"
  | 12 => .int
  | 13 => .int
  | 14 => .int
  | 15 => .array .long
  | 16 => .array .int
  | 17 => .array .int
  | 18 => .int
  | 19 => .array .int
  | 20 => .int
  | _ => .int
abbrev wsX70 : List Cond := u_ws RX7 TX7 22
theorem nmX7 : ∀ a, a < 22 → ∀ b, b < 22 → a ≠ b → (TX7 a).2.1 ≠ (TX7 b).2.1 := by decide +kernel
theorem tyX7_ok : ∀ k, k < 22 → parseFieldDescriptor (TX7 k).2.2.1 = some (tyX7 k) := by decide +kernel
set_option maxRecDepth 100000 in
theorem reX7 : ∀ w ∈ wsX70, w ∈ re_tbl := re_bs (L := tables_1_3) (re_t3) (by decide +kernel) (by decide +kernel)
def tyX8 : Nat → FieldType := fun k => match k with
  | 0 => .long
  | 1 => .int
  | 2 => .long
  | 3 => .int
  | 4 => .int
  | 5 => .object "SqlStore$Node"
  | 6 => .object "SqlStore$Select"
  | 7 => .object "SqlStore$Definition"
  | 8 => .object "SqlStore$Select"
  | 9 => .int
  | 10 => .boolean
  | 11 => .object "SqlStore$Source"
  | 12 => .object "SqlStore$Source"
  | 13 => .array (.object "SqlStore$Value")
  | 14 => .int
  | 15 => .int
  | 16 => .array (.object "SqlStore$Node")
  | 17 => .int
  | 18 => .object "SqlStore$Node"
  | _ => .object "SqlStore$Node"
abbrev wsX80 : List Cond := u_ws RX8 TX8 20
theorem nmX8 : ∀ a, a < 20 → ∀ b, b < 20 → a ≠ b → (TX8 a).2.1 ≠ (TX8 b).2.1 := by decide +kernel
theorem tyX8_ok : ∀ k, k < 20 → parseFieldDescriptor (TX8 k).2.2.1 = some (tyX8 k) := by decide +kernel
set_option maxRecDepth 100000 in
theorem reX8 : ∀ w ∈ wsX80, w ∈ re_tbl := re_bs (L := tables_1_3) (re_t3) (by decide +kernel) (by decide +kernel)
def tyX9 : Nat → FieldType := fun k => match k with
  | 0 => .int
  | 1 => .int
  | 2 => .long
  | 3 => .int
  | 4 => .long
  | 5 => .int
  | 6 => .object "SqlStore$Node"
  | 7 => .object "SqlStore$Node"
  | 8 => .object "SqlStore$Select"
  | 9 => .object "SqlStore$Select"
  | 10 => .int
  | 11 => .int
  | 12 => .int
  | 13 => .int
  | 14 => .object "SqlStore$Source"
  | _ => .object "SqlStore$Source"
abbrev wsX90 : List Cond := u_ws RX9 TX9 16
theorem nmX9 : ∀ a, a < 16 → ∀ b, b < 16 → a ≠ b → (TX9 a).2.1 ≠ (TX9 b).2.1 := by decide +kernel
theorem tyX9_ok : ∀ k, k < 16 → parseFieldDescriptor (TX9 k).2.2.1 = some (tyX9 k) := by decide +kernel
set_option maxRecDepth 100000 in
theorem reX9 : ∀ w ∈ wsX90, w ∈ re_tbl := re_bs (L := tables_1_2) (re_t2) (by decide +kernel) (by decide +kernel)
def tyX10 : Nat → FieldType := fun k => match k with
  | 0 => .array .byte
  | 1 => .int
  | 2 => .array .int
  | 3 => .array .int
  | 4 => .array .int
  | 5 => .int
  | 6 => .int
  | 7 => .array .byte
  | 8 => .array .byte
  | 9 => .int
  | _ => .array .int
abbrev wsX100 : List Cond := u_ws RX10 TX10 11
theorem nmX10 : ∀ a, a < 11 → ∀ b, b < 11 → a ≠ b → (TX10 a).2.1 ≠ (TX10 b).2.1 := by decide +kernel
theorem tyX10_ok : ∀ k, k < 11 → parseFieldDescriptor (TX10 k).2.2.1 = some (tyX10 k) := by decide +kernel
set_option maxRecDepth 100000 in
theorem reX10 : ∀ w ∈ wsX100, w ∈ re_tbl := re_by [644, 646, 648, 650, 652, 654, 656, 658, 660, 662, 664] (by decide +kernel)
def tyX11 : Nat → FieldType := fun k => match k with
  | 0 => .int
  | 1 => .long
  | 2 => .int
  | 3 => .int
  | _ => .array .byte
abbrev wsX110 : List Cond := u_ws RX11 TX11 5
theorem nmX11 : ∀ a, a < 5 → ∀ b, b < 5 → a ≠ b → (TX11 a).2.1 ≠ (TX11 b).2.1 := by decide +kernel
theorem tyX11_ok : ∀ k, k < 5 → parseFieldDescriptor (TX11 k).2.2.1 = some (tyX11 k) := by decide +kernel
set_option maxRecDepth 100000 in
theorem reX11 : ∀ w ∈ wsX110, w ∈ re_tbl := re_by [1083, 1085, 1087, 1089, 1091] (by decide +kernel)
def tyX12 : Nat → FieldType := fun k => match k with
  | 0 => .array .byte
  | 1 => .int
  | 2 => .array .byte
  | 3 => .array .int
  | 4 => .array .int
  | 5 => .array .int
  | 6 => .array (.object "SqlStore$Value")
  | 7 => .int
  | 8 => .int
  | 9 => .int
  | 10 => .int
  | 11 => .int
  | 12 => .int
  | 13 => .int
  | 14 => .array (.object "SqlStore$Value")
  | 15 => .object "SqlStore$Log"
  | 16 => .object "SqlStore$Tree"
  | 17 => .object "SqlStore$Parser"
  | 18 => .object "SqlStore$Parser"
  | 19 => .object "SqlStore$Checker"
  | 20 => .object "SqlStore$Runner"
  | _ => .object "SqlStore$Changer"
abbrev wsX120 : List Cond := u_ws RX12 TX12 22
theorem nmX12 : ∀ a, a < 22 → ∀ b, b < 22 → a ≠ b → (TX12 a).2.1 ≠ (TX12 b).2.1 := by decide +kernel
theorem tyX12_ok : ∀ k, k < 22 → parseFieldDescriptor (TX12 k).2.2.1 = some (tyX12 k) := by decide +kernel
set_option maxRecDepth 100000 in
theorem reX12 : ∀ w ∈ wsX120, w ∈ re_tbl := re_bs (L := tables_1_5) (re_t5) (by decide +kernel) (by decide +kernel)
def tyX14 : Nat → FieldType := fun k => match k with
  | 0 => .int
  | 1 => .int
  | 2 => .int
  | 3 => .array .byte
  | 4 => .int
  | 5 => .int
  | 6 => .array .boolean
  | 7 => .array .byte
  | 8 => .array .int
  | 9 => .array .int
  | 10 => .array .boolean
  | 11 => .array .int
  | 12 => .array .long
  | 13 => .array .byte
  | 14 => .array .long
  | 15 => .array .byte
  | 16 => .int
  | 17 => .int
  | 18 => .int
  | 19 => .int
  | 20 => .int
  | 21 => .int
  | 22 => .long
  | 23 => .int
  | 24 => .int
  | 25 => .int
  | 26 => .int
  | 27 => .array .boolean
  | 28 => .int
  | 29 => .array .int
  | 30 => .array .int
  | 31 => .array .int
  | 32 => .array .int
  | 33 => .array .int
  | 34 => .array .int
  | 35 => .array .int
  | 36 => .array .int
  | 37 => .array .long
  | 38 => .array .long
  | 39 => .int
  | 40 => .array (.array .int)
  | 41 => .int
  | 42 => .array (.array .int)
  | 43 => .int
  | 44 => .array (.array .int)
  | 45 => .array .long
  | 46 => .array .long
  | 47 => .array .int
  | 48 => .array .long
  | 49 => .int
  | 50 => .long
  | 51 => .int
  | 52 => .int
  | 53 => .int
  | 54 => .int
  | 55 => .int
  | 56 => .int
  | 57 => .int
  | 58 => .int
  | 59 => .int
  | 60 => .int
  | 61 => .int
  | 62 => .array .byte
  | 63 => .array .int
  | 64 => .array .int
  | 65 => .array .long
  | 66 => .array .int
  | 67 => .array .int
  | 68 => .array .int
  | 69 => .array .int
  | 70 => .array .int
  | 71 => .array .int
  | 72 => .array .long
  | 73 => .array .int
  | 74 => .array .int
  | 75 => .array .boolean
  | 76 => .array .boolean
  | 77 => .array .int
  | 78 => .array .int
  | 79 => .array .long
  | 80 => .array .long
  | 81 => .array .int
  | 82 => .array .long
  | 83 => .array .int
  | 84 => .array .int
  | 85 => .array .int
  | 86 => .array .int
  | 87 => .array .int
  | 88 => .array .int
  | 89 => .array .long
  | 90 => .array .int
  | 91 => .array .int
  | 92 => .array .long
  | 93 => .array .int
  | 94 => .array .boolean
  | 95 => .array .int
  | 96 => .array .long
  | 97 => .array .int
  | 98 => .array .int
  | 99 => .array .int
  | 100 => .array .int
  | 101 => .array .boolean
  | 102 => .array .int
  | 103 => .array .int
  | 104 => .array .int
  | 105 => .int
  | 106 => .int
  | 107 => .int
  | 108 => .int
  | 109 => .boolean
  | 110 => .boolean
  | 111 => .array .int
  | 112 => .array .int
  | 113 => .array .int
  | 114 => .array .int
  | 115 => .array .int
  | 116 => .int
  | 117 => .array .byte
  | 118 => .array .long
  | 119 => .array .int
  | 120 => .int
  | 121 => .array .byte
  | 122 => .int
  | 123 => .long
  | 124 => .int
  | 125 => .array .int
  | 126 => .array .long
  | 127 => .array .int
  | 128 => .int
  | 129 => .array .byte
  | 130 => .array .int
  | 131 => .array .int
  | 132 => .array .int
  | 133 => .int
  | 134 => .array .byte
  | 135 => .int
  | 136 => .array .byte
  | 137 => .array .byte
  | 138 => .array .byte
  | 139 => .array .byte
  | 140 => .array .byte
  | 141 => .array .byte
  | 142 => .int
  | 143 => .array .int
  | 144 => .array .int
  | 145 => .array .int
  | 146 => .array .int
  | 147 => .boolean
  | 148 => .int
  | 149 => .int
  | 150 => .array .boolean
  | 151 => .array .int
  | 152 => .array (.array .byte)
  | 153 => .array .int
  | 154 => .array .long
  | 155 => .array .boolean
  | 156 => .array (.array .byte)
  | 157 => .array .byte
  | 158 => .array .byte
  | 159 => .array .byte
  | 160 => .array .byte
  | 161 => .array .byte
  | 162 => .int
  | 163 => .int
  | 164 => .int
  | 165 => .int
  | 166 => .int
  | 167 => .int
  | 168 => .int
  | 169 => .int
  | 170 => .array .int
  | 171 => .array .long
  | _ => .array .byte
abbrev wsX140 : List Cond := u_ws RX14 TX14 173
theorem nmX14 : ∀ a, a < 173 → ∀ b, b < 173 → a ≠ b → (TX14 a).2.1 ≠ (TX14 b).2.1 := by decide +kernel
theorem tyX14_ok : ∀ k, k < 173 → parseFieldDescriptor (TX14 k).2.2.1 = some (tyX14 k) := by decide +kernel
set_option maxRecDepth 100000 in
theorem reX14 : ∀ w ∈ wsX140, w ∈ re_tbl := re_bs (L := tables_1_15 ++ tables_1_16 ++ tables_1_17) (fun w h => (List.mem_append.mp h).elim ((fun w h => (List.mem_append.mp h).elim ((re_t15) w) (re_t16 w)) w) (re_t17 w)) (by decide +kernel) (by decide +kernel)
