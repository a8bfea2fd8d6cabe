/** The bounds that the section MEANING names: which nodes are selected, in which order, and when they are too many. */
public final class BoundsOfMeaningTest extends Cases {
    public static void main(String[] args) {
        noSegment();
        aNameOfAnObject();
        everyPart();
        numbersFromTheFront();
        numbersFromTheEnd();
        numbersOfOtherValues();
        selectorsInOrder();
        theSameNodeAgain();
        noNodesLeft();
        partsBeforeTheNextPart();
        resultsByIds();
        noResultsAtAll();
        thirtyTwoNodes();
        thirtyTwoNodesOnTheWay();
        thirtyTwoResultsInAll();
        forOneDocument();
        Trial.end();
    }

    /** "The nodes are at first the document's value" */
    private static void noSegment() {
        for (String document : new String[] {"null", "0", "\"\"", "[]", "{}", "[[[[1]]]]"}) {
            found(document, "$", document);
        }
    }

    /** "a name the member of an object" */
    private static void aNameOfAnObject() {
        found("{\"a\":null}", "$.a", "null");
        found("{\"a\":1,\"b\":2,\"c\":3}", "$.a", "1");
        found("{\"a\":1,\"b\":2,\"c\":3}", "$.c", "3");
        found("{\"a\":1}", "$.b");
        found("{\"a\":1}", "$.A");
        found("{}", "$.a");
        found("[{\"a\":1}]", "$.a");
        found("[1]", "$['0']");
        found("[1]", "$['']");
        found("[[1],{\"\":2}]", "$..['']", "2");
        found("\"a\"", "$.a");
        found("null", "$.a");
    }

    /** "* all parts" */
    private static void everyPart() {
        found("[]", "$.*");
        found("{}", "$.*");
        found("[1]", "$.*", "1");
        found("{\"b\":1,\"a\":[2]}", "$[*]", "1", "[2]");
        for (String value : new String[] {"null", "true", "0", "\"ab\""}) {
            found(value, "$.*");
            found(value, "$[*,*]");
            found(value, "$..*");
        }
    }

    /** "a number n that element of an array" */
    private static void numbersFromTheFront() {
        found("[7,8,9]", "$[0]", "7");
        found("[7,8,9]", "$[2]", "9");
        found("[7,8,9]", "$[3]");
        found("[7,8,9]", "$[999]");
        found("[]", "$[0]");
        found("[" + row("1", 22) + ",5]", "$[22]", "5");
        found("[" + row("1", 22) + ",5]", "$[23]");
    }

    /** "n below 0 counted from the end" */
    private static void numbersFromTheEnd() {
        found("[7,8,9]", "$[-1]", "9");
        found("[7,8,9]", "$[-3]", "7");
        found("[7,8,9]", "$[-4]");
        found("[7,8,9]", "$[-999]");
        found("[]", "$[-1]");
        found("[5," + row("1", 22) + "]", "$[-23]", "5");
        found("[5," + row("1", 22) + "]", "$[-24]");
    }

    private static void numbersOfOtherValues() {
        found("{\"0\":1,\"-1\":2}", "$[0,-1]");
        found("{\"a\":1}", "$[0,-1]");
        found("\"ab\"", "$[0,-1]");
        found("12", "$[0,-1]");
    }

    /** "for each node in order ..., for each selector in order" */
    private static void selectorsInOrder() {
        found("[7,8,9]", "$[2,0,1]", "9", "7", "8");
        found("[7,8]", "$[*,0]", "7", "8", "7");
        found("{\"a\":1,\"b\":2}", "$['b',*,'a']", "2", "1", "2", "1");
        found("[[1,2],[3,4]]", "$[1,0][1,0]", "4", "3", "2", "1");
        found("[{\"a\":1,\"b\":2},{\"b\":3,\"a\":4}]", "$.*['b','a']", "2", "1", "3", "4");
        found("[[1],{\"a\":2}]", "$.*['a',0]", "1", "2");
    }

    private static void theSameNodeAgain() {
        found("[7]", "$[0,0,-1,*]", "7", "7", "7", "7");
        found("[[1]]", "$[0,0].*", "1", "1");
    }

    /** A row of no nodes stays one. */
    private static void noNodesLeft() {
        found("{\"a\":1}", "$.x.*");
        found("{\"a\":1}", "$.x..*");
        found("{\"a\":1}", "$.a.*.*.*");
        found("[]", "$..[0,*]");
    }

    /** "(with .. for the node, then for all parts of it, each before its own parts and these before the next part)" */
    private static void partsBeforeTheNextPart() {
        found("[[[1],2],[3]]", "$..*", "[[1],2]", "[3]", "[1]", "2", "1", "3");
        found("[[[1],2],[3]]", "$..[0]", "[[1],2]", "[1]", "1", "3");
        found("[[[1],2],[3]]", "$..[-1]", "[3]", "2", "1", "3");
        found("{\"a\":{\"a\":1},\"b\":{\"a\":2}}", "$..a", "{\"a\":1}", "1", "2");
        found("{\"b\":{\"a\":2},\"a\":{\"a\":1}}", "$..a", "{\"a\":1}", "2", "1");
        found("[[[[5]]]]", "$..*", "[[[5]]]", "[[5]]", "[5]", "5");
        found("[[[[5]]]]", "$..[0]..[0]", "[[5]]", "[5]", "5", "[5]", "5", "5");
        found("[[[[5]]]]", "$[0][0][0]..[0]", "5");
        found("[[1,2],[3]]", "$..[0,1]", "[1,2]", "[3]", "1", "2", "3");
        found("5", "$..a");
    }

    /** "for each document asked, one after the other by ids": 0 up to 7, in whatever order they were put. */
    private static void resultsByIds() {
        Trial t = new Trial("results by ids");
        for (int id : new int[] {7, 3, 0, 4, 1, 6, 2, 5}) {
            t.put("[" + id + "]", id, 2);
        }
        t.query("$[0]", -1, -1, 8);
        t.results("0:0", "1:1", "2:2", "3:3", "4:4", "5:5", "6:6", "7:7");
        t.query("$[0]", -1, 0, 1);
        t.results("0:0");
        t.query("$[0]", -1, 7, 1);
        t.results("7:7");
    }

    private static void noResultsAtAll() {
        Trial t = new Trial("no documents");
        t.query("$", -1, -1, 0);
        t.results();
        t.x.open();
        t.put("1", 0, 1);
        t.query("$", -1, -1, 1);
        t.query("$", 0, -1, 0);
        t.results();
        t.x.remove(0);
        t.query("$..*", -1, -1, 0);
        t.results();
    }

    /** "When after a segment, for one document, there are more than 32 nodes": 32 are not. */
    private static void thirtyTwoNodes() {
        Trial t = new Trial("32 nodes");
        t.put("[1,2,3,4,5,6,7,8]", 0, 9);
        t.query("$[*,*,*,*]", -1, 0, 32);
        t.due("result(31)", t.x.result(31), 0);
        t.due("show(31)", t.x.show(31), 1);
        t.due("output(0)", t.x.output(0), '8');
        t.due("result(32)", t.x.result(32), BAD);
        t.query("$[*,*,*,*,0]", -1, 0, TOO_MANY);
        t.results();
        t.query("$[0,*,*,*,*]", -1, 0, TOO_MANY);
        t.query("$[*,*,*,*,8]", -1, 0, 32);
        t.query("$[*,*,*,*,*,*,*,*]", -1, 0, TOO_MANY);
        t.results();
        t.query("$..[*,*,*,*]", -1, 0, 32);
        t.query("$..[*,*,*,*,-1]", -1, 0, TOO_MANY);
        t.query("$[*,*].*", -1, 0, 0);
        t.put("[" + row("1", 23) + "]", 0, 24);
        t.query("$[*]", -1, 0, 23);
        t.query("$[*,0,0,0,0,0,0,0]", -1, 0, 30);
        t.query("$[*,*]", -1, 0, TOO_MANY);
        t.results();
    }

    /** Also when a later segment would leave fewer. */
    private static void thirtyTwoNodesOnTheWay() {
        Trial t = new Trial("32 nodes on the way");
        t.put("[1,2,3,4,5,6,7,[8]]", 0, 10);
        t.query("$[*,*,*,*].*", -1, 0, 4);
        t.results("0:8", "0:8", "0:8", "0:8");
        t.query("$[*,*,*,*,0].*", -1, 0, TOO_MANY);
        t.results();
        t.query("$[*,*,*,*,0].x", -1, 0, TOO_MANY);
        t.query("$[*,*,*,*,0]..x", -1, 0, TOO_MANY);
        t.query("$.x[*,*,*,*,0]", -1, 0, 0);
        t.query("$[*,*,*,*].x", -1, 0, 0);
    }

    /** "or more than 32 results in all" */
    private static void thirtyTwoResultsInAll() {
        Trial t = new Trial("32 results in all");
        t.put("[1,2,3,4,5,6,7,8]", 2, 9);
        t.put("[1,2,3,4,5,6,7,8]", 5, 9);
        t.query("$[*,*]", -1, -1, 32);
        t.due("result(15)", t.x.result(15), 2);
        t.due("result(16)", t.x.result(16), 5);
        t.due("result(31)", t.x.result(31), 5);
        t.due("result(32)", t.x.result(32), BAD);
        t.put("[]", 0, 1);
        t.put("7", 7, 1);
        t.query("$[*,*]", -1, -1, 32);
        t.put("[7]", 7, 2);
        t.query("$[*,*]", -1, -1, TOO_MANY);
        t.results();
        t.query("$[*,*]", -1, 5, 16);
        t.x.remove(7);
        t.query("$[*,*,0]", -1, -1, TOO_MANY);
        t.query("$[*,*,8]", -1, -1, 32);
    }

    /** On the way each document has 32 nodes of its own, whatever the others have. */
    private static void forOneDocument() {
        Trial t = new Trial("for one document");
        for (int id = 0; id < 3; id++) {
            t.put("[1,2,3,4,5,6,7,[8]]", id, 10);
        }
        t.query("$[*,*,*,*].*", -1, -1, 12);
        t.query("$[*,*,*,*].x", -1, -1, 0);
        t.put("[1,2,3,4,5,6,7,8,9]", 7, 10);
        t.query("$[*,*,*,*].*", -1, -1, TOO_MANY);
        t.results();
        t.query("$[*,*,*,*].*", -1, 0, 4);
        t.put("[1,2,3,4,5,6,7,8]", 7, 9);
        t.query("$[*,*,*,*].*", -1, -1, 12);
    }
}
