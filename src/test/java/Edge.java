/**
 * How a test of an edge is written: it names a promise and a sentence of it, tells the steps that lead
 * to the edge, makes one call there, and tells what is due. Steps are made anew on a fresh object for
 * each call. After a call that throws, all that can be seen must be as it was, but for the reason.
 */
final class Edge {
    interface Steps {
        void on(Box box);

        default Steps then(Steps more) {
            return box -> {
                on(box);
                more.on(box);
            };
        }
    }

    interface Ask {
        Object of(Box box);
    }

    static final Steps NEW = box -> { };

    private static int tested = 0;
    private static int wrong = 0;
    private static int sentences = 0;
    private static String named = "no sentence";

    private Edge() {
    }

    /** What follows tests this sentence; a part of its words is enough. */
    static void sentence(String section, String words) {
        named = section + ", \"" + words + "\"";
        sentences++;
        if (!Doc.name(section, words)) tell("are not the words of one sentence there");
    }

    private static void tell(String what) {
        wrong++;
        StackTraceElement at = new Throwable().getStackTrace()[2];
        for (StackTraceElement frame : new Throwable().getStackTrace()) {
            if (frame.getClassName().endsWith("Edges")) {
                at = frame;
                break;
            }
        }
        System.out.println(named + " (" + at.getFileName() + ":" + at.getLineNumber() + ") " + what);
    }

    private static void compare(String what, Object want, Object got) {
        tested++;
        if (!String.valueOf(got).equals(String.valueOf(want))) {
            tell(what + " " + got + ", due is " + want);
        }
    }

    // steps

    static Steps type(String text) {
        return box -> box.type(text);
    }

    static Steps hall(String map) {
        return box -> {
            box.type(map);
            box.load();
        };
    }

    /** Performances at the full price. */
    static Steps at(int... starts) {
        return box -> {
            for (int start : starts) {
                box.addPerformance(start, 100);
            }
        };
    }

    /** A hall and performances at the full price. */
    static Steps open(String map, int... starts) {
        return hall(map).then(at(starts));
    }

    /** A hold of single seats of customer 0 for a set, for an hour, and its confirmation. */
    static Steps sold(int order, int set, int seats) {
        return box -> {
            box.hold(0, set, seats, 0, 0, 60);
            box.confirm(order);
        };
    }

    static Steps times(int n, Steps steps) {
        return box -> {
            for (int i = 0; i < n; i++) {
                steps.on(box);
            }
        };
    }

    /** Up to a time, from 0, in as few calls as there can be. */
    static Steps until(int time) {
        return box -> {
            for (int left = time; left > 0; left -= 10000) {
                box.advance(Math.min(left, 10000));
            }
        };
    }

    static String rows(int n, String row) {
        return (row + "/").repeat(n - 1) + row;
    }

    // what is due

    /** The call answers this. */
    static void due(Object want, Steps steps, Ask call) {
        Box box = new Box();
        steps.on(box);
        compare("answered", want, outcome(box, call));
    }

    /** The call answers this, and changes nothing. */
    static void asked(Object want, Steps steps, Ask call) {
        due(want, steps, call);
        compare("changed the state to", "the same", same(Seen.whole(steps), Seen.whole(steps.then(call::of))));
    }

    /** Tells where two states begin to differ. */
    private static String same(String before, String after) {
        if (before.equals(after)) {
            return "the same";
        }
        int at = 0;
        while (at < before.length() && at < after.length() && before.charAt(at) == after.charAt(at)) {
            at++;
        }
        return "another one, at " + at + ": \"" + part(after, at) + "\" where \"" + part(before, at) + "\" was";
    }

    private static String part(String text, int at) {
        return text.substring(Math.max(0, at - 10), Math.min(text.length(), at + 20));
    }

    /** The answer as a text, or the name of the exception. */
    static String outcome(Box box, Ask call) {
        try {
            return String.valueOf(call.of(box));
        } catch (RuntimeException e) {
            return e.getClass().getSimpleName();
        }
    }

    private static void thrown(String exception, int reason, Steps steps, Ask call) {
        Box box = new Box();
        steps.on(box);
        int before = box.reason();
        compare("answered", exception, outcome(box, call));
        compare("kept the reason", reason < 0 ? before : reason, box.reason());
        Steps tried = steps.then(b -> outcome(b, call));
        compare("changed the state to", "the same", same(Seen.whole(steps), Seen.whole(tried)));
    }

    /** The call is refused for a reason; nothing else changes. */
    static void refused(int reason, Steps steps, Ask call) {
        thrown("IllegalStateException", reason, steps, call);
    }

    static void range(Steps steps, Ask call) {
        thrown("IndexOutOfBoundsException", -1, steps, call);
    }

    static void argument(Steps steps, Ask call) {
        thrown("IllegalArgumentException", -1, steps, call);
    }

    static void missing(Steps steps, Ask call) {
        thrown("NoSuchElementException", -1, steps, call);
    }

    static void division(Steps steps, Ask call) {
        thrown("ArithmeticException", -1, steps, call);
    }

    /** A text that load refuses as malformed; but for the buffer and the error position, nothing changes. */
    static void malformed(int position, Steps steps, String text) {
        Steps tried = loaded("IllegalArgumentException", steps, text);
        due(position, tried, Box::errorPosition);
    }

    /** A map that load refuses as too large; but for the buffer, nothing changes. */
    static void tooLarge(Steps steps, String text) {
        Box box = new Box();
        steps.on(box);
        String position = outcome(box, Box::errorPosition);
        Steps tried = loaded("UnsupportedOperationException", steps, text);
        due(position, tried, Box::errorPosition);
    }

    private static Steps loaded(String exception, Steps steps, String text) {
        Box box = new Box();
        steps.then(type(text)).on(box);
        int before = box.reason();
        compare("answered", exception, outcome(box, Box::load));
        compare("kept the reason", before, box.reason());
        Steps tried = steps.then(type(text)).then(b -> outcome(b, Box::load));
        compare("changed the state to", "the same", same(Seen.office(steps), Seen.office(tried)));
        due(1, tried, b -> b.append('1'));
        return tried;
    }

    /** Two ways to the same state, but for the reason. */
    static void alike(Steps one, Steps other) {
        compare("leads to", "the same", same(Seen.whole(one), Seen.whole(other)));
    }

    /** As above, but what undo and restore lead to may differ. */
    static void alikeNow(Steps one, Steps other) {
        compare("leads to", "the same", same(Seen.present(one), Seen.present(other)));
    }

    static void end(String name) {
        if (!Doc.isThere()) System.out.println(name + ": the document is not there; what is quoted was not compared");
        for (String sentence : Doc.unnamed()) {
            wrong++;
            System.out.println("no test names the sentence " + sentence);
        }
        System.out.println(name + ": " + sentences + " tests of sentences, " + tested + " comparisons, "
                + wrong + " wrong");
        if (wrong > 0) {
            System.exit(1);
        }
    }
}
