/** What the tests by hand share: counting wrong answers, telling texts, and building small deserts. */
abstract class Due {
    private static int wrong = 0;
    private static String heading = "";

    /** What the next answers are due by: a promise, or a sentence of the document. */
    static void by(String words) {
        heading = words;
    }

    static void due(String call, int got, int want) {
        if (got != want) {
            wrong++;
            System.out.println(heading + ": " + call + " answered " + got + ", due is " + want);
        }
    }

    static void due(String call, boolean got, boolean want) {
        due(call, got ? 1 : 0, want ? 1 : 0);
    }

    static void due(String call, String got, String want) {
        if (!got.equals(want)) {
            wrong++;
            System.out.println(heading + ": " + call + " shows\n  " + got + "\n  due is\n  " + want);
        }
    }

    static void finish(String name) {
        System.out.println(wrong == 0 ? name + ": all answers are as due" : name + ": " + wrong + " answers are not as due");
        if (wrong != 0) {
            System.exit(1);
        }
    }

    /** The TAPE is these signs alone. */
    static void tape(PillarSaints x, String s) {
        x.end(0);
        for (int i = 0; i < s.length(); i += 20) {
            int[] a = new int[5];
            for (int j = 0; j < 20; j++) {
                a[j / 4] = a[j / 4] << 8 | (i + j < s.length() ? s.charAt(i + j) : ' ');
            }
            x.feed(a[0], a[1], a[2], a[3], a[4]);
        }
        x.end(s.length());
    }

    static int told(PillarSaints x, int k, String s) {
        tape(x, s);
        return x.text(k);
    }

    static void fine(PillarSaints x, int k, String s, int lines) {
        text(x, k, s, lines, 0, -1);
    }

    static void faulty(PillarSaints x, int k, String s, int fault, int place) {
        text(x, k, s, -1, fault, place);
    }

    private static void text(PillarSaints x, int k, String s, int lines, int fault, int place) {
        due("text(" + k + ") of \"" + s + "\"", told(x, k, s), lines);
        due("fault(0) of \"" + s + "\"", x.fault(0), fault);
        due("fault(1) of \"" + s + "\"", x.fault(1), place);
    }

    /** Pillars so tall, and nobody. */
    static PillarSaints row(int... tall) {
        PillarSaints x = new PillarSaints();
        for (int t : tall) {
            x.pillar(t);
        }
        return x;
    }

    /** Pillars, and saints of 20 with these doctrines: the first sits highest. */
    static PillarSaints crowd(int pillars, int... doctrines) {
        PillarSaints x = new PillarSaints();
        for (int i = 0; i < pillars; i++) {
            x.pillar(10);
        }
        for (int d : doctrines) {
            x.saint(20, 5, d);
        }
        return x;
    }

    /** A crowd that neither eats, dies nor leans, but for what these lines ahead of that tell. */
    static PillarSaints calm(String lines, int pillars, int... doctrines) {
        PillarSaints x = crowd(pillars, doctrines);
        told(x, 0, lines + "eats 0;dies 0;leans 0;");
        return x;
    }
}
