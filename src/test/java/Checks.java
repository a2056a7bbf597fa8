import java.util.NoSuchElementException;

/** What the tests share: looms told by a text, and answers held against those that are due. */
final class Checks {
    /** A call whose answer, or exception, is asked for. */
    interface Call {
        int answer();
    }

    private int wrong = 0;
    private int right = 0;
    private String topic = "";

    void topic(String name) {
        topic = name;
    }

    void due(String call, long want, long got) {
        if (got == want) {
            right++;
        } else {
            wrong++;
            System.out.println(topic + ": " + call + " answered " + got + ", due is " + want);
        }
    }

    void none(String call, Call made) {
        due(call + " throws NoSuchElementException", 1, thrown(made));
    }

    void bad(String call, Call made) {
        due(call + " throws IllegalArgumentException", 2, thrown(made));
    }

    private static int thrown(Call made) {
        try {
            made.answer();
            return 0;
        } catch (NoSuchElementException e) {
            return 1;
        } catch (IllegalArgumentException e) {
            return 2;
        }
    }

    static void feed(RibLoom x, String text) {
        StringBuilder s = new StringBuilder(text);
        while (s.length() % 20 != 0) {
            s.append(' ');
        }
        for (int i = 0; i < s.length(); i += 20) {
            int[] n = new int[5];
            for (int j = 0; j < 20; j++) {
                n[j / 4] = n[j / 4] << 8 | s.charAt(i + j);
            }
            x.feed(n[0], n[1], n[2], n[3], n[4]);
        }
    }

    static int tell(RibLoom x, String text) {
        feed(x, text);
        return x.loom(text.length());
    }

    RibLoom told(String text) {
        RibLoom x = new RibLoom();
        due("loom of " + text, 0, tell(x, text));
        return x;
    }

    void fault(String text, int code, int place) {
        RibLoom x = new RibLoom();
        due("loom of '" + text + "'", code, tell(x, text));
        due("fault() of '" + text + "'", place, x.fault());
        due("STATUS 0 of '" + text + "'", code == 0 ? 0 : 1, x.count(13));
    }

    /** Prints the sum and ends with exit code 1 if an answer was not as due. */
    void close(String test) {
        System.out.println(test + ": " + right + " answers as due, " + wrong + " not");
        if (wrong != 0) {
            System.exit(1);
        }
    }
}
