/** What the tests share: answers are compared and counted, the wrong ones are printed. */
final class Due {
    private static int right = 0;
    private static int wrong = 0;

    private Due() {
    }

    static void is(String call, long got, long want) {
        if (got == want) {
            right++;
        } else {
            wrong++;
            System.out.println(call + " answered " + got + ", due is " + want);
        }
    }

    static void holds(String what, boolean is) {
        if (is) {
            right++;
        } else {
            wrong++;
            System.out.println("does not hold: " + what);
        }
    }

    static int wrong() {
        return wrong;
    }

    static void feed(NotTwice x, String text) {
        for (int i = 0; i < text.length(); i++) {
            x.feed(text.charAt(i));
        }
    }

    static int read(NotTwice x, String text) {
        feed(x, text);
        return x.text();
    }

    /** A text is read and made the rule. */
    static void rule(NotTwice x, String text) {
        int number = read(x, text);
        holds("a text is read: " + text, number > 0);
        x.force(number);
    }

    static void close(String test) {
        System.out.println(test + ": " + right + " answers as due, " + wrong + " not");
        if (wrong != 0) {
            System.exit(1);
        }
    }
}
