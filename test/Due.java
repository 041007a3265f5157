/** What the tests share: an answer held against the one that is due, and a town told in letters. */
final class Due {
    private static int wrong = 0;
    private static String sentence = "";

    private Due() {
    }

    /** The document's words by which the answers behind are due. */
    static void says(String words) {
        sentence = "\"" + words + "\": ";
    }

    static void is(String call, long want, long got) {
        if (got != want) {
            wrong++;
            if (wrong <= 200) {
                System.out.println(sentence + call + " answered " + got + ", due is " + want);
            }
        }
    }

    static void holds(String what, boolean held) {
        is(what, 1, held ? 1 : 0);
    }

    static void tell(CrossesAllOld x, String letters) {
        for (int i = 0; i < letters.length(); i++) {
            x.letter(letters.charAt(i));
        }
    }

    static int town(CrossesAllOld x, String letters) {
        tell(x, letters);
        return x.town();
    }

    static CrossesAllOld with(String letters) {
        CrossesAllOld x = new CrossesAllOld();
        holds("the town " + letters + " has no fault", town(x, letters) > 0);
        return x;
    }

    /** A town of the first so many streets of these, of none too. */
    static CrossesAllOld first(String[] streets, int many) {
        CrossesAllOld x = new CrossesAllOld();
        StringBuilder text = new StringBuilder();
        for (int s = 0; s < many; s++) {
            text.append(streets[s]);
        }
        is("streets told", many == 0 ? -1000 : many, town(x, text.toString()));
        return x;
    }

    static String number(int number) {
        return (number < 0 ? "-" : "+") + Math.abs(number);
    }

    /** The call refused once just now, and nothing else was: the refusal's count is one more. */
    static void refusals(CrossesAllOld x, String when, int... due) {
        for (int what = 11; what <= 16; what++) {
            is("count(" + what + ") " + when, what - 11 < due.length ? due[what - 11] : 0, x.count(what));
        }
    }

    static void end(String test) {
        System.out.println(test + (wrong == 0 ? ": all answers are as due" : ": " + wrong + " answers are not as due"));
        if (wrong != 0) {
            System.exit(1);
        }
    }
}
