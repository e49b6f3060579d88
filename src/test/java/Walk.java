/** A walk through the document from its first line: what is quoted next must go on where it stands. */
final class Walk {
    private static int at = 0;

    private Walk() {
    }

    /** Quotes the next sentence of the document; the answers from here on show that it holds. */
    static void next(String quote) {
        goOn(quote);
        Check.sentence(quote);
    }

    /** Quotes what comes next but promises nothing: a heading, or what the document leaves free. */
    static void free(String quote) {
        goOn(quote);
    }

    /** Quotes the heading and the signature of a promise. */
    static void promise(int number, String name, String signature) {
        next("## Promise " + number + ": " + name + " `" + signature + "`");
    }

    /** What stands between two signs that come next. */
    static String between(String opener, String closer) {
        next(opener);
        String document = Check.document();
        int end = document.indexOf(closer, at);
        Check.that("the document closes " + opener, end >= 0);
        String inside = document.substring(at, Math.max(at, end)).trim();
        free(inside);
        free(closer);
        return inside;
    }

    private static void goOn(String quote) {
        String document = Check.document();
        while (at < document.length() && document.charAt(at) == ' ') {
            at++;
        }
        boolean found = document.startsWith(quote, at);
        String due = document.substring(at, Math.min(document.length(), at + quote.length() + 20));
        Check.dueText("the walk goes on", found ? due : quote, due);
        at = found ? at + quote.length() : at;
    }

    static void end() {
        Check.dueText("behind the walk", Check.document().substring(at).trim(), "");
    }
}
