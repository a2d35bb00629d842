/** Cases of a promise, or of a section of the document: each method without arguments is one. */
abstract class Cases {
    static void due(String... rows) {
        Run.of(rows);
    }
}
