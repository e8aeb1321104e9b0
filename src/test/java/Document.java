import java.io.IOException;
import java.nio.file.Files;
import java.nio.file.Path;

/** The document's text, with one blank wherever it has several or a new line, and where its parts stand. */
final class Document {
    static final int PROMISES = 23;
    final String text;

    Document() throws IOException {
        text = Files.readString(Path.of("../shared/DOC.md")).replaceAll("\\s+", " ");
    }

    /** Where the part of a promise begins; that of 0 is all ahead of the first promise. */
    int start(int promise) {
        return promise == 0 ? 0 : text.indexOf("## Promise " + promise + ":");
    }

    int end(int promise) {
        return promise == PROMISES ? text.indexOf("## Not promised") : start(promise + 1);
    }

    /** The place of words within a promise; -1, if they do not stand there. */
    int placeOf(int promise, String words) {
        int place = start(promise) < 0 ? -1 : text.indexOf(words, start(promise));
        return place >= 0 && place + words.length() <= end(promise) ? place : -1;
    }
}
