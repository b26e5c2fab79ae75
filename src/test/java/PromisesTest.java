public final class PromisesTest { public static void main(String[] a) { } }
